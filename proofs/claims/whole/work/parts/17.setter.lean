section G17
variable {p : Program} {l : Launch} {e : Env} {R : Room} {s : State} {m : MethodId} {args : Array Value} {below : List Frame} {meth : Method} {c : Code} {H : Heap} {locs : List Loc} {cells slots : Nat} {Q : State → Prop}
variable {cc : ByteArray} {pc : Nat} {ls : Array Slot} {rest : List Value} {G : Gt} {b : Nat}

set_option maxHeartbeats 4000000 in
set_option maxRecDepth 100000 in
theorem wk_X11_append {a1 : Int32} {a2 : Int32} {a3 : Int32} {a4 : Int32} {a5 : Int32} {μ : Mm} {out : ((Nat × Mm) ⊕ (Int32 × Mm))} (F : FX G b RX11 cX11_append 6 p s m args meth c) (hr : meth.sig.returnType = some .int) (hlT : l.stackTraces = false) (hnt : ∀ x ∈ c.exceptionTable.toList, False) (h : sh_X11_append a1 a2 a3 a4 a5 μ = some out) (hW : WH G b μ H) (hS : va_S (fb b) s.heap H locs) (hl : lv_has ls 6 [(0, .ref (b + 0)), (1, .int a1), (2, .int a2), (3, .int a3), (4, .int a4), (5, .int a5)]) : W p l e ({ frames := 6, cells := 1, slots := 6, locals := 90 } : Room) s m args below meth c H locs 0 0 (vx_MQ below (QN G b (Sum.elim (fun _ => none) (fun (v : (Int32 × Mm)) => some (v.2, (some (.int v.1)))) out)) (XN G b (Sum.elim (fun (q : Nat × Mm) => some q) (fun _ => none) out)) args s 1 6 (fb b)) (F0 m 0 ls []) := by
  have hx := F.1
  have hb := F.2.1
  unfold sh_X11_append at h
  refine lv_aload_n hx hb dX11_append_0 rfl (lv_at hl 0 rfl) ?_
  refine fl_get11 (v := .ref (b + 1)) kyf_0 F hW 0 (by decide) q_532 rfl rfl dX11_append_1 ?_
  obtain ⟨r1, qr1, h⟩ := ob h
  refine k_X8_length F ok_1 qr1 q_865 ⟨Nat.le_of_ble_eq_true rfl, Nat.le_of_ble_eq_true rfl, Nat.le_of_ble_eq_true rfl, Nat.le_of_ble_eq_true rfl⟩ hW hS hl.1 (Nat.le_of_ble_eq_true rfl) dX11_append_4 (fun H locs hW hS => ?_)
  refine lv_bipush (v := (20 : Int32)) hx hb dX11_append_7 (by decide) ?_
  refine lv_iadd hx hb dX11_append_9 ?_
  refine lv_sipush (v := (1100 : Int32)) hx hb dX11_append_10 (by decide) ?_
  refine lv_icmp_le (tgt := 26) hx hb dX11_append_13 (by decide) (fun cc => ?_) (fun cc => ?_)
  · replace h := (if_pos cc).symm.trans h
    refine lv_aload_n hx hb dX11_append_26 rfl (lv_at hl 0 rfl) ?_
    refine fl_get11 (v := .ref (b + 1)) kyf_0 F hW 0 (by decide) q_532 rfl rfl dX11_append_27 ?_
    refine lv_iload_n hx hb dX11_append_30 rfl (lv_at hl 1 rfl) ?_
    obtain ⟨r2, qr2, h⟩ := ob h
    refine k_X8_putFour F ok_1 qr2 q_1052 ⟨Nat.le_of_ble_eq_true rfl, Nat.le_of_ble_eq_true rfl, Nat.le_of_ble_eq_true rfl, Nat.le_of_ble_eq_true rfl⟩ hW hS hl.1 (Nat.le_of_ble_eq_true rfl) dX11_append_31 (fun H locs hW hS => ?_)
    refine lv_aload_n hx hb dX11_append_34 rfl (lv_at hl 0 rfl) ?_
    refine fl_get11 (v := .ref (b + 1)) kyf_0 F hW 0 (by decide) q_532 rfl rfl dX11_append_35 ?_
    refine lv_iload_n hx hb dX11_append_38 rfl (lv_at hl 2 rfl) ?_
    obtain ⟨r3, qr3, h⟩ := ob h
    refine k_X8_putFour F ok_1 qr3 q_1052 ⟨Nat.le_of_ble_eq_true rfl, Nat.le_of_ble_eq_true rfl, Nat.le_of_ble_eq_true rfl, Nat.le_of_ble_eq_true rfl⟩ hW hS hl.1 (Nat.le_of_ble_eq_true rfl) dX11_append_39 (fun H locs hW hS => ?_)
    refine lv_aload_n hx hb dX11_append_42 rfl (lv_at hl 0 rfl) ?_
    refine fl_get11 (v := .ref (b + 1)) kyf_0 F hW 0 (by decide) q_532 rfl rfl dX11_append_43 ?_
    refine lv_iload_n hx hb dX11_append_46 rfl (lv_at hl 3 rfl) ?_
    obtain ⟨r4, qr4, h⟩ := ob h
    refine k_X8_putFour F ok_1 qr4 q_1052 ⟨Nat.le_of_ble_eq_true rfl, Nat.le_of_ble_eq_true rfl, Nat.le_of_ble_eq_true rfl, Nat.le_of_ble_eq_true rfl⟩ hW hS hl.1 (Nat.le_of_ble_eq_true rfl) dX11_append_47 (fun H locs hW hS => ?_)
    refine lv_aload_n hx hb dX11_append_50 rfl (lv_at hl 0 rfl) ?_
    refine fl_get11 (v := .ref (b + 1)) kyf_0 F hW 0 (by decide) q_532 rfl rfl dX11_append_51 ?_
    refine lv_iload hx hb dX11_append_54 (lv_at hl 4 rfl) ?_
    obtain ⟨r5, qr5, h⟩ := ob h
    refine k_X8_putFour F ok_1 qr5 q_1052 ⟨Nat.le_of_ble_eq_true rfl, Nat.le_of_ble_eq_true rfl, Nat.le_of_ble_eq_true rfl, Nat.le_of_ble_eq_true rfl⟩ hW hS hl.1 (Nat.le_of_ble_eq_true rfl) dX11_append_56 (fun H locs hW hS => ?_)
    refine lv_aload_n hx hb dX11_append_59 rfl (lv_at hl 0 rfl) ?_
    refine fl_get11 (v := .ref (b + 1)) kyf_0 F hW 0 (by decide) q_532 rfl rfl dX11_append_60 ?_
    refine lv_iload hx hb dX11_append_63 (lv_at hl 5 rfl) ?_
    obtain ⟨r6, qr6, h⟩ := ob h
    refine k_X8_putFour F ok_1 qr6 q_1052 ⟨Nat.le_of_ble_eq_true rfl, Nat.le_of_ble_eq_true rfl, Nat.le_of_ble_eq_true rfl, Nat.le_of_ble_eq_true rfl⟩ hW hS hl.1 (Nat.le_of_ble_eq_true rfl) dX11_append_65 (fun H locs hW hS => ?_)
    refine lv_aload_n hx hb dX11_append_68 rfl (lv_at hl 0 rfl) ?_
    refine fl_get11 (v := .ref (b + 1)) kyf_0 F hW 0 (by decide) q_532 rfl rfl dX11_append_69 ?_
    obtain ⟨r7, qr7, h⟩ := ob h
    refine k_X8_length F ok_1 qr7 q_865 ⟨Nat.le_of_ble_eq_true rfl, Nat.le_of_ble_eq_true rfl, Nat.le_of_ble_eq_true rfl, Nat.le_of_ble_eq_true rfl⟩ hW hS hl.1 (Nat.le_of_ble_eq_true rfl) dX11_append_72 (fun H locs hW hS => ?_)
    cases h
    exact x_int F hr (Nat.le_of_ble_eq_true rfl) (Nat.le_of_ble_eq_true rfl) hW hS dX11_append_75
  · replace h := (if_neg cc).symm.trans h
    cases h
    exact x_throw (ec := 0) F hlT hnt q_984 q_18 (is := 95) (text := "the input buffer is full") (t := 13) (by decide +kernel) (by decide +kernel) (hat_0 F.2.2.2.2.1 F.2.2.2.2.2.2.1) hgd_0 hl.1 dX11_append_16 dX11_append_19 dX11_append_20 dX11_append_22 dX11_append_25 ⟨Nat.le_of_ble_eq_true rfl, Nat.le_of_ble_eq_true rfl, Nat.le_of_ble_eq_true rfl, Nat.le_of_ble_eq_true rfl⟩ (Nat.le_of_ble_eq_true rfl) (Nat.le_of_ble_eq_true rfl) hW hS
set_option maxHeartbeats 4000000 in
set_option maxRecDepth 100000 in
theorem c_X11_append {l : Launch} (hlT : l.stackTraces = false) {G : Gt} {b : Nat} {a1 : Int32} {a2 : Int32} {a3 : Int32} {a4 : Int32} {a5 : Int32} {μ : Mm} {out : ((Nat × Mm) ⊕ (Int32 × Mm))} (h : sh_X11_append a1 a2 a3 a4 a5 μ = some out) : vx_Met l yX11_append (wU (Cond.code yX11_append cX11_append 6 (some .int))) ({ frames := 6, cells := 1, slots := 6, locals := 90 } : Room) (PcW G b μ [.ref (b + 0), .int a1, .int a2, .int a3, .int a4, .int a5]) (QN G b (Sum.elim (fun _ => none) (fun (v : (Int32 × Mm)) => some (v.2, (some (.int v.1)))) out)) (XN G b (Sum.elim (fun (q : Nat × Mm) => some q) (fun _ => none) out)) 1 6 (fb b) :=
  xmet_of [.ref (b + 0), .int a1, .int a2, .int a3, .int a4, .int a5] (by decide) (Nat.le_of_ble_eq_true rfl) (fun F hr hnt hW hl => wk_X11_append F hr hlT hnt h hW va_S.rf hl)
set_option maxHeartbeats 4000000 in
set_option maxRecDepth 100000 in
theorem k_X11_append {own : String} {nL : Nat} (F : FX G b own cc nL p s m args meth c) (hlT : l.stackTraces = false) {a1 : Int32} {a2 : Int32} {a3 : Int32} {a4 : Int32} {a5 : Int32} {μ : Mm} {out : ((Nat × Mm) ⊕ (Int32 × Mm))} (h : sh_X11_append a1 a2 a3 a4 a5 μ = some out) {index : Nat} (hl : Cond.methodLink own index yX11_append ∈ TBG) (hR : 6 + 1 ≤ R.frames ∧ 8 + (6 + 11) + 90 ≤ R.locals ∧ cells + 1 ≤ R.cells ∧ slots + 6 ≤ R.slots) (hW : WH G b μ H) (hS : va_S (fb b) s.heap H locs) (hsz : ls.size = nL) (hrest : (rest.map fun v => v.category).sum ≤ 8) (hdg : decode cc pc = .ok (.invokevirtual index, 3))
    (kx : ∀ (q : Nat × Mm), out = .inl q → ∀ (ce : Cell) (q9 : Addr) (H1 : Heap) (locs1 : List Loc), WH G b q.2 H1 → va_S (fb b) s.heap H1 locs1 → H1[q9]? = some ce → ce.vm = .none → s.vm.findClass (exN q.1) = some ce.cls → vx_W p l e R s m args below meth c H1 locs1 (cells + 1) (slots + 6) Q (F0 m pc ls rest) q9)
    (kk : ∀ (v : (Int32 × Mm)), out = .inr v → ∀ (H1 : Heap) (locs1 : List Loc), WH G b v.2 H1 → va_S (fb b) s.heap H1 locs1 → W p l e R s m args below meth c H1 locs1 (cells + 1) (slots + 6) Q (F0 m (pc + 3) ls (.int v.1 :: rest))) : W p l e R s m args below meth c H locs cells slots Q (F0 m pc ls (.int a5 :: .int a4 :: .int a3 :: .int a2 :: .int a1 :: .ref (b + 0) :: rest)) := by
  cases out with
  | inl q => exact fx_callV (As := [.int a1, .int a2, .int a3, .int a4, .int a5]) (ci := 11) (c_X11_append hlT h) ⟨rfl, rfl⟩ rfl (ky_lt kyf_0 (by decide)) (wF_11 kyf_0) q_981 q_982 q_1 q_983 rfl ⟨by decide +kernel, by decide +kernel, (show (parseMethodDescriptor yX11_append.desc).map (fun d => d.parameters.length) = some 5 by decide +kernel)⟩ F hl hR hW hS hsz hrest rfl hdg (fun z hz => by obtain rfl := Option.some.inj hz; exact kx _ rfl) (fun z hz => nomatch (show (none : Option (Mm × Option Value)) = some z from hz))
  | inr v => exact fx_callV (As := [.int a1, .int a2, .int a3, .int a4, .int a5]) (ci := 11) (c_X11_append hlT h) ⟨rfl, rfl⟩ rfl (ky_lt kyf_0 (by decide)) (wF_11 kyf_0) q_981 q_982 q_1 q_983 rfl ⟨by decide +kernel, by decide +kernel, (show (parseMethodDescriptor yX11_append.desc).map (fun d => d.parameters.length) = some 5 by decide +kernel)⟩ F hl hR hW hS hsz hrest rfl hdg (fun z hz => nomatch (show (none : Option (Nat × Mm)) = some z from hz)) (fun z hz => by obtain rfl := Option.some.inj hz; exact kk _ rfl)
set_option maxHeartbeats 4000000 in
set_option maxRecDepth 100000 in
theorem wk_X11_truncate_15 {a1 : Int32} {μ : Mm} {out : ((Nat × Mm) ⊕ Mm)} (F : FX G b RX11 cX11_truncate 2 p s m args meth c) (hr : meth.sig.returnType = none) (hlT : l.stackTraces = false) (hnt : ∀ x ∈ c.exceptionTable.toList, False) (h : sh_X11_truncate_15 a1 μ = some out) (hW : WH G b μ H) (hS : va_S (fb b) s.heap H locs) (hl : lv_has ls 2 []) : W p l e ({ frames := 6, cells := 1, slots := 6, locals := 90 } : Room) s m args below meth c H locs 0 0 (vx_MQ below (QN G b (Sum.elim (fun _ => none) (fun (v : Mm) => some (v, none)) out)) (XN G b (Sum.elim (fun (q : Nat × Mm) => some q) (fun _ => none) out)) args s 1 6 (fb b)) (F0 m 15 ls []) := by
  have hx := F.1
  have hb := F.2.1
  unfold sh_X11_truncate_15 at h
  cases h
  exact x_throw (ec := 1) F hlT hnt q_1064 q_19 (is := 105) (text := "no such length") (t := 14) (by decide +kernel) (by decide +kernel) (hat_1 F.2.2.2.2.1 F.2.2.2.2.2.2.1) hgd_1 hl.1 dX11_truncate_15 dX11_truncate_18 dX11_truncate_19 dX11_truncate_21 dX11_truncate_24 ⟨Nat.le_of_ble_eq_true rfl, Nat.le_of_ble_eq_true rfl, Nat.le_of_ble_eq_true rfl, Nat.le_of_ble_eq_true rfl⟩ (Nat.le_of_ble_eq_true rfl) (Nat.le_of_ble_eq_true rfl) hW hS
set_option maxHeartbeats 4000000 in
set_option maxRecDepth 100000 in
theorem wk_X11_truncate {a1 : Int32} {μ : Mm} {out : ((Nat × Mm) ⊕ Mm)} (F : FX G b RX11 cX11_truncate 2 p s m args meth c) (hr : meth.sig.returnType = none) (hlT : l.stackTraces = false) (hnt : ∀ x ∈ c.exceptionTable.toList, False) (h : sh_X11_truncate a1 μ = some out) (hW : WH G b μ H) (hS : va_S (fb b) s.heap H locs) (hl : lv_has ls 2 [(0, .ref (b + 0)), (1, .int a1)]) : W p l e ({ frames := 6, cells := 1, slots := 6, locals := 90 } : Room) s m args below meth c H locs 0 0 (vx_MQ below (QN G b (Sum.elim (fun _ => none) (fun (v : Mm) => some (v, none)) out)) (XN G b (Sum.elim (fun (q : Nat × Mm) => some q) (fun _ => none) out)) args s 1 6 (fb b)) (F0 m 0 ls []) := by
  have hx := F.1
  have hb := F.2.1
  unfold sh_X11_truncate at h
  refine lv_iload_n hx hb dX11_truncate_0 rfl (lv_at hl 1 rfl) ?_
  refine lv_if_lt (tgt := 15) hx hb dX11_truncate_1 (by decide) (fun cc => ?_) (fun cc => ?_)
  · replace h := (if_pos cc).symm.trans h
    exact wk_X11_truncate_15 F hr hlT hnt h hW hS (lv_sub hl [] rfl)
  · replace h := (if_neg cc).symm.trans h
    refine lv_iload_n hx hb dX11_truncate_4 rfl (lv_at hl 1 rfl) ?_
    refine lv_aload_n hx hb dX11_truncate_5 rfl (lv_at hl 0 rfl) ?_
    refine fl_get11 (v := .ref (b + 1)) kyf_0 F hW 0 (by decide) q_532 rfl rfl dX11_truncate_6 ?_
    obtain ⟨r1, qr1, h⟩ := ob h
    refine k_X8_length F ok_1 qr1 q_865 ⟨Nat.le_of_ble_eq_true rfl, Nat.le_of_ble_eq_true rfl, Nat.le_of_ble_eq_true rfl, Nat.le_of_ble_eq_true rfl⟩ hW hS hl.1 (Nat.le_of_ble_eq_true rfl) dX11_truncate_9 (fun H locs hW hS => ?_)
    refine lv_icmp_le (tgt := 25) hx hb dX11_truncate_12 (by decide) (fun cc => ?_) (fun cc => ?_)
    · replace h := (if_pos cc).symm.trans h
      refine lv_aload_n hx hb dX11_truncate_25 rfl (lv_at hl 0 rfl) ?_
      refine fl_get11 (v := .ref (b + 1)) kyf_0 F hW 0 (by decide) q_532 rfl rfl dX11_truncate_26 ?_
      refine lv_iload_n hx hb dX11_truncate_29 rfl (lv_at hl 1 rfl) ?_
      obtain ⟨r2, qr2, h⟩ := ob h
      refine k_X8_cut F ok_1 qr2 q_757 ⟨Nat.le_of_ble_eq_true rfl, Nat.le_of_ble_eq_true rfl, Nat.le_of_ble_eq_true rfl, Nat.le_of_ble_eq_true rfl⟩ hW hS hl.1 (Nat.le_of_ble_eq_true rfl) dX11_truncate_30 (fun H locs hW hS => ?_)
      cases h
      exact x_void F hr (Nat.le_of_ble_eq_true rfl) (Nat.le_of_ble_eq_true rfl) hW hS dX11_truncate_33
    · replace h := (if_neg cc).symm.trans h
      exact wk_X11_truncate_15 F hr hlT hnt h hW hS (lv_sub hl [] rfl)
set_option maxHeartbeats 4000000 in
set_option maxRecDepth 100000 in
theorem c_X11_truncate {l : Launch} (hlT : l.stackTraces = false) {G : Gt} {b : Nat} {a1 : Int32} {μ : Mm} {out : ((Nat × Mm) ⊕ Mm)} (h : sh_X11_truncate a1 μ = some out) : vx_Met l yX11_truncate (wU (Cond.code yX11_truncate cX11_truncate 2 none)) ({ frames := 6, cells := 1, slots := 6, locals := 90 } : Room) (PcW G b μ [.ref (b + 0), .int a1]) (QN G b (Sum.elim (fun _ => none) (fun (v : Mm) => some (v, none)) out)) (XN G b (Sum.elim (fun (q : Nat × Mm) => some q) (fun _ => none) out)) 1 6 (fb b) :=
  xmet_of [.ref (b + 0), .int a1] (by decide) (Nat.le_of_ble_eq_true rfl) (fun F hr hnt hW hl => wk_X11_truncate F hr hlT hnt h hW va_S.rf hl)
set_option maxHeartbeats 4000000 in
set_option maxRecDepth 100000 in
theorem k_X11_truncate {own : String} {nL : Nat} (F : FX G b own cc nL p s m args meth c) (hlT : l.stackTraces = false) {a1 : Int32} {μ : Mm} {out : ((Nat × Mm) ⊕ Mm)} (h : sh_X11_truncate a1 μ = some out) {index : Nat} (hl : Cond.methodLink own index yX11_truncate ∈ TBG) (hR : 6 + 1 ≤ R.frames ∧ 8 + (2 + 11) + 90 ≤ R.locals ∧ cells + 1 ≤ R.cells ∧ slots + 6 ≤ R.slots) (hW : WH G b μ H) (hS : va_S (fb b) s.heap H locs) (hsz : ls.size = nL) (hrest : (rest.map fun v => v.category).sum ≤ 8) (hdg : decode cc pc = .ok (.invokevirtual index, 3))
    (kx : ∀ (q : Nat × Mm), out = .inl q → ∀ (ce : Cell) (q9 : Addr) (H1 : Heap) (locs1 : List Loc), WH G b q.2 H1 → va_S (fb b) s.heap H1 locs1 → H1[q9]? = some ce → ce.vm = .none → s.vm.findClass (exN q.1) = some ce.cls → vx_W p l e R s m args below meth c H1 locs1 (cells + 1) (slots + 6) Q (F0 m pc ls rest) q9)
    (kk : ∀ (v : Mm), out = .inr v → ∀ (H1 : Heap) (locs1 : List Loc), WH G b v H1 → va_S (fb b) s.heap H1 locs1 → W p l e R s m args below meth c H1 locs1 (cells + 1) (slots + 6) Q (F0 m (pc + 3) ls (rest))) : W p l e R s m args below meth c H locs cells slots Q (F0 m pc ls (.int a1 :: .ref (b + 0) :: rest)) := by
  cases out with
  | inl q => exact fx_callV (As := [.int a1]) (ci := 11) (c_X11_truncate hlT h) ⟨rfl, rfl⟩ rfl (ky_lt kyf_0 (by decide)) (wF_11 kyf_0) q_1061 q_1062 q_1 q_1063 rfl ⟨by decide +kernel, by decide +kernel, (show (parseMethodDescriptor yX11_truncate.desc).map (fun d => d.parameters.length) = some 1 by decide +kernel)⟩ F hl hR hW hS hsz hrest rfl hdg (fun z hz => by obtain rfl := Option.some.inj hz; exact kx _ rfl) (fun z hz => nomatch (show (none : Option (Mm × Option Value)) = some z from hz))
  | inr v => exact fx_callV (As := [.int a1]) (ci := 11) (c_X11_truncate hlT h) ⟨rfl, rfl⟩ rfl (ky_lt kyf_0 (by decide)) (wF_11 kyf_0) q_1061 q_1062 q_1 q_1063 rfl ⟨by decide +kernel, by decide +kernel, (show (parseMethodDescriptor yX11_truncate.desc).map (fun d => d.parameters.length) = some 1 by decide +kernel)⟩ F hl hR hW hS hsz hrest rfl hdg (fun z hz => nomatch (show (none : Option (Nat × Mm)) = some z from hz)) (fun z hz => by obtain rfl := Option.some.inj hz; exact kk _ rfl)
set_option maxHeartbeats 4000000 in
set_option maxRecDepth 100000 in
theorem wk_X11_earlierAt {a1 : Int32} {μ : Mm} {out : Nat} (F : FX G b RX11 cX11_earlierAt 2 p s m args meth c) (hr : meth.sig.returnType = some (.object "ContentsSetter$State")) (h : sh_X11_earlierAt a1 μ = some out) (hW : WH G b μ H) (hS : va_S (fb b) s.heap H locs) (hl : lv_has ls 2 [(0, .ref (b + 0)), (1, .int a1)]) : W p l e ({ frames := 0, cells := 0, slots := 0, locals := 0 } : Room) s m args below meth c H locs 0 0 (MQ below (QW G b μ (some (.ref (b + out)))) args s 0 0 (fb b)) (F0 m 0 ls []) := by
  have hx := F.1
  have hb := F.2.1
  unfold sh_X11_earlierAt at h
  refine lv_iload_n hx hb dX11_earlierAt_0 rfl (lv_at hl 1 rfl) ?_
  refine lv_if_lt (tgt := 22) hx hb dX11_earlierAt_1 (by decide) (fun cc => ?_) (fun cc => ?_)
  · replace h := (if_pos cc).symm.trans h
    cases h
  · replace h := (if_neg cc).symm.trans h
    refine lv_iload_n hx hb dX11_earlierAt_4 rfl (lv_at hl 1 rfl) ?_
    refine lv_aload_n hx hb dX11_earlierAt_5 rfl (lv_at hl 0 rfl) ?_
    refine fl_get11 (v := .ref (b + 37)) kyf_0 F hW 6 (by decide) q_538 rfl rfl dX11_earlierAt_6 ?_
    refine fl_alenS kyf_37 F hW dX11_earlierAt_9 ?_
    refine lv_icmp_ge (tgt := 22) hx hb dX11_earlierAt_10 (by decide) (fun cc => ?_) (fun cc => ?_)
    · replace h := (if_pos cc).symm.trans h
      cases h
    · replace h := (if_neg cc).symm.trans h
      refine lv_aload_n hx hb dX11_earlierAt_13 rfl (lv_at hl 0 rfl) ?_
      refine fl_get11 (v := .ref (b + 37)) kyf_0 F hW 6 (by decide) q_538 rfl rfl dX11_earlierAt_14 ?_
      refine lv_iload_n hx hb dX11_earlierAt_17 rfl (lv_at hl 1 rfl) ?_
      have qv1 : inb a1 (ln 37) = true := by
        by_cases q : inb a1 (ln 37) = true
        · exact q
        · rw [if_pos q] at h; cases h
      rw [if_neg (fun z => z qv1)] at h
      refine fl_aald kyf_37 F hW qv1 dX11_earlierAt_18 ?_
      refine lv_goto (tgt := 23) hx hb dX11_earlierAt_19 (by decide) ?_
      cases h
      exact r_ref F hr hW hS dX11_earlierAt_23
set_option maxHeartbeats 4000000 in
set_option maxRecDepth 100000 in
theorem c_X11_earlierAt {l : Launch} {G : Gt} {b : Nat} {a1 : Int32} {μ : Mm} {out : Nat} (h : sh_X11_earlierAt a1 μ = some out) : Met l yX11_earlierAt (wU (Cond.code yX11_earlierAt cX11_earlierAt 2 (some (.object "ContentsSetter$State")))) ({ frames := 0, cells := 0, slots := 0, locals := 0 } : Room) (PcW G b μ [.ref (b + 0), .int a1]) (QW G b μ (some (.ref (b + out)))) 0 0 (fb b) :=
  met_of [.ref (b + 0), .int a1] (by decide) (Nat.le_of_ble_eq_true rfl) (fun F hr hW hl => wk_X11_earlierAt F hr h hW va_S.rf hl)
set_option maxHeartbeats 4000000 in
set_option maxRecDepth 100000 in
theorem k_X11_earlierAt {own : String} {nL : Nat} (F : FX G b own cc nL p s m args meth c) {a1 : Int32} {μ : Mm} {out : Nat} (h : sh_X11_earlierAt a1 μ = some out) {index : Nat} (hl : Cond.methodLink own index yX11_earlierAt ∈ TBG) (hR : 0 + 1 ≤ R.frames ∧ 8 + (2 + 11) + 0 ≤ R.locals ∧ cells ≤ R.cells ∧ slots ≤ R.slots) (hW : WH G b μ H) (hS : va_S (fb b) s.heap H locs) (hsz : ls.size = nL) (hrest : (rest.map fun v => v.category).sum ≤ 8) (hdg : decode cc pc = .ok (.invokevirtual index, 3))
    (kk : ∀ (H1 : Heap) (locs1 : List Loc), WH G b μ H1 → va_S (fb b) s.heap H1 locs1 → W p l e R s m args below meth c H1 locs1 cells slots Q (F0 m (pc + 3) ls (.ref (b + out) :: rest))) : W p l e R s m args below meth c H locs cells slots Q (F0 m pc ls (.int a1 :: .ref (b + 0) :: rest)) :=
  f_callV (As := [.int a1]) (ci := 11) (c_X11_earlierAt h) ⟨rfl, rfl⟩ rfl (ky_lt kyf_0 (by decide)) (wF_11 kyf_0) q_767 qp_23 q_1 q_768 rfl ⟨by decide +kernel, by decide +kernel, (show (parseMethodDescriptor yX11_earlierAt.desc).map (fun d => d.parameters.length) = some 1 by decide +kernel)⟩ F hl hR hW hS hsz hrest rfl hdg kk
theorem okSt_of {a1 : Int32} {μ : Mm} {r : Nat} (h : sh_X11_earlierAt a1 μ = some r) : okSt r := by
  have e : ln 37 = 6 := by decide +kernel
  have key : ix a1 < 6 ∧ r = 144 + 27 * ix a1 := by
    unfold sh_X11_earlierAt at h
    split at h
    · cases h
    · split at h
      · cases h
      · split at h
        · cases h
        · next q =>
          have q := Decidable.not_not.mp q
          simp only [inb, Bool.and_eq_true, decide_eq_true_eq, e] at q
          exact ⟨q.2, (Option.some.inj h).symm⟩
  obtain ⟨h1, rfl⟩ := key
  generalize ix a1 = j at h1
  rcases (show j = 0 ∨ j = 1 ∨ j = 2 ∨ j = 3 ∨ j = 4 ∨ j = 5 by omega) with rfl | rfl | rfl | rfl | rfl | rfl
  · exact ok_144
  · exact ok_171
  · exact ok_198
  · exact ok_225
  · exact ok_252
  · exact ok_279
set_option maxHeartbeats 4000000 in
set_option maxRecDepth 100000 in
theorem wk_X11_keepForUndo_21 {μ : Mm} {out : Mm} (F : FX G b RX11 cX11_keepForUndo 2 p s m args meth c) (hr : meth.sig.returnType = none) (h : sh_X11_keepForUndo_21 μ = some out) (hW : WH G b μ H) (hS : va_S (fb b) s.heap H locs) (hl : lv_has ls 2 [(0, .ref (b + 0))]) : W p l e ({ frames := 4, cells := 0, slots := 0, locals := 111 } : Room) s m args below meth c H locs 0 0 (MQ below (QW G b out none) args s 0 0 (fb b)) (F0 m 21 ls []) := by
  have hx := F.1
  have hb := F.2.1
  unfold sh_X11_keepForUndo_21 at h
  refine lv_aload_n hx hb dX11_keepForUndo_21 rfl (lv_at hl 0 rfl) ?_
  refine lv_aload_n hx hb dX11_keepForUndo_22 rfl (lv_at hl 0 rfl) ?_
  refine fl_get11 (v := .int (μ.1 0 7)) kyf_0 F hW 7 (by decide) q_539 rfl rfl dX11_keepForUndo_23 ?_
  refine lv_iconst (v := (1 : Int32)) hx hb dX11_keepForUndo_26 (by decide) ?_
  refine lv_iadd hx hb dX11_keepForUndo_27 ?_
  refine lv_bipush (v := (6 : Int32)) hx hb dX11_keepForUndo_28 (by decide) ?_
  obtain ⟨v3, qv3, h⟩ := ob h
  obtain ⟨zv3, qv3⟩ := rm_some qv3
  refine lv_irem hx hb dX11_keepForUndo_30 zv3 ?_
  rw [qv3]
  obtain ⟨μ4, hmμ4, h⟩ := ob h
  refine fl_put11_7 kyf_0 F hW hS q_539 hmμ4 dX11_keepForUndo_31 (fun H locs hW hS => ?_)
  refine lv_aload_n hx hb dX11_keepForUndo_34 rfl (lv_at hl 0 rfl) ?_
  refine lv_aload_n hx hb dX11_keepForUndo_35 rfl (lv_at hl 0 rfl) ?_
  refine fl_get11 (v := .int (μ4.1 0 8)) kyf_0 F hW 8 (by decide) q_540 rfl rfl dX11_keepForUndo_36 ?_
  refine lv_iconst (v := (1 : Int32)) hx hb dX11_keepForUndo_39 (by decide) ?_
  refine lv_iadd hx hb dX11_keepForUndo_40 ?_
  refine lv_bipush (v := (6 : Int32)) hx hb dX11_keepForUndo_41 (by decide) ?_
  refine fl_min F hl.1 q_787 q_465 q_3 mm_min (Nat.le_of_ble_eq_true rfl) (Nat.le_of_ble_eq_true rfl) (Nat.zero_le _) (Nat.zero_le _) dX11_keepForUndo_43 ?_
  obtain ⟨μ5, hmμ5, h⟩ := ob h
  refine fl_put11_8 kyf_0 F hW hS q_540 hmμ5 dX11_keepForUndo_46 (fun H locs hW hS => ?_)
  cases h
  exact r_void F hr hW hS dX11_keepForUndo_49
set_option maxHeartbeats 4000000 in
set_option maxRecDepth 100000 in
theorem wk_X11_keepForUndo {μ : Mm} {out : Mm} (F : FX G b RX11 cX11_keepForUndo 2 p s m args meth c) (hr : meth.sig.returnType = none) (h : sh_X11_keepForUndo  μ = some out) (hW : WH G b μ H) (hS : va_S (fb b) s.heap H locs) (hl : lv_has ls 2 [(0, .ref (b + 0))]) : W p l e ({ frames := 4, cells := 0, slots := 0, locals := 111 } : Room) s m args below meth c H locs 0 0 (MQ below (QW G b out none) args s 0 0 (fb b)) (F0 m 0 ls []) := by
  have hx := F.1
  have hb := F.2.1
  unfold sh_X11_keepForUndo at h
  refine lv_aload_n hx hb dX11_keepForUndo_0 rfl (lv_at hl 0 rfl) ?_
  refine lv_aload_n hx hb dX11_keepForUndo_1 rfl (lv_at hl 0 rfl) ?_
  refine fl_get11 (v := .int (μ.1 0 7)) kyf_0 F hW 7 (by decide) q_539 rfl rfl dX11_keepForUndo_2 ?_
  obtain ⟨r1, qr1, h⟩ := ob h
  refine k_X11_earlierAt F qr1 q_765 ⟨Nat.le_of_ble_eq_true rfl, Nat.le_of_ble_eq_true rfl, Nat.le_of_ble_eq_true rfl, Nat.le_of_ble_eq_true rfl⟩ hW hS hl.1 (Nat.le_of_ble_eq_true rfl) dX11_keepForUndo_5 (fun H locs hW hS => ?_)
  refine lv_astore_n (lv' := [(1, .ref (b + r1)), (0, .ref (b + 0))]) hx hb dX11_keepForUndo_8 rfl hl (by decide) rfl (fun ls hl => ?_)
  refine lv_aload_n hx hb dX11_keepForUndo_9 rfl (lv_at hl 0 rfl) ?_
  refine lv_ifnull hx hb dX11_keepForUndo_10 ?_
  refine lv_aload_n hx hb dX11_keepForUndo_13 rfl (lv_at hl 0 rfl) ?_
  refine lv_aload_n hx hb dX11_keepForUndo_14 rfl (lv_at hl 1 rfl) ?_
  refine fl_get11 (v := .ref (b + 10)) kyf_0 F hW 5 (by decide) q_537 rfl rfl dX11_keepForUndo_15 ?_
  obtain ⟨r2, qr2, h⟩ := ob h
  refine k_X6_take F (okSt_of qr1) ok_10 qr2 q_769 ⟨Nat.le_of_ble_eq_true rfl, Nat.le_of_ble_eq_true rfl, Nat.le_of_ble_eq_true rfl, Nat.le_of_ble_eq_true rfl⟩ hW hS hl.1 (Nat.le_of_ble_eq_true rfl) dX11_keepForUndo_18 (fun H locs hW hS => ?_)
  exact wk_X11_keepForUndo_21 F hr h hW hS (lv_sub hl [1] rfl)
set_option maxHeartbeats 4000000 in
set_option maxRecDepth 100000 in
theorem c_X11_keepForUndo {l : Launch} {G : Gt} {b : Nat} {μ : Mm} {out : Mm} (h : sh_X11_keepForUndo  μ = some out) : Met l yX11_keepForUndo (wU (Cond.code yX11_keepForUndo cX11_keepForUndo 2 none)) ({ frames := 4, cells := 0, slots := 0, locals := 111 } : Room) (PcW G b μ [.ref (b + 0)]) (QW G b out none) 0 0 (fb b) :=
  met_of [.ref (b + 0)] (by decide) (Nat.le_of_ble_eq_true rfl) (fun F hr hW hl => wk_X11_keepForUndo F hr h hW va_S.rf hl)
set_option maxHeartbeats 4000000 in
set_option maxRecDepth 100000 in
theorem k_X11_keepForUndo {own : String} {nL : Nat} (F : FX G b own cc nL p s m args meth c) {μ : Mm} {out : Mm} (h : sh_X11_keepForUndo  μ = some out) {index : Nat} (hl : Cond.methodLink own index yX11_keepForUndo ∈ TBG) (hR : 4 + 1 ≤ R.frames ∧ 8 + (2 + 11) + 111 ≤ R.locals ∧ cells ≤ R.cells ∧ slots ≤ R.slots) (hW : WH G b μ H) (hS : va_S (fb b) s.heap H locs) (hsz : ls.size = nL) (hrest : (rest.map fun v => v.category).sum ≤ 8) (hdg : decode cc pc = .ok (.invokevirtual index, 3))
    (kk : ∀ (H1 : Heap) (locs1 : List Loc), WH G b out H1 → va_S (fb b) s.heap H1 locs1 → W p l e R s m args below meth c H1 locs1 cells slots Q (F0 m (pc + 3) ls (rest))) : W p l e R s m args below meth c H locs cells slots Q (F0 m pc ls (.ref (b + 0) :: rest)) :=
  f_callV (As := []) (ci := 11) (c_X11_keepForUndo h) ⟨rfl, rfl⟩ rfl (ky_lt kyf_0 (by decide)) (wF_11 kyf_0) q_763 qp_22 q_1 q_764 rfl ⟨by decide +kernel, by decide +kernel, (show (parseMethodDescriptor yX11_keepForUndo.desc).map (fun d => d.parameters.length) = some 0 by decide +kernel)⟩ F hl hR hW hS hsz hrest rfl hdg kk
set_option maxHeartbeats 4000000 in
set_option maxRecDepth 100000 in
theorem wk_X11_load {n : Nat} {μ : Mm} {out : (Int32 × Mm)} (F : FX G b RX11 cX11_load 2 p s m args meth c) (hr : meth.sig.returnType = some .int) (h : sh_X11_load n  μ = some out) (hW : WH G b μ H) (hS : va_S (fb b) s.heap H locs) (hl : lv_has ls 2 [(0, .ref (b + 0))]) : W p l e ({ frames := 9, cells := 0, slots := 0, locals := 201 } : Room) s m args below meth c H locs 0 0 (MQ below (QW G b out.2 (some (.int out.1))) args s 0 0 (fb b)) (F0 m 0 ls []) := by
  have hx := F.1
  have hb := F.2.1
  unfold sh_X11_load at h
  refine lv_aload_n hx hb dX11_load_0 rfl (lv_at hl 0 rfl) ?_
  refine fl_get11 (v := .ref (b + 5)) kyf_0 F hW 2 (by decide) q_534 rfl rfl dX11_load_1 ?_
  refine lv_aload_n hx hb dX11_load_4 rfl (lv_at hl 0 rfl) ?_
  refine fl_get11 (v := .ref (b + 1)) kyf_0 F hW 0 (by decide) q_532 rfl rfl dX11_load_5 ?_
  refine lv_aload_n hx hb dX11_load_8 rfl (lv_at hl 0 rfl) ?_
  refine fl_get11 (v := .ref (b + 85)) kyf_0 F hW 11 (by decide) q_543 rfl rfl dX11_load_9 ?_
  obtain ⟨r1, qr1, h⟩ := ob h
  refine k_X4_readBook F ok_1 ok_85 qr1 q_582 ⟨Nat.le_of_ble_eq_true rfl, Nat.le_of_ble_eq_true rfl, Nat.le_of_ble_eq_true rfl, Nat.le_of_ble_eq_true rfl⟩ hW hS hl.1 (Nat.le_of_ble_eq_true rfl) dX11_load_12 (fun H locs hW hS => ?_)
  obtain ⟨v2, ev2⟩ : ∃ y, y = r1.1 := ⟨_, rfl⟩
  have h := nm_at ev2 h
  rw [← ev2]
  refine lv_istore_n (lv' := [(1, .int v2), (0, .ref (b + 0))]) hx hb dX11_load_15 rfl hl (by decide) rfl (fun ls hl => ?_)
  refine lv_aload_n hx hb dX11_load_16 rfl (lv_at hl 1 rfl) ?_
  refine fl_get11 (v := .ref (b + 1)) kyf_0 F hW 0 (by decide) q_532 rfl rfl dX11_load_17 ?_
  refine lv_iconst (v := (0 : Int32)) hx hb dX11_load_20 (by decide) ?_
  obtain ⟨r3, qr3, h⟩ := ob h
  refine k_X8_cut F ok_1 qr3 q_757 ⟨Nat.le_of_ble_eq_true rfl, Nat.le_of_ble_eq_true rfl, Nat.le_of_ble_eq_true rfl, Nat.le_of_ble_eq_true rfl⟩ hW hS hl.1 (Nat.le_of_ble_eq_true rfl) dX11_load_21 (fun H locs hW hS => ?_)
  refine lv_aload_n hx hb dX11_load_24 rfl (lv_at hl 1 rfl) ?_
  refine lv_aload_n hx hb dX11_load_25 rfl (lv_at hl 1 rfl) ?_
  refine fl_get11 (v := .ref (b + 5)) kyf_0 F hW 2 (by decide) q_534 rfl rfl dX11_load_26 ?_
  refine fl_get4 (v := .int (r3.1 5 0)) kyf_5 F hW 0 (by decide) q_74 rfl rfl dX11_load_29 ?_
  obtain ⟨μ4, hmμ4, h⟩ := ob h
  refine fl_put11_3 kyf_0 F hW hS q_535 hmμ4 dX11_load_32 (fun H locs hW hS => ?_)
  refine lv_aload_n hx hb dX11_load_35 rfl (lv_at hl 1 rfl) ?_
  refine lv_aload_n hx hb dX11_load_36 rfl (lv_at hl 1 rfl) ?_
  refine fl_get11 (v := .ref (b + 5)) kyf_0 F hW 2 (by decide) q_534 rfl rfl dX11_load_37 ?_
  refine fl_get4 (v := .int (μ4.1 5 1)) kyf_5 F hW 1 (by decide) q_76 rfl rfl dX11_load_40 ?_
  obtain ⟨μ5, hmμ5, h⟩ := ob h
  refine fl_put11_4 kyf_0 F hW hS q_536 hmμ5 dX11_load_43 (fun H locs hW hS => ?_)
  refine lv_iload_n hx hb dX11_load_46 rfl (lv_at hl 0 rfl) ?_
  refine lv_if_ne (tgt := 53) hx hb dX11_load_47 (by decide) (fun cc => ?_) (fun cc => ?_)
  · replace h := (if_neg cc).symm.trans h
    refine lv_aload_n hx hb dX11_load_53 rfl (lv_at hl 1 rfl) ?_
    obtain ⟨r6, qr6, h⟩ := ob h
    refine k_X11_keepForUndo F qr6 q_761 ⟨Nat.le_of_ble_eq_true rfl, Nat.le_of_ble_eq_true rfl, Nat.le_of_ble_eq_true rfl, Nat.le_of_ble_eq_true rfl⟩ hW hS hl.1 (Nat.le_of_ble_eq_true rfl) dX11_load_54 (fun H locs hW hS => ?_)
    refine lv_aload_n hx hb dX11_load_57 rfl (lv_at hl 1 rfl) ?_
    refine fl_get11 (v := .ref (b + 10)) kyf_0 F hW 5 (by decide) q_537 rfl rfl dX11_load_58 ?_
    refine fl_get6 (v := .ref (b + 11)) kyf_10 F hW 0 (by decide) q_212 rfl rfl dX11_load_61 ?_
    refine lv_aload_n hx hb dX11_load_64 rfl (lv_at hl 1 rfl) ?_
    refine fl_get11 (v := .ref (b + 85)) kyf_0 F hW 11 (by decide) q_543 rfl rfl dX11_load_65 ?_
    obtain ⟨r7, qr7, h⟩ := ob h
    refine k_X0_take F ok_11 ok_85 qr7 q_788 ⟨Nat.le_of_ble_eq_true rfl, Nat.le_of_ble_eq_true rfl, Nat.le_of_ble_eq_true rfl, Nat.le_of_ble_eq_true rfl⟩ hW hS hl.1 (Nat.le_of_ble_eq_true rfl) dX11_load_68 (fun H locs hW hS => ?_)
    refine lv_aload_n hx hb dX11_load_71 rfl (lv_at hl 1 rfl) ?_
    refine fl_get11 (v := .ref (b + 10)) kyf_0 F hW 5 (by decide) q_537 rfl rfl dX11_load_72 ?_
    refine lv_iconst (v := (0 : Int32)) hx hb dX11_load_75 (by decide) ?_
    obtain ⟨μ8, hmμ8, h⟩ := ob h
    refine fl_put6_2 kyf_10 F hW hS q_216 hmμ8 dX11_load_76 (fun H locs hW hS => ?_)
    refine lv_aload_n hx hb dX11_load_79 rfl (lv_at hl 1 rfl) ?_
    refine fl_get11 (v := .ref (b + 38)) kyf_0 F hW 9 (by decide) q_541 rfl rfl dX11_load_80 ?_
    refine lv_aload_n hx hb dX11_load_83 rfl (lv_at hl 1 rfl) ?_
    refine fl_get11 (v := .ref (b + 10)) kyf_0 F hW 5 (by decide) q_537 rfl rfl dX11_load_84 ?_
    refine fl_get6 (v := .ref (b + 11)) kyf_10 F hW 0 (by decide) q_212 rfl rfl dX11_load_87 ?_
    obtain ⟨r9, qr9, h⟩ := ob h
    refine k_X1_layAnew F ok_38 ok_11 qr9 q_405 ⟨Nat.le_of_ble_eq_true rfl, Nat.le_of_ble_eq_true rfl, Nat.le_of_ble_eq_true rfl, Nat.le_of_ble_eq_true rfl⟩ hW hS hl.1 (Nat.le_of_ble_eq_true rfl) dX11_load_90 (fun H locs hW hS => ?_)
    refine lv_aload_n hx hb dX11_load_93 rfl (lv_at hl 1 rfl) ?_
    refine fl_get11 (v := .ref (b + 10)) kyf_0 F hW 5 (by decide) q_537 rfl rfl dX11_load_94 ?_
    refine fl_get6 (v := .ref (b + 11)) kyf_10 F hW 0 (by decide) q_212 rfl rfl dX11_load_97 ?_
    refine fl_get0 (v := .int (r9.1 11 2)) kyf_11 F hW 2 (by decide) q_165 rfl rfl dX11_load_100 ?_
    cases h
    exact r_int F hr hW hS dX11_load_103
  · replace h := (if_pos cc).symm.trans h
    refine lv_bipush (v := (-4 : Int32)) hx hb dX11_load_50 (by decide) ?_
    cases h
    exact r_int F hr hW hS dX11_load_52
set_option maxHeartbeats 4000000 in
set_option maxRecDepth 100000 in
theorem c_X11_load {l : Launch} {G : Gt} {b : Nat} {n : Nat} {μ : Mm} {out : (Int32 × Mm)} (h : sh_X11_load n  μ = some out) : Met l yX11_load (wU (Cond.code yX11_load cX11_load 2 (some .int))) ({ frames := 9, cells := 0, slots := 0, locals := 201 } : Room) (PcW G b μ [.ref (b + 0)]) (QW G b out.2 (some (.int out.1))) 0 0 (fb b) :=
  met_of [.ref (b + 0)] (by decide) (Nat.le_of_ble_eq_true rfl) (fun F hr hW hl => wk_X11_load F hr h hW va_S.rf hl)
set_option maxHeartbeats 4000000 in
set_option maxRecDepth 100000 in
theorem k_X11_load {own : String} {nL : Nat} (F : FX G b own cc nL p s m args meth c) {n : Nat} {μ : Mm} {out : (Int32 × Mm)} (h : sh_X11_load n  μ = some out) {index : Nat} (hl : Cond.methodLink own index yX11_load ∈ TBG) (hR : 9 + 1 ≤ R.frames ∧ 8 + (2 + 11) + 201 ≤ R.locals ∧ cells ≤ R.cells ∧ slots ≤ R.slots) (hW : WH G b μ H) (hS : va_S (fb b) s.heap H locs) (hsz : ls.size = nL) (hrest : (rest.map fun v => v.category).sum ≤ 8) (hdg : decode cc pc = .ok (.invokevirtual index, 3))
    (kk : ∀ (H1 : Heap) (locs1 : List Loc), WH G b out.2 H1 → va_S (fb b) s.heap H1 locs1 → W p l e R s m args below meth c H1 locs1 cells slots Q (F0 m (pc + 3) ls (.int out.1 :: rest))) : W p l e R s m args below meth c H locs cells slots Q (F0 m pc ls (.ref (b + 0) :: rest)) :=
  f_callV (As := []) (ci := 11) (c_X11_load h) ⟨rfl, rfl⟩ rfl (ky_lt kyf_0 (by decide)) (wF_11 kyf_0) q_579 q_580 q_1 q_581 rfl ⟨by decide +kernel, by decide +kernel, (show (parseMethodDescriptor yX11_load.desc).map (fun d => d.parameters.length) = some 0 by decide +kernel)⟩ F hl hR hW hS hsz hrest rfl hdg kk
set_option maxHeartbeats 4000000 in
set_option maxRecDepth 100000 in
theorem wk_X11_errorCode {μ : Mm} {out : Int32} (F : FX G b RX11 cX11_errorCode 1 p s m args meth c) (hr : meth.sig.returnType = some .int) (h : sh_X11_errorCode  μ = some out) (hW : WH G b μ H) (hS : va_S (fb b) s.heap H locs) (hl : lv_has ls 1 [(0, .ref (b + 0))]) : W p l e ({ frames := 0, cells := 0, slots := 0, locals := 0 } : Room) s m args below meth c H locs 0 0 (MQ below (QW G b μ (some (.int out))) args s 0 0 (fb b)) (F0 m 0 ls []) := by
  have hx := F.1
  have hb := F.2.1
  unfold sh_X11_errorCode at h
  refine lv_aload_n hx hb dX11_errorCode_0 rfl (lv_at hl 0 rfl) ?_
  refine fl_get11 (v := .int (μ.1 0 3)) kyf_0 F hW 3 (by decide) q_535 rfl rfl dX11_errorCode_1 ?_
  cases h
  exact r_int F hr hW hS dX11_errorCode_4
set_option maxHeartbeats 4000000 in
set_option maxRecDepth 100000 in
theorem c_X11_errorCode {l : Launch} {G : Gt} {b : Nat} {μ : Mm} {out : Int32} (h : sh_X11_errorCode  μ = some out) : Met l yX11_errorCode (wU (Cond.code yX11_errorCode cX11_errorCode 1 (some .int))) ({ frames := 0, cells := 0, slots := 0, locals := 0 } : Room) (PcW G b μ [.ref (b + 0)]) (QW G b μ (some (.int out))) 0 0 (fb b) :=
  met_of [.ref (b + 0)] (by decide) (Nat.le_of_ble_eq_true rfl) (fun F hr hW hl => wk_X11_errorCode F hr h hW va_S.rf hl)
set_option maxHeartbeats 4000000 in
set_option maxRecDepth 100000 in
theorem k_X11_errorCode {own : String} {nL : Nat} (F : FX G b own cc nL p s m args meth c) {μ : Mm} {out : Int32} (h : sh_X11_errorCode  μ = some out) {index : Nat} (hl : Cond.methodLink own index yX11_errorCode ∈ TBG) (hR : 0 + 1 ≤ R.frames ∧ 8 + (1 + 11) + 0 ≤ R.locals ∧ cells ≤ R.cells ∧ slots ≤ R.slots) (hW : WH G b μ H) (hS : va_S (fb b) s.heap H locs) (hsz : ls.size = nL) (hrest : (rest.map fun v => v.category).sum ≤ 8) (hdg : decode cc pc = .ok (.invokevirtual index, 3))
    (kk : ∀ (H1 : Heap) (locs1 : List Loc), WH G b μ H1 → va_S (fb b) s.heap H1 locs1 → W p l e R s m args below meth c H1 locs1 cells slots Q (F0 m (pc + 3) ls (.int out :: rest))) : W p l e R s m args below meth c H locs cells slots Q (F0 m pc ls (.ref (b + 0) :: rest)) :=
  f_callV (As := []) (ci := 11) (c_X11_errorCode h) ⟨rfl, rfl⟩ rfl (ky_lt kyf_0 (by decide)) (wF_11 kyf_0) q_790 q_791 q_1 q_792 rfl ⟨by decide +kernel, by decide +kernel, (show (parseMethodDescriptor yX11_errorCode.desc).map (fun d => d.parameters.length) = some 0 by decide +kernel)⟩ F hl hR hW hS hsz hrest rfl hdg kk
set_option maxHeartbeats 4000000 in
set_option maxRecDepth 100000 in
theorem wk_X11_errorPosition {μ : Mm} {out : Int32} (F : FX G b RX11 cX11_errorPosition 1 p s m args meth c) (hr : meth.sig.returnType = some .int) (h : sh_X11_errorPosition  μ = some out) (hW : WH G b μ H) (hS : va_S (fb b) s.heap H locs) (hl : lv_has ls 1 [(0, .ref (b + 0))]) : W p l e ({ frames := 0, cells := 0, slots := 0, locals := 0 } : Room) s m args below meth c H locs 0 0 (MQ below (QW G b μ (some (.int out))) args s 0 0 (fb b)) (F0 m 0 ls []) := by
  have hx := F.1
  have hb := F.2.1
  unfold sh_X11_errorPosition at h
  refine lv_aload_n hx hb dX11_errorPosition_0 rfl (lv_at hl 0 rfl) ?_
  refine fl_get11 (v := .int (μ.1 0 4)) kyf_0 F hW 4 (by decide) q_536 rfl rfl dX11_errorPosition_1 ?_
  cases h
  exact r_int F hr hW hS dX11_errorPosition_4
set_option maxHeartbeats 4000000 in
set_option maxRecDepth 100000 in
theorem c_X11_errorPosition {l : Launch} {G : Gt} {b : Nat} {μ : Mm} {out : Int32} (h : sh_X11_errorPosition  μ = some out) : Met l yX11_errorPosition (wU (Cond.code yX11_errorPosition cX11_errorPosition 1 (some .int))) ({ frames := 0, cells := 0, slots := 0, locals := 0 } : Room) (PcW G b μ [.ref (b + 0)]) (QW G b μ (some (.int out))) 0 0 (fb b) :=
  met_of [.ref (b + 0)] (by decide) (Nat.le_of_ble_eq_true rfl) (fun F hr hW hl => wk_X11_errorPosition F hr h hW va_S.rf hl)
set_option maxHeartbeats 4000000 in
set_option maxRecDepth 100000 in
theorem k_X11_errorPosition {own : String} {nL : Nat} (F : FX G b own cc nL p s m args meth c) {μ : Mm} {out : Int32} (h : sh_X11_errorPosition  μ = some out) {index : Nat} (hl : Cond.methodLink own index yX11_errorPosition ∈ TBG) (hR : 0 + 1 ≤ R.frames ∧ 8 + (1 + 11) + 0 ≤ R.locals ∧ cells ≤ R.cells ∧ slots ≤ R.slots) (hW : WH G b μ H) (hS : va_S (fb b) s.heap H locs) (hsz : ls.size = nL) (hrest : (rest.map fun v => v.category).sum ≤ 8) (hdg : decode cc pc = .ok (.invokevirtual index, 3))
    (kk : ∀ (H1 : Heap) (locs1 : List Loc), WH G b μ H1 → va_S (fb b) s.heap H1 locs1 → W p l e R s m args below meth c H1 locs1 cells slots Q (F0 m (pc + 3) ls (.int out :: rest))) : W p l e R s m args below meth c H locs cells slots Q (F0 m pc ls (.ref (b + 0) :: rest)) :=
  f_callV (As := []) (ci := 11) (c_X11_errorPosition h) ⟨rfl, rfl⟩ rfl (ky_lt kyf_0 (by decide)) (wF_11 kyf_0) q_794 q_795 q_1 q_796 rfl ⟨by decide +kernel, by decide +kernel, (show (parseMethodDescriptor yX11_errorPosition.desc).map (fun d => d.parameters.length) = some 0 by decide +kernel)⟩ F hl hR hW hS hsz hrest rfl hdg kk
set_option maxHeartbeats 4000000 in
set_option maxRecDepth 100000 in
theorem wk_X11_count {a1 : Int32} {μ : Mm} {out : (Nat ⊕ Int32)} (F : FX G b RX11 cX11_count 2 p s m args meth c) (hr : meth.sig.returnType = some .int) (hlT : l.stackTraces = false) (hnt : ∀ x ∈ c.exceptionTable.toList, False) (h : sh_X11_count a1 μ = some out) (hW : WH G b μ H) (hS : va_S (fb b) s.heap H locs) (hl : lv_has ls 2 [(0, .ref (b + 0)), (1, .int a1)]) : W p l e ({ frames := 6, cells := 1, slots := 6, locals := 90 } : Room) s m args below meth c H locs 0 0 (vx_MQ below (QN G b (Sum.elim (fun _ => none) (fun (v : Int32) => some (μ, (some (.int v)))) out)) (XN G b (Sum.elim (fun (q : Nat) => some (q, μ)) (fun _ => none) out)) args s 1 6 (fb b)) (F0 m 0 ls []) := by
  have hx := F.1
  have hb := F.2.1
  unfold sh_X11_count at h
  refine lv_iload_n hx hb dX11_count_0 rfl (lv_at hl 1 rfl) ?_
  by_cases cs0 : a1 = (0 : Int32)
  · replace h := (if_pos cs0).symm.trans h
    rw [cs0]
    refine lv_tableIn (off := 47) (tgt := 48) hx hb dX11_count_1 (by decide) (by decide) rfl (by decide) ?_
    refine lv_aload_n hx hb dX11_count_48 rfl (lv_at hl 0 rfl) ?_
    refine fl_get11 (v := .ref (b + 10)) kyf_0 F hW 5 (by decide) q_537 rfl rfl dX11_count_49 ?_
    refine fl_get6 (v := .ref (b + 11)) kyf_10 F hW 0 (by decide) q_212 rfl rfl dX11_count_52 ?_
    refine fl_get0 (v := .int (μ.1 11 2)) kyf_11 F hW 2 (by decide) q_165 rfl rfl dX11_count_55 ?_
    cases h
    exact x_int F hr (Nat.le_of_ble_eq_true rfl) (Nat.le_of_ble_eq_true rfl) hW hS dX11_count_58
  replace h := (if_neg cs0).symm.trans h
  by_cases cs1 : a1 = (1 : Int32)
  · replace h := (if_pos cs1).symm.trans h
    rw [cs1]
    refine lv_tableIn (off := 58) (tgt := 59) hx hb dX11_count_1 (by decide) (by decide) rfl (by decide) ?_
    refine lv_aload_n hx hb dX11_count_59 rfl (lv_at hl 0 rfl) ?_
    refine fl_get11 (v := .ref (b + 10)) kyf_0 F hW 5 (by decide) q_537 rfl rfl dX11_count_60 ?_
    refine fl_get6 (v := .ref (b + 11)) kyf_10 F hW 0 (by decide) q_212 rfl rfl dX11_count_63 ?_
    refine fl_get0 (v := .int (μ.1 11 3)) kyf_11 F hW 3 (by decide) q_168 rfl rfl dX11_count_66 ?_
    cases h
    exact x_int F hr (Nat.le_of_ble_eq_true rfl) (Nat.le_of_ble_eq_true rfl) hW hS dX11_count_69
  replace h := (if_neg cs1).symm.trans h
  by_cases cs2 : a1 = (2 : Int32)
  · replace h := (if_pos cs2).symm.trans h
    rw [cs2]
    refine lv_tableIn (off := 69) (tgt := 70) hx hb dX11_count_1 (by decide) (by decide) rfl (by decide) ?_
    refine lv_aload_n hx hb dX11_count_70 rfl (lv_at hl 0 rfl) ?_
    refine fl_get11 (v := .ref (b + 38)) kyf_0 F hW 9 (by decide) q_541 rfl rfl dX11_count_71 ?_
    refine fl_get1 (v := .ref (b + 61)) kyf_38 F hW 2 (by decide) q_365 rfl rfl dX11_count_74 ?_
    refine fl_get7 (v := .int (μ.1 61 2)) kyf_61 F hW 2 (by decide) q_312 rfl rfl dX11_count_77 ?_
    cases h
    exact x_int F hr (Nat.le_of_ble_eq_true rfl) (Nat.le_of_ble_eq_true rfl) hW hS dX11_count_80
  replace h := (if_neg cs2).symm.trans h
  by_cases cs3 : a1 = (3 : Int32)
  · replace h := (if_pos cs3).symm.trans h
    rw [cs3]
    refine lv_tableIn (off := 80) (tgt := 81) hx hb dX11_count_1 (by decide) (by decide) rfl (by decide) ?_
    refine lv_aload_n hx hb dX11_count_81 rfl (lv_at hl 0 rfl) ?_
    refine fl_get11 (v := .ref (b + 38)) kyf_0 F hW 9 (by decide) q_541 rfl rfl dX11_count_82 ?_
    refine fl_get1 (v := .int (μ.1 38 3)) kyf_38 F hW 3 (by decide) q_367 rfl rfl dX11_count_85 ?_
    cases h
    exact x_int F hr (Nat.le_of_ble_eq_true rfl) (Nat.le_of_ble_eq_true rfl) hW hS dX11_count_88
  replace h := (if_neg cs3).symm.trans h
  by_cases cs4 : a1 = (4 : Int32)
  · replace h := (if_pos cs4).symm.trans h
    rw [cs4]
    refine lv_tableIn (off := 88) (tgt := 89) hx hb dX11_count_1 (by decide) (by decide) rfl (by decide) ?_
    refine lv_aload_n hx hb dX11_count_89 rfl (lv_at hl 0 rfl) ?_
    refine fl_get11 (v := .ref (b + 38)) kyf_0 F hW 9 (by decide) q_541 rfl rfl dX11_count_90 ?_
    refine fl_get1 (v := .ref (b + 52)) kyf_38 F hW 1 (by decide) q_363 rfl rfl dX11_count_93 ?_
    refine fl_get3 (v := .int (μ.1 52 5)) kyf_52 F hW 5 (by decide) q_284 rfl rfl dX11_count_96 ?_
    cases h
    exact x_int F hr (Nat.le_of_ble_eq_true rfl) (Nat.le_of_ble_eq_true rfl) hW hS dX11_count_99
  replace h := (if_neg cs4).symm.trans h
  by_cases cs5 : a1 = (5 : Int32)
  · replace h := (if_pos cs5).symm.trans h
    rw [cs5]
    refine lv_tableIn (off := 99) (tgt := 100) hx hb dX11_count_1 (by decide) (by decide) rfl (by decide) ?_
    refine lv_aload_n hx hb dX11_count_100 rfl (lv_at hl 0 rfl) ?_
    refine fl_get11 (v := .ref (b + 38)) kyf_0 F hW 9 (by decide) q_541 rfl rfl dX11_count_101 ?_
    refine fl_get1 (v := .ref (b + 52)) kyf_38 F hW 1 (by decide) q_363 rfl rfl dX11_count_104 ?_
    refine fl_get3 (v := .int (μ.1 52 4)) kyf_52 F hW 4 (by decide) q_282 rfl rfl dX11_count_107 ?_
    cases h
    exact x_int F hr (Nat.le_of_ble_eq_true rfl) (Nat.le_of_ble_eq_true rfl) hW hS dX11_count_110
  replace h := (if_neg cs5).symm.trans h
  by_cases cs6 : a1 = (6 : Int32)
  · replace h := (if_pos cs6).symm.trans h
    rw [cs6]
    refine lv_tableIn (off := 110) (tgt := 111) hx hb dX11_count_1 (by decide) (by decide) rfl (by decide) ?_
    refine lv_aload_n hx hb dX11_count_111 rfl (lv_at hl 0 rfl) ?_
    refine fl_get11 (v := .ref (b + 38)) kyf_0 F hW 9 (by decide) q_541 rfl rfl dX11_count_112 ?_
    refine fl_get1 (v := .ref (b + 61)) kyf_38 F hW 2 (by decide) q_365 rfl rfl dX11_count_115 ?_
    refine fl_get7 (v := .int (μ.1 61 0)) kyf_61 F hW 0 (by decide) q_307 rfl rfl dX11_count_118 ?_
    cases h
    exact x_int F hr (Nat.le_of_ble_eq_true rfl) (Nat.le_of_ble_eq_true rfl) hW hS dX11_count_121
  replace h := (if_neg cs6).symm.trans h
  by_cases cs7 : a1 = (7 : Int32)
  · replace h := (if_pos cs7).symm.trans h
    rw [cs7]
    refine lv_tableIn (off := 121) (tgt := 122) hx hb dX11_count_1 (by decide) (by decide) rfl (by decide) ?_
    refine lv_aload_n hx hb dX11_count_122 rfl (lv_at hl 0 rfl) ?_
    refine fl_get11 (v := .ref (b + 38)) kyf_0 F hW 9 (by decide) q_541 rfl rfl dX11_count_123 ?_
    refine fl_get1 (v := .ref (b + 61)) kyf_38 F hW 2 (by decide) q_365 rfl rfl dX11_count_126 ?_
    refine fl_get7 (v := .int (μ.1 61 1)) kyf_61 F hW 1 (by decide) q_309 rfl rfl dX11_count_129 ?_
    cases h
    exact x_int F hr (Nat.le_of_ble_eq_true rfl) (Nat.le_of_ble_eq_true rfl) hW hS dX11_count_132
  replace h := (if_neg cs7).symm.trans h
  refine lv_tableOut (tgt := 133) hx hb dX11_count_1 (t_out (hi := 7) ?_ (by decide)) (by decide) ?_
  · intro k hk
    rcases (show k = 0 ∨ k = 1 ∨ k = 2 ∨ k = 3 ∨ k = 4 ∨ k = 5 ∨ k = 6 ∨ k = 7 by omega) with rfl | rfl | rfl | rfl | rfl | rfl | rfl | rfl
    · exact cs0
    · exact cs1
    · exact cs2
    · exact cs3
    · exact cs4
    · exact cs5
    · exact cs6
    · exact cs7
  cases h
  exact x_throw (ec := 1) F hlT hnt q_1064 q_19 (is := 167) (text := "no such count") (t := 15) (by decide +kernel) (by decide +kernel) (hat_1 F.2.2.2.2.1 F.2.2.2.2.2.2.1) hgd_1 hl.1 dX11_count_133 dX11_count_136 dX11_count_137 dX11_count_139 dX11_count_142 ⟨Nat.le_of_ble_eq_true rfl, Nat.le_of_ble_eq_true rfl, Nat.le_of_ble_eq_true rfl, Nat.le_of_ble_eq_true rfl⟩ (Nat.le_of_ble_eq_true rfl) (Nat.le_of_ble_eq_true rfl) hW hS
set_option maxHeartbeats 4000000 in
set_option maxRecDepth 100000 in
theorem c_X11_count {l : Launch} (hlT : l.stackTraces = false) {G : Gt} {b : Nat} {a1 : Int32} {μ : Mm} {out : (Nat ⊕ Int32)} (h : sh_X11_count a1 μ = some out) : vx_Met l yX11_count (wU (Cond.code yX11_count cX11_count 2 (some .int))) ({ frames := 6, cells := 1, slots := 6, locals := 90 } : Room) (PcW G b μ [.ref (b + 0), .int a1]) (QN G b (Sum.elim (fun _ => none) (fun (v : Int32) => some (μ, (some (.int v)))) out)) (XN G b (Sum.elim (fun (q : Nat) => some (q, μ)) (fun _ => none) out)) 1 6 (fb b) :=
  xmet_of [.ref (b + 0), .int a1] (by decide) (Nat.le_of_ble_eq_true rfl) (fun F hr hnt hW hl => wk_X11_count F hr hlT hnt h hW va_S.rf hl)
set_option maxHeartbeats 4000000 in
set_option maxRecDepth 100000 in
theorem k_X11_count {own : String} {nL : Nat} (F : FX G b own cc nL p s m args meth c) (hlT : l.stackTraces = false) {a1 : Int32} {μ : Mm} {out : (Nat ⊕ Int32)} (h : sh_X11_count a1 μ = some out) {index : Nat} (hl : Cond.methodLink own index yX11_count ∈ TBG) (hR : 6 + 1 ≤ R.frames ∧ 8 + (2 + 11) + 90 ≤ R.locals ∧ cells + 1 ≤ R.cells ∧ slots + 6 ≤ R.slots) (hW : WH G b μ H) (hS : va_S (fb b) s.heap H locs) (hsz : ls.size = nL) (hrest : (rest.map fun v => v.category).sum ≤ 8) (hdg : decode cc pc = .ok (.invokevirtual index, 3))
    (kx : ∀ (q : Nat), out = .inl q → ∀ (ce : Cell) (q9 : Addr) (H1 : Heap) (locs1 : List Loc), WH G b μ H1 → va_S (fb b) s.heap H1 locs1 → H1[q9]? = some ce → ce.vm = .none → s.vm.findClass (exN q) = some ce.cls → vx_W p l e R s m args below meth c H1 locs1 (cells + 1) (slots + 6) Q (F0 m pc ls rest) q9)
    (kk : ∀ (v : Int32), out = .inr v → ∀ (H1 : Heap) (locs1 : List Loc), WH G b μ H1 → va_S (fb b) s.heap H1 locs1 → W p l e R s m args below meth c H1 locs1 (cells + 1) (slots + 6) Q (F0 m (pc + 3) ls (.int v :: rest))) : W p l e R s m args below meth c H locs cells slots Q (F0 m pc ls (.int a1 :: .ref (b + 0) :: rest)) := by
  cases out with
  | inl q => exact fx_callV (As := [.int a1]) (ci := 11) (c_X11_count hlT h) ⟨rfl, rfl⟩ rfl (ky_lt kyf_0 (by decide)) (wF_11 kyf_0) q_1084 q_1085 q_1 q_1086 rfl ⟨by decide +kernel, by decide +kernel, (show (parseMethodDescriptor yX11_count.desc).map (fun d => d.parameters.length) = some 1 by decide +kernel)⟩ F hl hR hW hS hsz hrest rfl hdg (fun z hz => by obtain rfl := Option.some.inj hz; exact kx _ rfl) (fun z hz => nomatch (show (none : Option (Mm × Option Value)) = some z from hz))
  | inr v => exact fx_callV (As := [.int a1]) (ci := 11) (c_X11_count hlT h) ⟨rfl, rfl⟩ rfl (ky_lt kyf_0 (by decide)) (wF_11 kyf_0) q_1084 q_1085 q_1 q_1086 rfl ⟨by decide +kernel, by decide +kernel, (show (parseMethodDescriptor yX11_count.desc).map (fun d => d.parameters.length) = some 1 by decide +kernel)⟩ F hl hR hW hS hsz hrest rfl hdg (fun z hz => nomatch (show (none : Option (Nat × Mm)) = some z from hz)) (fun z hz => by obtain rfl := Option.some.inj hz; exact kk _ rfl)
set_option maxHeartbeats 4000000 in
set_option maxRecDepth 100000 in
theorem wk_X11_setting_10 {a1 : Int32} {μ : Mm} {out : (Nat ⊕ Int32)} (F : FX G b RX11 cX11_setting 2 p s m args meth c) (hr : meth.sig.returnType = some .int) (hlT : l.stackTraces = false) (hnt : ∀ x ∈ c.exceptionTable.toList, False) (h : sh_X11_setting_10 a1 μ = some out) (hW : WH G b μ H) (hS : va_S (fb b) s.heap H locs) (hl : lv_has ls 2 []) : W p l e ({ frames := 6, cells := 1, slots := 6, locals := 90 } : Room) s m args below meth c H locs 0 0 (vx_MQ below (QN G b (Sum.elim (fun _ => none) (fun (v : Int32) => some (μ, (some (.int v)))) out)) (XN G b (Sum.elim (fun (q : Nat) => some (q, μ)) (fun _ => none) out)) args s 1 6 (fb b)) (F0 m 10 ls []) := by
  have hx := F.1
  have hb := F.2.1
  unfold sh_X11_setting_10 at h
  cases h
  exact x_throw (ec := 1) F hlT hnt q_1064 q_19 (is := 169) (text := "no such setting") (t := 16) (by decide +kernel) (by decide +kernel) (hat_1 F.2.2.2.2.1 F.2.2.2.2.2.2.1) hgd_1 hl.1 dX11_setting_10 dX11_setting_13 dX11_setting_14 dX11_setting_16 dX11_setting_19 ⟨Nat.le_of_ble_eq_true rfl, Nat.le_of_ble_eq_true rfl, Nat.le_of_ble_eq_true rfl, Nat.le_of_ble_eq_true rfl⟩ (Nat.le_of_ble_eq_true rfl) (Nat.le_of_ble_eq_true rfl) hW hS
set_option maxHeartbeats 4000000 in
set_option maxRecDepth 100000 in
theorem wk_X11_setting {a1 : Int32} {μ : Mm} {out : (Nat ⊕ Int32)} (F : FX G b RX11 cX11_setting 2 p s m args meth c) (hr : meth.sig.returnType = some .int) (hlT : l.stackTraces = false) (hnt : ∀ x ∈ c.exceptionTable.toList, False) (h : sh_X11_setting a1 μ = some out) (hW : WH G b μ H) (hS : va_S (fb b) s.heap H locs) (hl : lv_has ls 2 [(0, .ref (b + 0)), (1, .int a1)]) : W p l e ({ frames := 6, cells := 1, slots := 6, locals := 90 } : Room) s m args below meth c H locs 0 0 (vx_MQ below (QN G b (Sum.elim (fun _ => none) (fun (v : Int32) => some (μ, (some (.int v)))) out)) (XN G b (Sum.elim (fun (q : Nat) => some (q, μ)) (fun _ => none) out)) args s 1 6 (fb b)) (F0 m 0 ls []) := by
  have hx := F.1
  have hb := F.2.1
  unfold sh_X11_setting at h
  refine lv_iload_n hx hb dX11_setting_0 rfl (lv_at hl 1 rfl) ?_
  refine lv_if_lt (tgt := 10) hx hb dX11_setting_1 (by decide) (fun cc => ?_) (fun cc => ?_)
  · replace h := (if_pos cc).symm.trans h
    exact wk_X11_setting_10 F hr hlT hnt h hW hS (lv_sub hl [] rfl)
  · replace h := (if_neg cc).symm.trans h
    refine lv_iload_n hx hb dX11_setting_4 rfl (lv_at hl 1 rfl) ?_
    refine lv_bipush (v := (8 : Int32)) hx hb dX11_setting_5 (by decide) ?_
    refine lv_icmp_lt (tgt := 20) hx hb dX11_setting_7 (by decide) (fun cc => ?_) (fun cc => ?_)
    · replace h := (if_pos cc).symm.trans h
      refine lv_aload_n hx hb dX11_setting_20 rfl (lv_at hl 0 rfl) ?_
      refine fl_get11 (v := .ref (b + 10)) kyf_0 F hW 5 (by decide) q_537 rfl rfl dX11_setting_21 ?_
      refine fl_get6 (v := .ref (b + 11)) kyf_10 F hW 0 (by decide) q_212 rfl rfl dX11_setting_24 ?_
      refine fl_get0 (v := .ref (b + 12)) kyf_11 F hW 0 (by decide) q_152 rfl rfl dX11_setting_27 ?_
      refine lv_iload_n hx hb dX11_setting_30 rfl (lv_at hl 1 rfl) ?_
      obtain ⟨r1, qr1, h⟩ := ob h
      refine k_X5_at F ok_12 qr1 q_883 ⟨Nat.le_of_ble_eq_true rfl, Nat.le_of_ble_eq_true rfl, Nat.le_of_ble_eq_true rfl, Nat.le_of_ble_eq_true rfl⟩ hW hS hl.1 (Nat.le_of_ble_eq_true rfl) dX11_setting_31 (fun H locs hW hS => ?_)
      cases h
      exact x_int F hr (Nat.le_of_ble_eq_true rfl) (Nat.le_of_ble_eq_true rfl) hW hS dX11_setting_34
    · replace h := (if_neg cc).symm.trans h
      exact wk_X11_setting_10 F hr hlT hnt h hW hS (lv_sub hl [] rfl)
set_option maxHeartbeats 4000000 in
set_option maxRecDepth 100000 in
theorem c_X11_setting {l : Launch} (hlT : l.stackTraces = false) {G : Gt} {b : Nat} {a1 : Int32} {μ : Mm} {out : (Nat ⊕ Int32)} (h : sh_X11_setting a1 μ = some out) : vx_Met l yX11_setting (wU (Cond.code yX11_setting cX11_setting 2 (some .int))) ({ frames := 6, cells := 1, slots := 6, locals := 90 } : Room) (PcW G b μ [.ref (b + 0), .int a1]) (QN G b (Sum.elim (fun _ => none) (fun (v : Int32) => some (μ, (some (.int v)))) out)) (XN G b (Sum.elim (fun (q : Nat) => some (q, μ)) (fun _ => none) out)) 1 6 (fb b) :=
  xmet_of [.ref (b + 0), .int a1] (by decide) (Nat.le_of_ble_eq_true rfl) (fun F hr hnt hW hl => wk_X11_setting F hr hlT hnt h hW va_S.rf hl)
set_option maxHeartbeats 4000000 in
set_option maxRecDepth 100000 in
theorem k_X11_setting {own : String} {nL : Nat} (F : FX G b own cc nL p s m args meth c) (hlT : l.stackTraces = false) {a1 : Int32} {μ : Mm} {out : (Nat ⊕ Int32)} (h : sh_X11_setting a1 μ = some out) {index : Nat} (hl : Cond.methodLink own index yX11_setting ∈ TBG) (hR : 6 + 1 ≤ R.frames ∧ 8 + (2 + 11) + 90 ≤ R.locals ∧ cells + 1 ≤ R.cells ∧ slots + 6 ≤ R.slots) (hW : WH G b μ H) (hS : va_S (fb b) s.heap H locs) (hsz : ls.size = nL) (hrest : (rest.map fun v => v.category).sum ≤ 8) (hdg : decode cc pc = .ok (.invokevirtual index, 3))
    (kx : ∀ (q : Nat), out = .inl q → ∀ (ce : Cell) (q9 : Addr) (H1 : Heap) (locs1 : List Loc), WH G b μ H1 → va_S (fb b) s.heap H1 locs1 → H1[q9]? = some ce → ce.vm = .none → s.vm.findClass (exN q) = some ce.cls → vx_W p l e R s m args below meth c H1 locs1 (cells + 1) (slots + 6) Q (F0 m pc ls rest) q9)
    (kk : ∀ (v : Int32), out = .inr v → ∀ (H1 : Heap) (locs1 : List Loc), WH G b μ H1 → va_S (fb b) s.heap H1 locs1 → W p l e R s m args below meth c H1 locs1 (cells + 1) (slots + 6) Q (F0 m (pc + 3) ls (.int v :: rest))) : W p l e R s m args below meth c H locs cells slots Q (F0 m pc ls (.int a1 :: .ref (b + 0) :: rest)) := by
  cases out with
  | inl q => exact fx_callV (As := [.int a1]) (ci := 11) (c_X11_setting hlT h) ⟨rfl, rfl⟩ rfl (ky_lt kyf_0 (by decide)) (wF_11 kyf_0) q_1092 q_1093 q_1 q_1094 rfl ⟨by decide +kernel, by decide +kernel, (show (parseMethodDescriptor yX11_setting.desc).map (fun d => d.parameters.length) = some 1 by decide +kernel)⟩ F hl hR hW hS hsz hrest rfl hdg (fun z hz => by obtain rfl := Option.some.inj hz; exact kx _ rfl) (fun z hz => nomatch (show (none : Option (Mm × Option Value)) = some z from hz))
  | inr v => exact fx_callV (As := [.int a1]) (ci := 11) (c_X11_setting hlT h) ⟨rfl, rfl⟩ rfl (ky_lt kyf_0 (by decide)) (wF_11 kyf_0) q_1092 q_1093 q_1 q_1094 rfl ⟨by decide +kernel, by decide +kernel, (show (parseMethodDescriptor yX11_setting.desc).map (fun d => d.parameters.length) = some 1 by decide +kernel)⟩ F hl hR hW hS hsz hrest rfl hdg (fun z hz => nomatch (show (none : Option (Nat × Mm)) = some z from hz)) (fun z hz => by obtain rfl := Option.some.inj hz; exact kk _ rfl)
set_option maxHeartbeats 4000000 in
set_option maxRecDepth 100000 in
theorem wk_X11_isRight {μ : Mm} {out : Int32} (F : FX G b RX11 cX11_isRight 1 p s m args meth c) (hr : meth.sig.returnType = some .boolean) (h : sh_X11_isRight  μ = some out) (hW : WH G b μ H) (hS : va_S (fb b) s.heap H locs) (hl : lv_has ls 1 [(0, .ref (b + 0))]) : W p l e ({ frames := 0, cells := 0, slots := 0, locals := 0 } : Room) s m args below meth c H locs 0 0 (MQ below (QW G b μ (some (.int out))) args s 0 0 (fb b)) (F0 m 0 ls []) := by
  have hx := F.1
  have hb := F.2.1
  unfold sh_X11_isRight at h
  refine lv_aload_n hx hb dX11_isRight_0 rfl (lv_at hl 0 rfl) ?_
  refine fl_get11 (v := .ref (b + 10)) kyf_0 F hW 5 (by decide) q_537 rfl rfl dX11_isRight_1 ?_
  refine fl_get6 (v := .ref (b + 11)) kyf_10 F hW 0 (by decide) q_212 rfl rfl dX11_isRight_4 ?_
  refine fl_get0 (v := .int (μ.1 11 1)) kyf_11 F hW 1 (by decide) q_156 rfl rfl dX11_isRight_7 ?_
  obtain ⟨v1, qv1, h⟩ := ob h
  obtain ⟨zv1, qv1⟩ := isB_some qv1
  rw [qv1] at zv1
  rw [qv1]
  cases h
  exact r_bool F hr zv1 hW hS dX11_isRight_10
set_option maxHeartbeats 4000000 in
set_option maxRecDepth 100000 in
theorem c_X11_isRight {l : Launch} {G : Gt} {b : Nat} {μ : Mm} {out : Int32} (h : sh_X11_isRight  μ = some out) : Met l yX11_isRight (wU (Cond.code yX11_isRight cX11_isRight 1 (some .boolean))) ({ frames := 0, cells := 0, slots := 0, locals := 0 } : Room) (PcW G b μ [.ref (b + 0)]) (QW G b μ (some (.int out))) 0 0 (fb b) :=
  met_of [.ref (b + 0)] (by decide) (Nat.le_of_ble_eq_true rfl) (fun F hr hW hl => wk_X11_isRight F hr h hW va_S.rf hl)
set_option maxHeartbeats 4000000 in
set_option maxRecDepth 100000 in
theorem k_X11_isRight {own : String} {nL : Nat} (F : FX G b own cc nL p s m args meth c) {μ : Mm} {out : Int32} (h : sh_X11_isRight  μ = some out) {index : Nat} (hl : Cond.methodLink own index yX11_isRight ∈ TBG) (hR : 0 + 1 ≤ R.frames ∧ 8 + (1 + 11) + 0 ≤ R.locals ∧ cells ≤ R.cells ∧ slots ≤ R.slots) (hW : WH G b μ H) (hS : va_S (fb b) s.heap H locs) (hsz : ls.size = nL) (hrest : (rest.map fun v => v.category).sum ≤ 8) (hdg : decode cc pc = .ok (.invokevirtual index, 3))
    (kk : ∀ (H1 : Heap) (locs1 : List Loc), WH G b μ H1 → va_S (fb b) s.heap H1 locs1 → W p l e R s m args below meth c H1 locs1 cells slots Q (F0 m (pc + 3) ls (.int out :: rest))) : W p l e R s m args below meth c H locs cells slots Q (F0 m pc ls (.ref (b + 0) :: rest)) :=
  f_callV (As := []) (ci := 11) (c_X11_isRight h) ⟨rfl, rfl⟩ rfl (ky_lt kyf_0 (by decide)) (wF_11 kyf_0) q_798 q_799 q_1 q_800 rfl ⟨by decide +kernel, by decide +kernel, (show (parseMethodDescriptor yX11_isRight.desc).map (fun d => d.parameters.length) = some 0 by decide +kernel)⟩ F hl hR hW hS hsz hrest rfl hdg kk
set_option maxHeartbeats 4000000 in
set_option maxRecDepth 100000 in
theorem wk_X11_checkSection_18 {a1 : Int32} {μ : Mm} {out : (Nat ⊕ Unit)} (F : FX G b RX11 cX11_checkSection 2 p s m args meth c) (hr : meth.sig.returnType = none) (hlT : l.stackTraces = false) (hnt : ∀ x ∈ c.exceptionTable.toList, False) (h : sh_X11_checkSection_18 a1 μ = some out) (hW : WH G b μ H) (hS : va_S (fb b) s.heap H locs) (hl : lv_has ls 2 []) : W p l e ({ frames := 6, cells := 1, slots := 6, locals := 90 } : Room) s m args below meth c H locs 0 0 (vx_MQ below (QN G b (Sum.elim (fun _ => none) (fun (v : Unit) => some (μ, none)) out)) (XN G b (Sum.elim (fun (q : Nat) => some (q, μ)) (fun _ => none) out)) args s 1 6 (fb b)) (F0 m 18 ls []) := by
  have hx := F.1
  have hb := F.2.1
  unfold sh_X11_checkSection_18 at h
  cases h
  exact x_throwW (ec := 2) F hlT hnt q_1108 q_25 (is := 435) (text := "no such section") (t := 17) (by decide +kernel) (by decide +kernel) (hat_2 F.2.2.2.2.1 F.2.2.2.2.2.2.1) hgd_2 hl.1 dX11_checkSection_18 dX11_checkSection_21 dX11_checkSection_22 dX11_checkSection_25 dX11_checkSection_28 ⟨Nat.le_of_ble_eq_true rfl, Nat.le_of_ble_eq_true rfl, Nat.le_of_ble_eq_true rfl, Nat.le_of_ble_eq_true rfl⟩ (Nat.le_of_ble_eq_true rfl) (Nat.le_of_ble_eq_true rfl) hW hS
set_option maxHeartbeats 4000000 in
set_option maxRecDepth 100000 in
theorem wk_X11_checkSection {a1 : Int32} {μ : Mm} {out : (Nat ⊕ Unit)} (F : FX G b RX11 cX11_checkSection 2 p s m args meth c) (hr : meth.sig.returnType = none) (hlT : l.stackTraces = false) (hnt : ∀ x ∈ c.exceptionTable.toList, False) (h : sh_X11_checkSection a1 μ = some out) (hW : WH G b μ H) (hS : va_S (fb b) s.heap H locs) (hl : lv_has ls 2 [(0, .ref (b + 0)), (1, .int a1)]) : W p l e ({ frames := 6, cells := 1, slots := 6, locals := 90 } : Room) s m args below meth c H locs 0 0 (vx_MQ below (QN G b (Sum.elim (fun _ => none) (fun (v : Unit) => some (μ, none)) out)) (XN G b (Sum.elim (fun (q : Nat) => some (q, μ)) (fun _ => none) out)) args s 1 6 (fb b)) (F0 m 0 ls []) := by
  have hx := F.1
  have hb := F.2.1
  unfold sh_X11_checkSection at h
  refine lv_iload_n hx hb dX11_checkSection_0 rfl (lv_at hl 1 rfl) ?_
  refine lv_if_lt (tgt := 18) hx hb dX11_checkSection_1 (by decide) (fun cc => ?_) (fun cc => ?_)
  · replace h := (if_pos cc).symm.trans h
    exact wk_X11_checkSection_18 F hr hlT hnt h hW hS (lv_sub hl [] rfl)
  · replace h := (if_neg cc).symm.trans h
    refine lv_iload_n hx hb dX11_checkSection_4 rfl (lv_at hl 1 rfl) ?_
    refine lv_aload_n hx hb dX11_checkSection_5 rfl (lv_at hl 0 rfl) ?_
    refine fl_get11 (v := .ref (b + 10)) kyf_0 F hW 5 (by decide) q_537 rfl rfl dX11_checkSection_6 ?_
    refine fl_get6 (v := .ref (b + 11)) kyf_10 F hW 0 (by decide) q_212 rfl rfl dX11_checkSection_9 ?_
    refine fl_get0 (v := .int (μ.1 11 2)) kyf_11 F hW 2 (by decide) q_165 rfl rfl dX11_checkSection_12 ?_
    refine lv_icmp_lt (tgt := 29) hx hb dX11_checkSection_15 (by decide) (fun cc => ?_) (fun cc => ?_)
    · replace h := (if_pos cc).symm.trans h
      cases h
      exact x_void F hr (Nat.le_of_ble_eq_true rfl) (Nat.le_of_ble_eq_true rfl) hW hS dX11_checkSection_29
    · replace h := (if_neg cc).symm.trans h
      exact wk_X11_checkSection_18 F hr hlT hnt h hW hS (lv_sub hl [] rfl)
set_option maxHeartbeats 4000000 in
set_option maxRecDepth 100000 in
theorem c_X11_checkSection {l : Launch} (hlT : l.stackTraces = false) {G : Gt} {b : Nat} {a1 : Int32} {μ : Mm} {out : (Nat ⊕ Unit)} (h : sh_X11_checkSection a1 μ = some out) : vx_Met l yX11_checkSection (wU (Cond.code yX11_checkSection cX11_checkSection 2 none)) ({ frames := 6, cells := 1, slots := 6, locals := 90 } : Room) (PcW G b μ [.ref (b + 0), .int a1]) (QN G b (Sum.elim (fun _ => none) (fun (v : Unit) => some (μ, none)) out)) (XN G b (Sum.elim (fun (q : Nat) => some (q, μ)) (fun _ => none) out)) 1 6 (fb b) :=
  xmet_of [.ref (b + 0), .int a1] (by decide) (Nat.le_of_ble_eq_true rfl) (fun F hr hnt hW hl => wk_X11_checkSection F hr hlT hnt h hW va_S.rf hl)
set_option maxHeartbeats 4000000 in
set_option maxRecDepth 100000 in
theorem k_X11_checkSection {own : String} {nL : Nat} (F : FX G b own cc nL p s m args meth c) (hlT : l.stackTraces = false) {a1 : Int32} {μ : Mm} {out : (Nat ⊕ Unit)} (h : sh_X11_checkSection a1 μ = some out) {index : Nat} (hl : Cond.methodLink own index yX11_checkSection ∈ TBG) (hR : 6 + 1 ≤ R.frames ∧ 8 + (2 + 11) + 90 ≤ R.locals ∧ cells + 1 ≤ R.cells ∧ slots + 6 ≤ R.slots) (hW : WH G b μ H) (hS : va_S (fb b) s.heap H locs) (hsz : ls.size = nL) (hrest : (rest.map fun v => v.category).sum ≤ 8) (hdg : decode cc pc = .ok (.invokevirtual index, 3))
    (kx : ∀ (q : Nat), out = .inl q → ∀ (ce : Cell) (q9 : Addr) (H1 : Heap) (locs1 : List Loc), WH G b μ H1 → va_S (fb b) s.heap H1 locs1 → H1[q9]? = some ce → ce.vm = .none → s.vm.findClass (exN q) = some ce.cls → vx_W p l e R s m args below meth c H1 locs1 (cells + 1) (slots + 6) Q (F0 m pc ls rest) q9)
    (kk : ∀ (v : Unit), out = .inr v → ∀ (H1 : Heap) (locs1 : List Loc), WH G b μ H1 → va_S (fb b) s.heap H1 locs1 → W p l e R s m args below meth c H1 locs1 (cells + 1) (slots + 6) Q (F0 m (pc + 3) ls (rest))) : W p l e R s m args below meth c H locs cells slots Q (F0 m pc ls (.int a1 :: .ref (b + 0) :: rest)) := by
  cases out with
  | inl q => exact fx_callV (As := [.int a1]) (ci := 11) (c_X11_checkSection hlT h) ⟨rfl, rfl⟩ rfl (ky_lt kyf_0 (by decide)) (wF_11 kyf_0) q_1106 qp_32 q_1 q_1107 rfl ⟨by decide +kernel, by decide +kernel, (show (parseMethodDescriptor yX11_checkSection.desc).map (fun d => d.parameters.length) = some 1 by decide +kernel)⟩ F hl hR hW hS hsz hrest rfl hdg (fun z hz => by obtain rfl := Option.some.inj hz; exact kx _ rfl) (fun z hz => nomatch (show (none : Option (Mm × Option Value)) = some z from hz))
  | inr v => exact fx_callV (As := [.int a1]) (ci := 11) (c_X11_checkSection hlT h) ⟨rfl, rfl⟩ rfl (ky_lt kyf_0 (by decide)) (wF_11 kyf_0) q_1106 qp_32 q_1 q_1107 rfl ⟨by decide +kernel, by decide +kernel, (show (parseMethodDescriptor yX11_checkSection.desc).map (fun d => d.parameters.length) = some 1 by decide +kernel)⟩ F hl hR hW hS hsz hrest rfl hdg (fun z hz => nomatch (show (none : Option (Nat × Mm)) = some z from hz)) (fun z hz => by obtain rfl := Option.some.inj hz; exact kk _ rfl)
set_option maxHeartbeats 4000000 in
set_option maxRecDepth 100000 in
theorem wk_X11_section {a1 : Int32} {a2 : Int32} {μ : Mm} {out : (Nat ⊕ Int32)} (F : FX G b RX11 cX11_section 3 p s m args meth c) (hr : meth.sig.returnType = some .int) (hlT : l.stackTraces = false) (hnt : ∀ x ∈ c.exceptionTable.toList, False) (h : sh_X11_section a1 a2 μ = some out) (hW : WH G b μ H) (hS : va_S (fb b) s.heap H locs) (hl : lv_has ls 3 [(0, .ref (b + 0)), (1, .int a1), (2, .int a2)]) : W p l e ({ frames := 7, cells := 2, slots := 12, locals := 111 } : Room) s m args below meth c H locs 0 0 (vx_MQ below (QN G b (Sum.elim (fun _ => none) (fun (v : Int32) => some (μ, (some (.int v)))) out)) (XN G b (Sum.elim (fun (q : Nat) => some (q, μ)) (fun _ => none) out)) args s 2 12 (fb b)) (F0 m 0 ls []) := by
  have hx := F.1
  have hb := F.2.1
  unfold sh_X11_section at h
  refine lv_aload_n hx hb dX11_section_0 rfl (lv_at hl 0 rfl) ?_
  refine lv_iload_n hx hb dX11_section_1 rfl (lv_at hl 1 rfl) ?_
  obtain ⟨r1, qr1, h⟩ := ob h
  refine k_X11_checkSection F hlT qr1 q_1104 ⟨Nat.le_of_ble_eq_true rfl, Nat.le_of_ble_eq_true rfl, Nat.le_of_ble_eq_true rfl, Nat.le_of_ble_eq_true rfl⟩ hW hS hl.1 (Nat.le_of_ble_eq_true rfl) dX11_section_2 (fun ec he ce q9 H locs hW hS hc1 hc2 hc3 => ?_) (fun v2 he H locs hW hS => ?_)
  · subst he
    cases h
    exact x_out F hnt (Nat.le_of_ble_eq_true rfl) (Nat.le_of_ble_eq_true rfl) hW hS hc1 hc2 hc3
  subst he
  replace h := (Sum.elim_inr _ _ _).symm.trans h
  refine lv_iload_n hx hb dX11_section_5 rfl (lv_at hl 2 rfl) ?_
  by_cases cs0 : a2 = (0 : Int32)
  · replace h := (if_pos cs0).symm.trans h
    rw [cs0]
    refine lv_tableIn (off := 42) (tgt := 48) hx hb dX11_section_6 (by decide) (by decide) rfl (by decide) ?_
    refine lv_aload_n hx hb dX11_section_48 rfl (lv_at hl 0 rfl) ?_
    refine fl_get11 (v := .ref (b + 10)) kyf_0 F hW 5 (by decide) q_537 rfl rfl dX11_section_49 ?_
    refine fl_get6 (v := .ref (b + 11)) kyf_10 F hW 0 (by decide) q_212 rfl rfl dX11_section_52 ?_
    refine fl_get0 (v := .ref (b + 14)) kyf_11 F hW 4 (by decide) q_174 rfl rfl dX11_section_55 ?_
    refine lv_iload_n hx hb dX11_section_58 rfl (lv_at hl 1 rfl) ?_
    obtain ⟨r3, qr3, h⟩ := ob h
    refine k_X5_at F ok_14 qr3 q_883 ⟨Nat.le_of_ble_eq_true rfl, Nat.le_of_ble_eq_true rfl, Nat.le_of_ble_eq_true rfl, Nat.le_of_ble_eq_true rfl⟩ hW hS hl.1 (Nat.le_of_ble_eq_true rfl) dX11_section_59 (fun H locs hW hS => ?_)
    cases h
    exact x_int F hr (Nat.le_of_ble_eq_true rfl) (Nat.le_of_ble_eq_true rfl) hW hS dX11_section_62
  replace h := (if_neg cs0).symm.trans h
  by_cases cs1 : a2 = (1 : Int32)
  · replace h := (if_pos cs1).symm.trans h
    rw [cs1]
    refine lv_tableIn (off := 57) (tgt := 63) hx hb dX11_section_6 (by decide) (by decide) rfl (by decide) ?_
    refine lv_aload_n hx hb dX11_section_63 rfl (lv_at hl 0 rfl) ?_
    refine fl_get11 (v := .ref (b + 10)) kyf_0 F hW 5 (by decide) q_537 rfl rfl dX11_section_64 ?_
    refine fl_get6 (v := .ref (b + 11)) kyf_10 F hW 0 (by decide) q_212 rfl rfl dX11_section_67 ?_
    refine fl_get0 (v := .ref (b + 16)) kyf_11 F hW 5 (by decide) q_178 rfl rfl dX11_section_70 ?_
    refine lv_iload_n hx hb dX11_section_73 rfl (lv_at hl 1 rfl) ?_
    obtain ⟨r4, qr4, h⟩ := ob h
    refine k_X5_at F ok_16 qr4 q_883 ⟨Nat.le_of_ble_eq_true rfl, Nat.le_of_ble_eq_true rfl, Nat.le_of_ble_eq_true rfl, Nat.le_of_ble_eq_true rfl⟩ hW hS hl.1 (Nat.le_of_ble_eq_true rfl) dX11_section_74 (fun H locs hW hS => ?_)
    cases h
    exact x_int F hr (Nat.le_of_ble_eq_true rfl) (Nat.le_of_ble_eq_true rfl) hW hS dX11_section_77
  replace h := (if_neg cs1).symm.trans h
  by_cases cs2 : a2 = (2 : Int32)
  · replace h := (if_pos cs2).symm.trans h
    rw [cs2]
    refine lv_tableIn (off := 72) (tgt := 78) hx hb dX11_section_6 (by decide) (by decide) rfl (by decide) ?_
    refine lv_aload_n hx hb dX11_section_78 rfl (lv_at hl 0 rfl) ?_
    refine fl_get11 (v := .ref (b + 10)) kyf_0 F hW 5 (by decide) q_537 rfl rfl dX11_section_79 ?_
    refine fl_get6 (v := .ref (b + 11)) kyf_10 F hW 0 (by decide) q_212 rfl rfl dX11_section_82 ?_
    refine lv_iload_n hx hb dX11_section_85 rfl (lv_at hl 1 rfl) ?_
    obtain ⟨r5, qr5, h⟩ := ob h
    refine k_X0_partOf F ok_11 qr5 q_1124 ⟨Nat.le_of_ble_eq_true rfl, Nat.le_of_ble_eq_true rfl, Nat.le_of_ble_eq_true rfl, Nat.le_of_ble_eq_true rfl⟩ hW hS hl.1 (Nat.le_of_ble_eq_true rfl) dX11_section_86 (fun H locs hW hS => ?_)
    cases h
    exact x_int F hr (Nat.le_of_ble_eq_true rfl) (Nat.le_of_ble_eq_true rfl) hW hS dX11_section_89
  replace h := (if_neg cs2).symm.trans h
  by_cases cs3 : a2 = (3 : Int32)
  · replace h := (if_pos cs3).symm.trans h
    rw [cs3]
    refine lv_tableIn (off := 84) (tgt := 90) hx hb dX11_section_6 (by decide) (by decide) rfl (by decide) ?_
    refine lv_aload_n hx hb dX11_section_90 rfl (lv_at hl 0 rfl) ?_
    refine fl_get11 (v := .ref (b + 10)) kyf_0 F hW 5 (by decide) q_537 rfl rfl dX11_section_91 ?_
    refine fl_get6 (v := .ref (b + 11)) kyf_10 F hW 0 (by decide) q_212 rfl rfl dX11_section_94 ?_
    refine fl_get0 (v := .ref (b + 18)) kyf_11 F hW 6 (by decide) q_184 rfl rfl dX11_section_97 ?_
    refine lv_iload_n hx hb dX11_section_100 rfl (lv_at hl 1 rfl) ?_
    obtain ⟨r6, qr6, h⟩ := ob h
    refine k_X5_at F ok_18 qr6 q_883 ⟨Nat.le_of_ble_eq_true rfl, Nat.le_of_ble_eq_true rfl, Nat.le_of_ble_eq_true rfl, Nat.le_of_ble_eq_true rfl⟩ hW hS hl.1 (Nat.le_of_ble_eq_true rfl) dX11_section_101 (fun H locs hW hS => ?_)
    cases h
    exact x_int F hr (Nat.le_of_ble_eq_true rfl) (Nat.le_of_ble_eq_true rfl) hW hS dX11_section_104
  replace h := (if_neg cs3).symm.trans h
  by_cases cs4 : a2 = (4 : Int32)
  · replace h := (if_pos cs4).symm.trans h
    rw [cs4]
    refine lv_tableIn (off := 99) (tgt := 105) hx hb dX11_section_6 (by decide) (by decide) rfl (by decide) ?_
    refine lv_aload_n hx hb dX11_section_105 rfl (lv_at hl 0 rfl) ?_
    refine fl_get11 (v := .ref (b + 38)) kyf_0 F hW 9 (by decide) q_541 rfl rfl dX11_section_106 ?_
    refine fl_get1 (v := .ref (b + 39)) kyf_38 F hW 0 (by decide) q_361 rfl rfl dX11_section_109 ?_
    refine fl_get2 (v := .ref (b + 40)) kyf_39 F hW 0 (by decide) q_240 rfl rfl dX11_section_112 ?_
    refine lv_iload_n hx hb dX11_section_115 rfl (lv_at hl 1 rfl) ?_
    obtain ⟨r7, qr7, h⟩ := ob h
    refine k_X5_at F ok_40 qr7 q_883 ⟨Nat.le_of_ble_eq_true rfl, Nat.le_of_ble_eq_true rfl, Nat.le_of_ble_eq_true rfl, Nat.le_of_ble_eq_true rfl⟩ hW hS hl.1 (Nat.le_of_ble_eq_true rfl) dX11_section_116 (fun H locs hW hS => ?_)
    cases h
    exact x_int F hr (Nat.le_of_ble_eq_true rfl) (Nat.le_of_ble_eq_true rfl) hW hS dX11_section_119
  replace h := (if_neg cs4).symm.trans h
  by_cases cs5 : a2 = (5 : Int32)
  · replace h := (if_pos cs5).symm.trans h
    rw [cs5]
    refine lv_tableIn (off := 114) (tgt := 120) hx hb dX11_section_6 (by decide) (by decide) rfl (by decide) ?_
    refine lv_aload_n hx hb dX11_section_120 rfl (lv_at hl 0 rfl) ?_
    refine fl_get11 (v := .ref (b + 38)) kyf_0 F hW 9 (by decide) q_541 rfl rfl dX11_section_121 ?_
    refine fl_get1 (v := .ref (b + 39)) kyf_38 F hW 0 (by decide) q_361 rfl rfl dX11_section_124 ?_
    refine fl_get2 (v := .ref (b + 42)) kyf_39 F hW 1 (by decide) q_242 rfl rfl dX11_section_127 ?_
    refine lv_iload_n hx hb dX11_section_130 rfl (lv_at hl 1 rfl) ?_
    obtain ⟨r8, qr8, h⟩ := ob h
    refine k_X5_at F ok_42 qr8 q_883 ⟨Nat.le_of_ble_eq_true rfl, Nat.le_of_ble_eq_true rfl, Nat.le_of_ble_eq_true rfl, Nat.le_of_ble_eq_true rfl⟩ hW hS hl.1 (Nat.le_of_ble_eq_true rfl) dX11_section_131 (fun H locs hW hS => ?_)
    cases h
    exact x_int F hr (Nat.le_of_ble_eq_true rfl) (Nat.le_of_ble_eq_true rfl) hW hS dX11_section_134
  replace h := (if_neg cs5).symm.trans h
  by_cases cs6 : a2 = (6 : Int32)
  · replace h := (if_pos cs6).symm.trans h
    rw [cs6]
    refine lv_tableIn (off := 129) (tgt := 135) hx hb dX11_section_6 (by decide) (by decide) rfl (by decide) ?_
    refine lv_aload_n hx hb dX11_section_135 rfl (lv_at hl 0 rfl) ?_
    refine fl_get11 (v := .ref (b + 38)) kyf_0 F hW 9 (by decide) q_541 rfl rfl dX11_section_136 ?_
    refine fl_get1 (v := .ref (b + 39)) kyf_38 F hW 0 (by decide) q_361 rfl rfl dX11_section_139 ?_
    refine fl_get2 (v := .ref (b + 44)) kyf_39 F hW 2 (by decide) q_244 rfl rfl dX11_section_142 ?_
    refine lv_iload_n hx hb dX11_section_145 rfl (lv_at hl 1 rfl) ?_
    obtain ⟨r9, qr9, h⟩ := ob h
    refine k_X5_at F ok_44 qr9 q_883 ⟨Nat.le_of_ble_eq_true rfl, Nat.le_of_ble_eq_true rfl, Nat.le_of_ble_eq_true rfl, Nat.le_of_ble_eq_true rfl⟩ hW hS hl.1 (Nat.le_of_ble_eq_true rfl) dX11_section_146 (fun H locs hW hS => ?_)
    cases h
    exact x_int F hr (Nat.le_of_ble_eq_true rfl) (Nat.le_of_ble_eq_true rfl) hW hS dX11_section_149
  replace h := (if_neg cs6).symm.trans h
  refine lv_tableOut (tgt := 150) hx hb dX11_section_6 (t_out (hi := 6) ?_ (by decide)) (by decide) ?_
  · intro k hk
    rcases (show k = 0 ∨ k = 1 ∨ k = 2 ∨ k = 3 ∨ k = 4 ∨ k = 5 ∨ k = 6 by omega) with rfl | rfl | rfl | rfl | rfl | rfl | rfl
    · exact cs0
    · exact cs1
    · exact cs2
    · exact cs3
    · exact cs4
    · exact cs5
    · exact cs6
  cases h
  exact x_throw (ec := 1) F hlT hnt q_1064 q_19 (is := 214) (text := "no such value of a section") (t := 18) (by decide +kernel) (by decide +kernel) (hat_1 F.2.2.2.2.1 F.2.2.2.2.2.2.1) hgd_1 hl.1 dX11_section_150 dX11_section_153 dX11_section_154 dX11_section_156 dX11_section_159 ⟨Nat.le_of_ble_eq_true rfl, Nat.le_of_ble_eq_true rfl, Nat.le_of_ble_eq_true rfl, Nat.le_of_ble_eq_true rfl⟩ (Nat.le_of_ble_eq_true rfl) (Nat.le_of_ble_eq_true rfl) hW hS
set_option maxHeartbeats 4000000 in
set_option maxRecDepth 100000 in
theorem c_X11_section {l : Launch} (hlT : l.stackTraces = false) {G : Gt} {b : Nat} {a1 : Int32} {a2 : Int32} {μ : Mm} {out : (Nat ⊕ Int32)} (h : sh_X11_section a1 a2 μ = some out) : vx_Met l yX11_section (wU (Cond.code yX11_section cX11_section 3 (some .int))) ({ frames := 7, cells := 2, slots := 12, locals := 111 } : Room) (PcW G b μ [.ref (b + 0), .int a1, .int a2]) (QN G b (Sum.elim (fun _ => none) (fun (v : Int32) => some (μ, (some (.int v)))) out)) (XN G b (Sum.elim (fun (q : Nat) => some (q, μ)) (fun _ => none) out)) 2 12 (fb b) :=
  xmet_of [.ref (b + 0), .int a1, .int a2] (by decide) (Nat.le_of_ble_eq_true rfl) (fun F hr hnt hW hl => wk_X11_section F hr hlT hnt h hW va_S.rf hl)
set_option maxHeartbeats 4000000 in
set_option maxRecDepth 100000 in
theorem k_X11_section {own : String} {nL : Nat} (F : FX G b own cc nL p s m args meth c) (hlT : l.stackTraces = false) {a1 : Int32} {a2 : Int32} {μ : Mm} {out : (Nat ⊕ Int32)} (h : sh_X11_section a1 a2 μ = some out) {index : Nat} (hl : Cond.methodLink own index yX11_section ∈ TBG) (hR : 7 + 1 ≤ R.frames ∧ 8 + (3 + 11) + 111 ≤ R.locals ∧ cells + 2 ≤ R.cells ∧ slots + 12 ≤ R.slots) (hW : WH G b μ H) (hS : va_S (fb b) s.heap H locs) (hsz : ls.size = nL) (hrest : (rest.map fun v => v.category).sum ≤ 8) (hdg : decode cc pc = .ok (.invokevirtual index, 3))
    (kx : ∀ (q : Nat), out = .inl q → ∀ (ce : Cell) (q9 : Addr) (H1 : Heap) (locs1 : List Loc), WH G b μ H1 → va_S (fb b) s.heap H1 locs1 → H1[q9]? = some ce → ce.vm = .none → s.vm.findClass (exN q) = some ce.cls → vx_W p l e R s m args below meth c H1 locs1 (cells + 2) (slots + 12) Q (F0 m pc ls rest) q9)
    (kk : ∀ (v : Int32), out = .inr v → ∀ (H1 : Heap) (locs1 : List Loc), WH G b μ H1 → va_S (fb b) s.heap H1 locs1 → W p l e R s m args below meth c H1 locs1 (cells + 2) (slots + 12) Q (F0 m (pc + 3) ls (.int v :: rest))) : W p l e R s m args below meth c H locs cells slots Q (F0 m pc ls (.int a2 :: .int a1 :: .ref (b + 0) :: rest)) := by
  cases out with
  | inl q => exact fx_callV (As := [.int a1, .int a2]) (ci := 11) (c_X11_section hlT h) ⟨rfl, rfl⟩ rfl (ky_lt kyf_0 (by decide)) (wF_11 kyf_0) q_1101 q_1102 q_1 q_1103 rfl ⟨by decide +kernel, by decide +kernel, (show (parseMethodDescriptor yX11_section.desc).map (fun d => d.parameters.length) = some 2 by decide +kernel)⟩ F hl hR hW hS hsz hrest rfl hdg (fun z hz => by obtain rfl := Option.some.inj hz; exact kx _ rfl) (fun z hz => nomatch (show (none : Option (Mm × Option Value)) = some z from hz))
  | inr v => exact fx_callV (As := [.int a1, .int a2]) (ci := 11) (c_X11_section hlT h) ⟨rfl, rfl⟩ rfl (ky_lt kyf_0 (by decide)) (wF_11 kyf_0) q_1101 q_1102 q_1 q_1103 rfl ⟨by decide +kernel, by decide +kernel, (show (parseMethodDescriptor yX11_section.desc).map (fun d => d.parameters.length) = some 2 by decide +kernel)⟩ F hl hR hW hS hsz hrest rfl hdg (fun z hz => nomatch (show (none : Option (Nat × Mm)) = some z from hz)) (fun z hz => by obtain rfl := Option.some.inj hz; exact kk _ rfl)
set_option maxHeartbeats 4000000 in
set_option maxRecDepth 100000 in
theorem wk_X11_titleWidth {a1 : Int32} {μ : Mm} {out : (Nat ⊕ Int32)} (F : FX G b RX11 cX11_titleWidth 2 p s m args meth c) (hr : meth.sig.returnType = some .int) (hlT : l.stackTraces = false) (hnt : ∀ x ∈ c.exceptionTable.toList, False) (h : sh_X11_titleWidth a1 μ = some out) (hW : WH G b μ H) (hS : va_S (fb b) s.heap H locs) (hl : lv_has ls 2 [(0, .ref (b + 0)), (1, .int a1)]) : W p l e ({ frames := 7, cells := 1, slots := 6, locals := 111 } : Room) s m args below meth c H locs 0 0 (vx_MQ below (QN G b (Sum.elim (fun _ => none) (fun (v : Int32) => some (μ, (some (.int v)))) out)) (XN G b (Sum.elim (fun (q : Nat) => some (q, μ)) (fun _ => none) out)) args s 1 6 (fb b)) (F0 m 0 ls []) := by
  have hx := F.1
  have hb := F.2.1
  unfold sh_X11_titleWidth at h
  refine lv_aload_n hx hb dX11_titleWidth_0 rfl (lv_at hl 0 rfl) ?_
  refine lv_iload_n hx hb dX11_titleWidth_1 rfl (lv_at hl 1 rfl) ?_
  obtain ⟨r1, qr1, h⟩ := ob h
  refine k_X11_checkSection F hlT qr1 q_1104 ⟨Nat.le_of_ble_eq_true rfl, Nat.le_of_ble_eq_true rfl, Nat.le_of_ble_eq_true rfl, Nat.le_of_ble_eq_true rfl⟩ hW hS hl.1 (Nat.le_of_ble_eq_true rfl) dX11_titleWidth_2 (fun ec he ce q9 H locs hW hS hc1 hc2 hc3 => ?_) (fun v2 he H locs hW hS => ?_)
  · subst he
    cases h
    exact x_out F hnt (Nat.le_of_ble_eq_true rfl) (Nat.le_of_ble_eq_true rfl) hW hS hc1 hc2 hc3
  subst he
  replace h := (Sum.elim_inr _ _ _).symm.trans h
  refine lv_aload_n hx hb dX11_titleWidth_5 rfl (lv_at hl 0 rfl) ?_
  refine fl_get11 (v := .ref (b + 38)) kyf_0 F hW 9 (by decide) q_541 rfl rfl dX11_titleWidth_6 ?_
  refine fl_get1 (v := .ref (b + 39)) kyf_38 F hW 0 (by decide) q_361 rfl rfl dX11_titleWidth_9 ?_
  refine fl_get2 (v := .ref (b + 50)) kyf_39 F hW 5 (by decide) q_249 rfl rfl dX11_titleWidth_12 ?_
  refine lv_iload_n hx hb dX11_titleWidth_15 rfl (lv_at hl 1 rfl) ?_
  obtain ⟨r3, qr3, h⟩ := ob h
  refine k_X5_at F ok_50 qr3 q_883 ⟨Nat.le_of_ble_eq_true rfl, Nat.le_of_ble_eq_true rfl, Nat.le_of_ble_eq_true rfl, Nat.le_of_ble_eq_true rfl⟩ hW hS hl.1 (Nat.le_of_ble_eq_true rfl) dX11_titleWidth_16 (fun H locs hW hS => ?_)
  cases h
  exact x_int F hr (Nat.le_of_ble_eq_true rfl) (Nat.le_of_ble_eq_true rfl) hW hS dX11_titleWidth_19
set_option maxHeartbeats 4000000 in
set_option maxRecDepth 100000 in
theorem c_X11_titleWidth {l : Launch} (hlT : l.stackTraces = false) {G : Gt} {b : Nat} {a1 : Int32} {μ : Mm} {out : (Nat ⊕ Int32)} (h : sh_X11_titleWidth a1 μ = some out) : vx_Met l yX11_titleWidth (wU (Cond.code yX11_titleWidth cX11_titleWidth 2 (some .int))) ({ frames := 7, cells := 1, slots := 6, locals := 111 } : Room) (PcW G b μ [.ref (b + 0), .int a1]) (QN G b (Sum.elim (fun _ => none) (fun (v : Int32) => some (μ, (some (.int v)))) out)) (XN G b (Sum.elim (fun (q : Nat) => some (q, μ)) (fun _ => none) out)) 1 6 (fb b) :=
  xmet_of [.ref (b + 0), .int a1] (by decide) (Nat.le_of_ble_eq_true rfl) (fun F hr hnt hW hl => wk_X11_titleWidth F hr hlT hnt h hW va_S.rf hl)
set_option maxHeartbeats 4000000 in
set_option maxRecDepth 100000 in
theorem k_X11_titleWidth {own : String} {nL : Nat} (F : FX G b own cc nL p s m args meth c) (hlT : l.stackTraces = false) {a1 : Int32} {μ : Mm} {out : (Nat ⊕ Int32)} (h : sh_X11_titleWidth a1 μ = some out) {index : Nat} (hl : Cond.methodLink own index yX11_titleWidth ∈ TBG) (hR : 7 + 1 ≤ R.frames ∧ 8 + (2 + 11) + 111 ≤ R.locals ∧ cells + 1 ≤ R.cells ∧ slots + 6 ≤ R.slots) (hW : WH G b μ H) (hS : va_S (fb b) s.heap H locs) (hsz : ls.size = nL) (hrest : (rest.map fun v => v.category).sum ≤ 8) (hdg : decode cc pc = .ok (.invokevirtual index, 3))
    (kx : ∀ (q : Nat), out = .inl q → ∀ (ce : Cell) (q9 : Addr) (H1 : Heap) (locs1 : List Loc), WH G b μ H1 → va_S (fb b) s.heap H1 locs1 → H1[q9]? = some ce → ce.vm = .none → s.vm.findClass (exN q) = some ce.cls → vx_W p l e R s m args below meth c H1 locs1 (cells + 1) (slots + 6) Q (F0 m pc ls rest) q9)
    (kk : ∀ (v : Int32), out = .inr v → ∀ (H1 : Heap) (locs1 : List Loc), WH G b μ H1 → va_S (fb b) s.heap H1 locs1 → W p l e R s m args below meth c H1 locs1 (cells + 1) (slots + 6) Q (F0 m (pc + 3) ls (.int v :: rest))) : W p l e R s m args below meth c H locs cells slots Q (F0 m pc ls (.int a1 :: .ref (b + 0) :: rest)) := by
  cases out with
  | inl q => exact fx_callV (As := [.int a1]) (ci := 11) (c_X11_titleWidth hlT h) ⟨rfl, rfl⟩ rfl (ky_lt kyf_0 (by decide)) (wF_11 kyf_0) q_1130 q_1131 q_1 q_1132 rfl ⟨by decide +kernel, by decide +kernel, (show (parseMethodDescriptor yX11_titleWidth.desc).map (fun d => d.parameters.length) = some 1 by decide +kernel)⟩ F hl hR hW hS hsz hrest rfl hdg (fun z hz => by obtain rfl := Option.some.inj hz; exact kx _ rfl) (fun z hz => nomatch (show (none : Option (Mm × Option Value)) = some z from hz))
  | inr v => exact fx_callV (As := [.int a1]) (ci := 11) (c_X11_titleWidth hlT h) ⟨rfl, rfl⟩ rfl (ky_lt kyf_0 (by decide)) (wF_11 kyf_0) q_1130 q_1131 q_1 q_1132 rfl ⟨by decide +kernel, by decide +kernel, (show (parseMethodDescriptor yX11_titleWidth.desc).map (fun d => d.parameters.length) = some 1 by decide +kernel)⟩ F hl hR hW hS hsz hrest rfl hdg (fun z hz => nomatch (show (none : Option (Nat × Mm)) = some z from hz)) (fun z hz => by obtain rfl := Option.some.inj hz; exact kk _ rfl)
set_option maxHeartbeats 4000000 in
set_option maxRecDepth 100000 in
theorem wk_X11_page {a1 : Int32} {μ : Mm} {out : (Nat ⊕ Int32)} (F : FX G b RX11 cX11_page 2 p s m args meth c) (hr : meth.sig.returnType = some .int) (hlT : l.stackTraces = false) (hnt : ∀ x ∈ c.exceptionTable.toList, False) (h : sh_X11_page a1 μ = some out) (hW : WH G b μ H) (hS : va_S (fb b) s.heap H locs) (hl : lv_has ls 2 [(0, .ref (b + 0)), (1, .int a1)]) : W p l e ({ frames := 7, cells := 1, slots := 6, locals := 111 } : Room) s m args below meth c H locs 0 0 (vx_MQ below (QN G b (Sum.elim (fun _ => none) (fun (v : Int32) => some (μ, (some (.int v)))) out)) (XN G b (Sum.elim (fun (q : Nat) => some (q, μ)) (fun _ => none) out)) args s 1 6 (fb b)) (F0 m 0 ls []) := by
  have hx := F.1
  have hb := F.2.1
  unfold sh_X11_page at h
  refine lv_aload_n hx hb dX11_page_0 rfl (lv_at hl 0 rfl) ?_
  refine lv_iload_n hx hb dX11_page_1 rfl (lv_at hl 1 rfl) ?_
  obtain ⟨r1, qr1, h⟩ := ob h
  refine k_X11_checkSection F hlT qr1 q_1104 ⟨Nat.le_of_ble_eq_true rfl, Nat.le_of_ble_eq_true rfl, Nat.le_of_ble_eq_true rfl, Nat.le_of_ble_eq_true rfl⟩ hW hS hl.1 (Nat.le_of_ble_eq_true rfl) dX11_page_2 (fun ec he ce q9 H locs hW hS hc1 hc2 hc3 => ?_) (fun v2 he H locs hW hS => ?_)
  · subst he
    cases h
    exact x_out F hnt (Nat.le_of_ble_eq_true rfl) (Nat.le_of_ble_eq_true rfl) hW hS hc1 hc2 hc3
  subst he
  replace h := (Sum.elim_inr _ _ _).symm.trans h
  refine lv_aload_n hx hb dX11_page_5 rfl (lv_at hl 0 rfl) ?_
  refine fl_get11 (v := .ref (b + 38)) kyf_0 F hW 9 (by decide) q_541 rfl rfl dX11_page_6 ?_
  refine fl_get1 (v := .ref (b + 52)) kyf_38 F hW 1 (by decide) q_363 rfl rfl dX11_page_9 ?_
  refine fl_get3 (v := .ref (b + 53)) kyf_52 F hW 0 (by decide) q_273 rfl rfl dX11_page_12 ?_
  refine lv_iload_n hx hb dX11_page_15 rfl (lv_at hl 1 rfl) ?_
  obtain ⟨r3, qr3, h⟩ := ob h
  refine k_X5_at F ok_53 qr3 q_883 ⟨Nat.le_of_ble_eq_true rfl, Nat.le_of_ble_eq_true rfl, Nat.le_of_ble_eq_true rfl, Nat.le_of_ble_eq_true rfl⟩ hW hS hl.1 (Nat.le_of_ble_eq_true rfl) dX11_page_16 (fun H locs hW hS => ?_)
  cases h
  exact x_int F hr (Nat.le_of_ble_eq_true rfl) (Nat.le_of_ble_eq_true rfl) hW hS dX11_page_19
set_option maxHeartbeats 4000000 in
set_option maxRecDepth 100000 in
theorem c_X11_page {l : Launch} (hlT : l.stackTraces = false) {G : Gt} {b : Nat} {a1 : Int32} {μ : Mm} {out : (Nat ⊕ Int32)} (h : sh_X11_page a1 μ = some out) : vx_Met l yX11_page (wU (Cond.code yX11_page cX11_page 2 (some .int))) ({ frames := 7, cells := 1, slots := 6, locals := 111 } : Room) (PcW G b μ [.ref (b + 0), .int a1]) (QN G b (Sum.elim (fun _ => none) (fun (v : Int32) => some (μ, (some (.int v)))) out)) (XN G b (Sum.elim (fun (q : Nat) => some (q, μ)) (fun _ => none) out)) 1 6 (fb b) :=
  xmet_of [.ref (b + 0), .int a1] (by decide) (Nat.le_of_ble_eq_true rfl) (fun F hr hnt hW hl => wk_X11_page F hr hlT hnt h hW va_S.rf hl)
set_option maxHeartbeats 4000000 in
set_option maxRecDepth 100000 in
theorem k_X11_page {own : String} {nL : Nat} (F : FX G b own cc nL p s m args meth c) (hlT : l.stackTraces = false) {a1 : Int32} {μ : Mm} {out : (Nat ⊕ Int32)} (h : sh_X11_page a1 μ = some out) {index : Nat} (hl : Cond.methodLink own index yX11_page ∈ TBG) (hR : 7 + 1 ≤ R.frames ∧ 8 + (2 + 11) + 111 ≤ R.locals ∧ cells + 1 ≤ R.cells ∧ slots + 6 ≤ R.slots) (hW : WH G b μ H) (hS : va_S (fb b) s.heap H locs) (hsz : ls.size = nL) (hrest : (rest.map fun v => v.category).sum ≤ 8) (hdg : decode cc pc = .ok (.invokevirtual index, 3))
    (kx : ∀ (q : Nat), out = .inl q → ∀ (ce : Cell) (q9 : Addr) (H1 : Heap) (locs1 : List Loc), WH G b μ H1 → va_S (fb b) s.heap H1 locs1 → H1[q9]? = some ce → ce.vm = .none → s.vm.findClass (exN q) = some ce.cls → vx_W p l e R s m args below meth c H1 locs1 (cells + 1) (slots + 6) Q (F0 m pc ls rest) q9)
    (kk : ∀ (v : Int32), out = .inr v → ∀ (H1 : Heap) (locs1 : List Loc), WH G b μ H1 → va_S (fb b) s.heap H1 locs1 → W p l e R s m args below meth c H1 locs1 (cells + 1) (slots + 6) Q (F0 m (pc + 3) ls (.int v :: rest))) : W p l e R s m args below meth c H locs cells slots Q (F0 m pc ls (.int a1 :: .ref (b + 0) :: rest)) := by
  cases out with
  | inl q => exact fx_callV (As := [.int a1]) (ci := 11) (c_X11_page hlT h) ⟨rfl, rfl⟩ rfl (ky_lt kyf_0 (by decide)) (wF_11 kyf_0) q_1137 q_1138 q_1 q_1139 rfl ⟨by decide +kernel, by decide +kernel, (show (parseMethodDescriptor yX11_page.desc).map (fun d => d.parameters.length) = some 1 by decide +kernel)⟩ F hl hR hW hS hsz hrest rfl hdg (fun z hz => by obtain rfl := Option.some.inj hz; exact kx _ rfl) (fun z hz => nomatch (show (none : Option (Mm × Option Value)) = some z from hz))
  | inr v => exact fx_callV (As := [.int a1]) (ci := 11) (c_X11_page hlT h) ⟨rfl, rfl⟩ rfl (ky_lt kyf_0 (by decide)) (wF_11 kyf_0) q_1137 q_1138 q_1 q_1139 rfl ⟨by decide +kernel, by decide +kernel, (show (parseMethodDescriptor yX11_page.desc).map (fun d => d.parameters.length) = some 1 by decide +kernel)⟩ F hl hR hW hS hsz hrest rfl hdg (fun z hz => nomatch (show (none : Option (Nat × Mm)) = some z from hz)) (fun z hz => by obtain rfl := Option.some.inj hz; exact kk _ rfl)
set_option maxHeartbeats 4000000 in
set_option maxRecDepth 100000 in
theorem wk_X11_bookPage {a1 : Int32} {μ : Mm} {out : (Nat ⊕ Int32)} (F : FX G b RX11 cX11_bookPage 2 p s m args meth c) (hr : meth.sig.returnType = some .int) (hlT : l.stackTraces = false) (hnt : ∀ x ∈ c.exceptionTable.toList, False) (h : sh_X11_bookPage a1 μ = some out) (hW : WH G b μ H) (hS : va_S (fb b) s.heap H locs) (hl : lv_has ls 2 [(0, .ref (b + 0)), (1, .int a1)]) : W p l e ({ frames := 7, cells := 1, slots := 6, locals := 111 } : Room) s m args below meth c H locs 0 0 (vx_MQ below (QN G b (Sum.elim (fun _ => none) (fun (v : Int32) => some (μ, (some (.int v)))) out)) (XN G b (Sum.elim (fun (q : Nat) => some (q, μ)) (fun _ => none) out)) args s 1 6 (fb b)) (F0 m 0 ls []) := by
  have hx := F.1
  have hb := F.2.1
  unfold sh_X11_bookPage at h
  refine lv_aload_n hx hb dX11_bookPage_0 rfl (lv_at hl 0 rfl) ?_
  refine lv_iload_n hx hb dX11_bookPage_1 rfl (lv_at hl 1 rfl) ?_
  obtain ⟨r1, qr1, h⟩ := ob h
  refine k_X11_checkSection F hlT qr1 q_1104 ⟨Nat.le_of_ble_eq_true rfl, Nat.le_of_ble_eq_true rfl, Nat.le_of_ble_eq_true rfl, Nat.le_of_ble_eq_true rfl⟩ hW hS hl.1 (Nat.le_of_ble_eq_true rfl) dX11_bookPage_2 (fun ec he ce q9 H locs hW hS hc1 hc2 hc3 => ?_) (fun v2 he H locs hW hS => ?_)
  · subst he
    cases h
    exact x_out F hnt (Nat.le_of_ble_eq_true rfl) (Nat.le_of_ble_eq_true rfl) hW hS hc1 hc2 hc3
  subst he
  replace h := (Sum.elim_inr _ _ _).symm.trans h
  refine lv_aload_n hx hb dX11_bookPage_5 rfl (lv_at hl 0 rfl) ?_
  refine fl_get11 (v := .ref (b + 38)) kyf_0 F hW 9 (by decide) q_541 rfl rfl dX11_bookPage_6 ?_
  refine fl_get1 (v := .ref (b + 52)) kyf_38 F hW 1 (by decide) q_363 rfl rfl dX11_bookPage_9 ?_
  refine fl_get3 (v := .ref (b + 55)) kyf_52 F hW 1 (by decide) q_275 rfl rfl dX11_bookPage_12 ?_
  refine lv_iload_n hx hb dX11_bookPage_15 rfl (lv_at hl 1 rfl) ?_
  obtain ⟨r3, qr3, h⟩ := ob h
  refine k_X5_at F ok_55 qr3 q_883 ⟨Nat.le_of_ble_eq_true rfl, Nat.le_of_ble_eq_true rfl, Nat.le_of_ble_eq_true rfl, Nat.le_of_ble_eq_true rfl⟩ hW hS hl.1 (Nat.le_of_ble_eq_true rfl) dX11_bookPage_16 (fun H locs hW hS => ?_)
  cases h
  exact x_int F hr (Nat.le_of_ble_eq_true rfl) (Nat.le_of_ble_eq_true rfl) hW hS dX11_bookPage_19
set_option maxHeartbeats 4000000 in
set_option maxRecDepth 100000 in
theorem c_X11_bookPage {l : Launch} (hlT : l.stackTraces = false) {G : Gt} {b : Nat} {a1 : Int32} {μ : Mm} {out : (Nat ⊕ Int32)} (h : sh_X11_bookPage a1 μ = some out) : vx_Met l yX11_bookPage (wU (Cond.code yX11_bookPage cX11_bookPage 2 (some .int))) ({ frames := 7, cells := 1, slots := 6, locals := 111 } : Room) (PcW G b μ [.ref (b + 0), .int a1]) (QN G b (Sum.elim (fun _ => none) (fun (v : Int32) => some (μ, (some (.int v)))) out)) (XN G b (Sum.elim (fun (q : Nat) => some (q, μ)) (fun _ => none) out)) 1 6 (fb b) :=
  xmet_of [.ref (b + 0), .int a1] (by decide) (Nat.le_of_ble_eq_true rfl) (fun F hr hnt hW hl => wk_X11_bookPage F hr hlT hnt h hW va_S.rf hl)
set_option maxHeartbeats 4000000 in
set_option maxRecDepth 100000 in
theorem k_X11_bookPage {own : String} {nL : Nat} (F : FX G b own cc nL p s m args meth c) (hlT : l.stackTraces = false) {a1 : Int32} {μ : Mm} {out : (Nat ⊕ Int32)} (h : sh_X11_bookPage a1 μ = some out) {index : Nat} (hl : Cond.methodLink own index yX11_bookPage ∈ TBG) (hR : 7 + 1 ≤ R.frames ∧ 8 + (2 + 11) + 111 ≤ R.locals ∧ cells + 1 ≤ R.cells ∧ slots + 6 ≤ R.slots) (hW : WH G b μ H) (hS : va_S (fb b) s.heap H locs) (hsz : ls.size = nL) (hrest : (rest.map fun v => v.category).sum ≤ 8) (hdg : decode cc pc = .ok (.invokevirtual index, 3))
    (kx : ∀ (q : Nat), out = .inl q → ∀ (ce : Cell) (q9 : Addr) (H1 : Heap) (locs1 : List Loc), WH G b μ H1 → va_S (fb b) s.heap H1 locs1 → H1[q9]? = some ce → ce.vm = .none → s.vm.findClass (exN q) = some ce.cls → vx_W p l e R s m args below meth c H1 locs1 (cells + 1) (slots + 6) Q (F0 m pc ls rest) q9)
    (kk : ∀ (v : Int32), out = .inr v → ∀ (H1 : Heap) (locs1 : List Loc), WH G b μ H1 → va_S (fb b) s.heap H1 locs1 → W p l e R s m args below meth c H1 locs1 (cells + 1) (slots + 6) Q (F0 m (pc + 3) ls (.int v :: rest))) : W p l e R s m args below meth c H locs cells slots Q (F0 m pc ls (.int a1 :: .ref (b + 0) :: rest)) := by
  cases out with
  | inl q => exact fx_callV (As := [.int a1]) (ci := 11) (c_X11_bookPage hlT h) ⟨rfl, rfl⟩ rfl (ky_lt kyf_0 (by decide)) (wF_11 kyf_0) q_1144 q_1145 q_1 q_1146 rfl ⟨by decide +kernel, by decide +kernel, (show (parseMethodDescriptor yX11_bookPage.desc).map (fun d => d.parameters.length) = some 1 by decide +kernel)⟩ F hl hR hW hS hsz hrest rfl hdg (fun z hz => by obtain rfl := Option.some.inj hz; exact kx _ rfl) (fun z hz => nomatch (show (none : Option (Mm × Option Value)) = some z from hz))
  | inr v => exact fx_callV (As := [.int a1]) (ci := 11) (c_X11_bookPage hlT h) ⟨rfl, rfl⟩ rfl (ky_lt kyf_0 (by decide)) (wF_11 kyf_0) q_1144 q_1145 q_1 q_1146 rfl ⟨by decide +kernel, by decide +kernel, (show (parseMethodDescriptor yX11_bookPage.desc).map (fun d => d.parameters.length) = some 1 by decide +kernel)⟩ F hl hR hW hS hsz hrest rfl hdg (fun z hz => nomatch (show (none : Option (Nat × Mm)) = some z from hz)) (fun z hz => by obtain rfl := Option.some.inj hz; exact kk _ rfl)
set_option maxHeartbeats 4000000 in
set_option maxRecDepth 100000 in
theorem wk_X11_lineOnPage {a1 : Int32} {μ : Mm} {out : (Nat ⊕ Int32)} (F : FX G b RX11 cX11_lineOnPage 2 p s m args meth c) (hr : meth.sig.returnType = some .int) (hlT : l.stackTraces = false) (hnt : ∀ x ∈ c.exceptionTable.toList, False) (h : sh_X11_lineOnPage a1 μ = some out) (hW : WH G b μ H) (hS : va_S (fb b) s.heap H locs) (hl : lv_has ls 2 [(0, .ref (b + 0)), (1, .int a1)]) : W p l e ({ frames := 7, cells := 1, slots := 6, locals := 111 } : Room) s m args below meth c H locs 0 0 (vx_MQ below (QN G b (Sum.elim (fun _ => none) (fun (v : Int32) => some (μ, (some (.int v)))) out)) (XN G b (Sum.elim (fun (q : Nat) => some (q, μ)) (fun _ => none) out)) args s 1 6 (fb b)) (F0 m 0 ls []) := by
  have hx := F.1
  have hb := F.2.1
  unfold sh_X11_lineOnPage at h
  refine lv_aload_n hx hb dX11_lineOnPage_0 rfl (lv_at hl 0 rfl) ?_
  refine lv_iload_n hx hb dX11_lineOnPage_1 rfl (lv_at hl 1 rfl) ?_
  obtain ⟨r1, qr1, h⟩ := ob h
  refine k_X11_checkSection F hlT qr1 q_1104 ⟨Nat.le_of_ble_eq_true rfl, Nat.le_of_ble_eq_true rfl, Nat.le_of_ble_eq_true rfl, Nat.le_of_ble_eq_true rfl⟩ hW hS hl.1 (Nat.le_of_ble_eq_true rfl) dX11_lineOnPage_2 (fun ec he ce q9 H locs hW hS hc1 hc2 hc3 => ?_) (fun v2 he H locs hW hS => ?_)
  · subst he
    cases h
    exact x_out F hnt (Nat.le_of_ble_eq_true rfl) (Nat.le_of_ble_eq_true rfl) hW hS hc1 hc2 hc3
  subst he
  replace h := (Sum.elim_inr _ _ _).symm.trans h
  refine lv_aload_n hx hb dX11_lineOnPage_5 rfl (lv_at hl 0 rfl) ?_
  refine fl_get11 (v := .ref (b + 38)) kyf_0 F hW 9 (by decide) q_541 rfl rfl dX11_lineOnPage_6 ?_
  refine fl_get1 (v := .ref (b + 52)) kyf_38 F hW 1 (by decide) q_363 rfl rfl dX11_lineOnPage_9 ?_
  refine fl_get3 (v := .ref (b + 57)) kyf_52 F hW 2 (by decide) q_277 rfl rfl dX11_lineOnPage_12 ?_
  refine lv_iload_n hx hb dX11_lineOnPage_15 rfl (lv_at hl 1 rfl) ?_
  obtain ⟨r3, qr3, h⟩ := ob h
  refine k_X5_at F ok_57 qr3 q_883 ⟨Nat.le_of_ble_eq_true rfl, Nat.le_of_ble_eq_true rfl, Nat.le_of_ble_eq_true rfl, Nat.le_of_ble_eq_true rfl⟩ hW hS hl.1 (Nat.le_of_ble_eq_true rfl) dX11_lineOnPage_16 (fun H locs hW hS => ?_)
  cases h
  exact x_int F hr (Nat.le_of_ble_eq_true rfl) (Nat.le_of_ble_eq_true rfl) hW hS dX11_lineOnPage_19
set_option maxHeartbeats 4000000 in
set_option maxRecDepth 100000 in
theorem c_X11_lineOnPage {l : Launch} (hlT : l.stackTraces = false) {G : Gt} {b : Nat} {a1 : Int32} {μ : Mm} {out : (Nat ⊕ Int32)} (h : sh_X11_lineOnPage a1 μ = some out) : vx_Met l yX11_lineOnPage (wU (Cond.code yX11_lineOnPage cX11_lineOnPage 2 (some .int))) ({ frames := 7, cells := 1, slots := 6, locals := 111 } : Room) (PcW G b μ [.ref (b + 0), .int a1]) (QN G b (Sum.elim (fun _ => none) (fun (v : Int32) => some (μ, (some (.int v)))) out)) (XN G b (Sum.elim (fun (q : Nat) => some (q, μ)) (fun _ => none) out)) 1 6 (fb b) :=
  xmet_of [.ref (b + 0), .int a1] (by decide) (Nat.le_of_ble_eq_true rfl) (fun F hr hnt hW hl => wk_X11_lineOnPage F hr hlT hnt h hW va_S.rf hl)
set_option maxHeartbeats 4000000 in
set_option maxRecDepth 100000 in
theorem k_X11_lineOnPage {own : String} {nL : Nat} (F : FX G b own cc nL p s m args meth c) (hlT : l.stackTraces = false) {a1 : Int32} {μ : Mm} {out : (Nat ⊕ Int32)} (h : sh_X11_lineOnPage a1 μ = some out) {index : Nat} (hl : Cond.methodLink own index yX11_lineOnPage ∈ TBG) (hR : 7 + 1 ≤ R.frames ∧ 8 + (2 + 11) + 111 ≤ R.locals ∧ cells + 1 ≤ R.cells ∧ slots + 6 ≤ R.slots) (hW : WH G b μ H) (hS : va_S (fb b) s.heap H locs) (hsz : ls.size = nL) (hrest : (rest.map fun v => v.category).sum ≤ 8) (hdg : decode cc pc = .ok (.invokevirtual index, 3))
    (kx : ∀ (q : Nat), out = .inl q → ∀ (ce : Cell) (q9 : Addr) (H1 : Heap) (locs1 : List Loc), WH G b μ H1 → va_S (fb b) s.heap H1 locs1 → H1[q9]? = some ce → ce.vm = .none → s.vm.findClass (exN q) = some ce.cls → vx_W p l e R s m args below meth c H1 locs1 (cells + 1) (slots + 6) Q (F0 m pc ls rest) q9)
    (kk : ∀ (v : Int32), out = .inr v → ∀ (H1 : Heap) (locs1 : List Loc), WH G b μ H1 → va_S (fb b) s.heap H1 locs1 → W p l e R s m args below meth c H1 locs1 (cells + 1) (slots + 6) Q (F0 m (pc + 3) ls (.int v :: rest))) : W p l e R s m args below meth c H locs cells slots Q (F0 m pc ls (.int a1 :: .ref (b + 0) :: rest)) := by
  cases out with
  | inl q => exact fx_callV (As := [.int a1]) (ci := 11) (c_X11_lineOnPage hlT h) ⟨rfl, rfl⟩ rfl (ky_lt kyf_0 (by decide)) (wF_11 kyf_0) q_1151 q_1152 q_1 q_1153 rfl ⟨by decide +kernel, by decide +kernel, (show (parseMethodDescriptor yX11_lineOnPage.desc).map (fun d => d.parameters.length) = some 1 by decide +kernel)⟩ F hl hR hW hS hsz hrest rfl hdg (fun z hz => by obtain rfl := Option.some.inj hz; exact kx _ rfl) (fun z hz => nomatch (show (none : Option (Mm × Option Value)) = some z from hz))
  | inr v => exact fx_callV (As := [.int a1]) (ci := 11) (c_X11_lineOnPage hlT h) ⟨rfl, rfl⟩ rfl (ky_lt kyf_0 (by decide)) (wF_11 kyf_0) q_1151 q_1152 q_1 q_1153 rfl ⟨by decide +kernel, by decide +kernel, (show (parseMethodDescriptor yX11_lineOnPage.desc).map (fun d => d.parameters.length) = some 1 by decide +kernel)⟩ F hl hR hW hS hsz hrest rfl hdg (fun z hz => nomatch (show (none : Option (Nat × Mm)) = some z from hz)) (fun z hz => by obtain rfl := Option.some.inj hz; exact kk _ rfl)
set_option maxHeartbeats 4000000 in
set_option maxRecDepth 100000 in
theorem wk_X11_numberWidth {a1 : Int32} {μ : Mm} {out : (Nat ⊕ Int32)} (F : FX G b RX11 cX11_numberWidth 2 p s m args meth c) (hr : meth.sig.returnType = some .int) (hlT : l.stackTraces = false) (hnt : ∀ x ∈ c.exceptionTable.toList, False) (h : sh_X11_numberWidth a1 μ = some out) (hW : WH G b μ H) (hS : va_S (fb b) s.heap H locs) (hl : lv_has ls 2 [(0, .ref (b + 0)), (1, .int a1)]) : W p l e ({ frames := 7, cells := 1, slots := 6, locals := 111 } : Room) s m args below meth c H locs 0 0 (vx_MQ below (QN G b (Sum.elim (fun _ => none) (fun (v : Int32) => some (μ, (some (.int v)))) out)) (XN G b (Sum.elim (fun (q : Nat) => some (q, μ)) (fun _ => none) out)) args s 1 6 (fb b)) (F0 m 0 ls []) := by
  have hx := F.1
  have hb := F.2.1
  unfold sh_X11_numberWidth at h
  refine lv_aload_n hx hb dX11_numberWidth_0 rfl (lv_at hl 0 rfl) ?_
  refine lv_iload_n hx hb dX11_numberWidth_1 rfl (lv_at hl 1 rfl) ?_
  obtain ⟨r1, qr1, h⟩ := ob h
  refine k_X11_checkSection F hlT qr1 q_1104 ⟨Nat.le_of_ble_eq_true rfl, Nat.le_of_ble_eq_true rfl, Nat.le_of_ble_eq_true rfl, Nat.le_of_ble_eq_true rfl⟩ hW hS hl.1 (Nat.le_of_ble_eq_true rfl) dX11_numberWidth_2 (fun ec he ce q9 H locs hW hS hc1 hc2 hc3 => ?_) (fun v2 he H locs hW hS => ?_)
  · subst he
    cases h
    exact x_out F hnt (Nat.le_of_ble_eq_true rfl) (Nat.le_of_ble_eq_true rfl) hW hS hc1 hc2 hc3
  subst he
  replace h := (Sum.elim_inr _ _ _).symm.trans h
  refine lv_aload_n hx hb dX11_numberWidth_5 rfl (lv_at hl 0 rfl) ?_
  refine fl_get11 (v := .ref (b + 38)) kyf_0 F hW 9 (by decide) q_541 rfl rfl dX11_numberWidth_6 ?_
  refine fl_get1 (v := .ref (b + 52)) kyf_38 F hW 1 (by decide) q_363 rfl rfl dX11_numberWidth_9 ?_
  refine fl_get3 (v := .ref (b + 59)) kyf_52 F hW 3 (by decide) q_280 rfl rfl dX11_numberWidth_12 ?_
  refine lv_iload_n hx hb dX11_numberWidth_15 rfl (lv_at hl 1 rfl) ?_
  obtain ⟨r3, qr3, h⟩ := ob h
  refine k_X5_at F ok_59 qr3 q_883 ⟨Nat.le_of_ble_eq_true rfl, Nat.le_of_ble_eq_true rfl, Nat.le_of_ble_eq_true rfl, Nat.le_of_ble_eq_true rfl⟩ hW hS hl.1 (Nat.le_of_ble_eq_true rfl) dX11_numberWidth_16 (fun H locs hW hS => ?_)
  cases h
  exact x_int F hr (Nat.le_of_ble_eq_true rfl) (Nat.le_of_ble_eq_true rfl) hW hS dX11_numberWidth_19
set_option maxHeartbeats 4000000 in
set_option maxRecDepth 100000 in
theorem c_X11_numberWidth {l : Launch} (hlT : l.stackTraces = false) {G : Gt} {b : Nat} {a1 : Int32} {μ : Mm} {out : (Nat ⊕ Int32)} (h : sh_X11_numberWidth a1 μ = some out) : vx_Met l yX11_numberWidth (wU (Cond.code yX11_numberWidth cX11_numberWidth 2 (some .int))) ({ frames := 7, cells := 1, slots := 6, locals := 111 } : Room) (PcW G b μ [.ref (b + 0), .int a1]) (QN G b (Sum.elim (fun _ => none) (fun (v : Int32) => some (μ, (some (.int v)))) out)) (XN G b (Sum.elim (fun (q : Nat) => some (q, μ)) (fun _ => none) out)) 1 6 (fb b) :=
  xmet_of [.ref (b + 0), .int a1] (by decide) (Nat.le_of_ble_eq_true rfl) (fun F hr hnt hW hl => wk_X11_numberWidth F hr hlT hnt h hW va_S.rf hl)
set_option maxHeartbeats 4000000 in
set_option maxRecDepth 100000 in
theorem k_X11_numberWidth {own : String} {nL : Nat} (F : FX G b own cc nL p s m args meth c) (hlT : l.stackTraces = false) {a1 : Int32} {μ : Mm} {out : (Nat ⊕ Int32)} (h : sh_X11_numberWidth a1 μ = some out) {index : Nat} (hl : Cond.methodLink own index yX11_numberWidth ∈ TBG) (hR : 7 + 1 ≤ R.frames ∧ 8 + (2 + 11) + 111 ≤ R.locals ∧ cells + 1 ≤ R.cells ∧ slots + 6 ≤ R.slots) (hW : WH G b μ H) (hS : va_S (fb b) s.heap H locs) (hsz : ls.size = nL) (hrest : (rest.map fun v => v.category).sum ≤ 8) (hdg : decode cc pc = .ok (.invokevirtual index, 3))
    (kx : ∀ (q : Nat), out = .inl q → ∀ (ce : Cell) (q9 : Addr) (H1 : Heap) (locs1 : List Loc), WH G b μ H1 → va_S (fb b) s.heap H1 locs1 → H1[q9]? = some ce → ce.vm = .none → s.vm.findClass (exN q) = some ce.cls → vx_W p l e R s m args below meth c H1 locs1 (cells + 1) (slots + 6) Q (F0 m pc ls rest) q9)
    (kk : ∀ (v : Int32), out = .inr v → ∀ (H1 : Heap) (locs1 : List Loc), WH G b μ H1 → va_S (fb b) s.heap H1 locs1 → W p l e R s m args below meth c H1 locs1 (cells + 1) (slots + 6) Q (F0 m (pc + 3) ls (.int v :: rest))) : W p l e R s m args below meth c H locs cells slots Q (F0 m pc ls (.int a1 :: .ref (b + 0) :: rest)) := by
  cases out with
  | inl q => exact fx_callV (As := [.int a1]) (ci := 11) (c_X11_numberWidth hlT h) ⟨rfl, rfl⟩ rfl (ky_lt kyf_0 (by decide)) (wF_11 kyf_0) q_1158 q_1159 q_1 q_1160 rfl ⟨by decide +kernel, by decide +kernel, (show (parseMethodDescriptor yX11_numberWidth.desc).map (fun d => d.parameters.length) = some 1 by decide +kernel)⟩ F hl hR hW hS hsz hrest rfl hdg (fun z hz => by obtain rfl := Option.some.inj hz; exact kx _ rfl) (fun z hz => nomatch (show (none : Option (Mm × Option Value)) = some z from hz))
  | inr v => exact fx_callV (As := [.int a1]) (ci := 11) (c_X11_numberWidth hlT h) ⟨rfl, rfl⟩ rfl (ky_lt kyf_0 (by decide)) (wF_11 kyf_0) q_1158 q_1159 q_1 q_1160 rfl ⟨by decide +kernel, by decide +kernel, (show (parseMethodDescriptor yX11_numberWidth.desc).map (fun d => d.parameters.length) = some 1 by decide +kernel)⟩ F hl hR hW hS hsz hrest rfl hdg (fun z hz => nomatch (show (none : Option (Nat × Mm)) = some z from hz)) (fun z hz => by obtain rfl := Option.some.inj hz; exact kk _ rfl)
set_option maxHeartbeats 4000000 in
set_option maxRecDepth 100000 in
theorem wk_X11_findPage_31 {n : Nat} {a1 : Int32} {a2 : Int32} {μ : Mm} {out : (Nat ⊕ Int32)} (F : FX G b RX11 cX11_findPage 4 p s m args meth c) (hr : meth.sig.returnType = some .int) (hlT : l.stackTraces = false) (hnt : ∀ x ∈ c.exceptionTable.toList, False) : ∀ (f : Nat) (x3 : Int32) (H : Heap) (locs : List Loc) (ls : Array Slot), sh_X11_findPage_31 n a1 a2 μ f x3 = some out → WH G b μ H → va_S (fb b) s.heap H locs → lv_has ls 4 [(0, .ref (b + 0)), (1, .int a1), (2, .int a2), (3, .int x3)] → W p l e ({ frames := 6, cells := 1, slots := 6, locals := 90 } : Room) s m args below meth c H locs 0 0 (vx_MQ below (QN G b (Sum.elim (fun _ => none) (fun (v : Int32) => some (μ, (some (.int v)))) out)) (XN G b (Sum.elim (fun (q : Nat) => some (q, μ)) (fun _ => none) out)) args s 1 6 (fb b)) (F0 m 31 ls []) := by
  have hx := F.1
  have hb := F.2.1
  intro f
  induction f with
  | zero =>
    intro _ _ _ _ h
    rw [sh_X11_findPage_31] at h
    cases h
  | succ f ih =>
    intro x3  H locs ls h hW hS hl
    rw [sh_X11_findPage_31] at h
    have hk31 := ih
    refine lv_iload_n hx hb dX11_findPage_31 rfl (lv_at hl 3 rfl) ?_
    refine lv_aload_n hx hb dX11_findPage_32 rfl (lv_at hl 0 rfl) ?_
    refine fl_get11 (v := .ref (b + 10)) kyf_0 F hW 5 (by decide) q_537 rfl rfl dX11_findPage_33 ?_
    refine fl_get6 (v := .ref (b + 11)) kyf_10 F hW 0 (by decide) q_212 rfl rfl dX11_findPage_36 ?_
    refine lv_iload_n hx hb dX11_findPage_39 rfl (lv_at hl 1 rfl) ?_
    obtain ⟨r2, qr2, h⟩ := ob h
    refine k_X0_partEnd F ok_11 qr2 q_1170 ⟨Nat.le_of_ble_eq_true rfl, Nat.le_of_ble_eq_true rfl, Nat.le_of_ble_eq_true rfl, Nat.le_of_ble_eq_true rfl⟩ hW hS hl.1 (Nat.le_of_ble_eq_true rfl) dX11_findPage_40 (fun H locs hW hS => ?_)
    refine lv_icmp_ge (tgt := 72) hx hb dX11_findPage_43 (by decide) (fun cc => ?_) (fun cc => ?_)
    · replace h := (if_pos cc).symm.trans h
      refine lv_iconst (v := (-1 : Int32)) hx hb dX11_findPage_72 (by decide) ?_
      cases h
      exact x_int F hr (Nat.le_of_ble_eq_true rfl) (Nat.le_of_ble_eq_true rfl) hW hS dX11_findPage_73
    · replace h := (if_neg cc).symm.trans h
      refine lv_aload_n hx hb dX11_findPage_46 rfl (lv_at hl 0 rfl) ?_
      refine fl_get11 (v := .ref (b + 38)) kyf_0 F hW 9 (by decide) q_541 rfl rfl dX11_findPage_47 ?_
      refine fl_get1 (v := .ref (b + 52)) kyf_38 F hW 1 (by decide) q_363 rfl rfl dX11_findPage_50 ?_
      refine fl_get3 (v := .ref (b + 53)) kyf_52 F hW 0 (by decide) q_273 rfl rfl dX11_findPage_53 ?_
      refine lv_iload_n hx hb dX11_findPage_56 rfl (lv_at hl 3 rfl) ?_
      obtain ⟨r3, qr3, h⟩ := ob h
      refine k_X5_at F ok_53 qr3 q_883 ⟨Nat.le_of_ble_eq_true rfl, Nat.le_of_ble_eq_true rfl, Nat.le_of_ble_eq_true rfl, Nat.le_of_ble_eq_true rfl⟩ hW hS hl.1 (Nat.le_of_ble_eq_true rfl) dX11_findPage_57 (fun H locs hW hS => ?_)
      refine lv_iload_n hx hb dX11_findPage_60 rfl (lv_at hl 2 rfl) ?_
      refine lv_icmp_ne (tgt := 66) hx hb dX11_findPage_61 (by decide) (fun cc => ?_) (fun cc => ?_)
      · replace h := (if_neg cc).symm.trans h
        refine lv_iinc (v := (x3 + (1 : Int32))) (lv' := [(3, .int (x3 + (1 : Int32))), (0, .ref (b + 0)), (1, .int a1), (2, .int a2)]) hx hb dX11_findPage_66 hl (k := 3) rfl rfl (by decide) rfl (fun ls hl => ?_)
        refine lv_goto (tgt := 31) hx hb dX11_findPage_69 (by decide) ?_
        exact hk31 _ _ _ _ h hW hS (lv_sub hl [1, 2, 3, 0] rfl)
      · replace h := (if_pos cc).symm.trans h
        refine lv_iload_n hx hb dX11_findPage_64 rfl (lv_at hl 3 rfl) ?_
        cases h
        exact x_int F hr (Nat.le_of_ble_eq_true rfl) (Nat.le_of_ble_eq_true rfl) hW hS dX11_findPage_65
set_option maxHeartbeats 4000000 in
set_option maxRecDepth 100000 in
theorem wk_X11_findPage_19 {n : Nat} {a1 : Int32} {a2 : Int32} {μ : Mm} {out : (Nat ⊕ Int32)} (F : FX G b RX11 cX11_findPage 4 p s m args meth c) (hr : meth.sig.returnType = some .int) (hlT : l.stackTraces = false) (hnt : ∀ x ∈ c.exceptionTable.toList, False) (h : sh_X11_findPage_19 n a1 a2 μ = some out) (hW : WH G b μ H) (hS : va_S (fb b) s.heap H locs) (hl : lv_has ls 4 [(0, .ref (b + 0)), (1, .int a1), (2, .int a2)]) : W p l e ({ frames := 6, cells := 1, slots := 6, locals := 90 } : Room) s m args below meth c H locs 0 0 (vx_MQ below (QN G b (Sum.elim (fun _ => none) (fun (v : Int32) => some (μ, (some (.int v)))) out)) (XN G b (Sum.elim (fun (q : Nat) => some (q, μ)) (fun _ => none) out)) args s 1 6 (fb b)) (F0 m 19 ls []) := by
  have hx := F.1
  have hb := F.2.1
  unfold sh_X11_findPage_19 at h
  refine lv_aload_n hx hb dX11_findPage_19 rfl (lv_at hl 0 rfl) ?_
  refine fl_get11 (v := .ref (b + 10)) kyf_0 F hW 5 (by decide) q_537 rfl rfl dX11_findPage_20 ?_
  refine fl_get6 (v := .ref (b + 11)) kyf_10 F hW 0 (by decide) q_212 rfl rfl dX11_findPage_23 ?_
  refine lv_iload_n hx hb dX11_findPage_26 rfl (lv_at hl 1 rfl) ?_
  obtain ⟨r1, qr1, h⟩ := ob h
  refine k_X0_partBegin F ok_11 qr1 q_1169 ⟨Nat.le_of_ble_eq_true rfl, Nat.le_of_ble_eq_true rfl, Nat.le_of_ble_eq_true rfl, Nat.le_of_ble_eq_true rfl⟩ hW hS hl.1 (Nat.le_of_ble_eq_true rfl) dX11_findPage_27 (fun H locs hW hS => ?_)
  refine lv_istore_n (lv' := [(3, .int r1), (0, .ref (b + 0)), (1, .int a1), (2, .int a2)]) hx hb dX11_findPage_30 rfl hl (by decide) rfl (fun ls hl => ?_)
  exact wk_X11_findPage_31 F hr hlT hnt n _ _ _ _ h hW hS (lv_sub hl [1, 2, 3, 0] rfl)
set_option maxHeartbeats 4000000 in
set_option maxRecDepth 100000 in
theorem wk_X11_findPage {n : Nat} {a1 : Int32} {a2 : Int32} {μ : Mm} {out : (Nat ⊕ Int32)} (F : FX G b RX11 cX11_findPage 4 p s m args meth c) (hr : meth.sig.returnType = some .int) (hlT : l.stackTraces = false) (hnt : ∀ x ∈ c.exceptionTable.toList, False) (h : sh_X11_findPage n a1 a2 μ = some out) (hW : WH G b μ H) (hS : va_S (fb b) s.heap H locs) (hl : lv_has ls 4 [(0, .ref (b + 0)), (1, .int a1), (2, .int a2)]) : W p l e ({ frames := 6, cells := 1, slots := 6, locals := 90 } : Room) s m args below meth c H locs 0 0 (vx_MQ below (QN G b (Sum.elim (fun _ => none) (fun (v : Int32) => some (μ, (some (.int v)))) out)) (XN G b (Sum.elim (fun (q : Nat) => some (q, μ)) (fun _ => none) out)) args s 1 6 (fb b)) (F0 m 0 ls []) := by
  have hx := F.1
  have hb := F.2.1
  unfold sh_X11_findPage at h
  refine lv_iload_n hx hb dX11_findPage_0 rfl (lv_at hl 1 rfl) ?_
  refine lv_if_eq (tgt := 19) hx hb dX11_findPage_1 (by decide) (fun cc => ?_) (fun cc => ?_)
  · replace h := (if_pos cc).symm.trans h
    exact wk_X11_findPage_19 F hr hlT hnt h hW hS (lv_sub hl [0, 1, 2] rfl)
  · replace h := (if_neg cc).symm.trans h
    refine lv_iload_n hx hb dX11_findPage_4 rfl (lv_at hl 1 rfl) ?_
    refine lv_iconst (v := (1 : Int32)) hx hb dX11_findPage_5 (by decide) ?_
    refine lv_icmp_eq (tgt := 19) hx hb dX11_findPage_6 (by decide) (fun cc => ?_) (fun cc => ?_)
    · replace h := (if_pos cc).symm.trans h
      exact wk_X11_findPage_19 F hr hlT hnt h hW hS (lv_sub hl [0, 1, 2] rfl)
    · replace h := (if_neg cc).symm.trans h
      cases h
      exact x_throw (ec := 1) F hlT hnt q_1064 q_19 (is := 231) (text := "no such part") (t := 19) (by decide +kernel) (by decide +kernel) (hat_1 F.2.2.2.2.1 F.2.2.2.2.2.2.1) hgd_1 hl.1 dX11_findPage_9 dX11_findPage_12 dX11_findPage_13 dX11_findPage_15 dX11_findPage_18 ⟨Nat.le_of_ble_eq_true rfl, Nat.le_of_ble_eq_true rfl, Nat.le_of_ble_eq_true rfl, Nat.le_of_ble_eq_true rfl⟩ (Nat.le_of_ble_eq_true rfl) (Nat.le_of_ble_eq_true rfl) hW hS
set_option maxHeartbeats 4000000 in
set_option maxRecDepth 100000 in
theorem c_X11_findPage {l : Launch} (hlT : l.stackTraces = false) {G : Gt} {b : Nat} {n : Nat} {a1 : Int32} {a2 : Int32} {μ : Mm} {out : (Nat ⊕ Int32)} (h : sh_X11_findPage n a1 a2 μ = some out) : vx_Met l yX11_findPage (wU (Cond.code yX11_findPage cX11_findPage 4 (some .int))) ({ frames := 6, cells := 1, slots := 6, locals := 90 } : Room) (PcW G b μ [.ref (b + 0), .int a1, .int a2]) (QN G b (Sum.elim (fun _ => none) (fun (v : Int32) => some (μ, (some (.int v)))) out)) (XN G b (Sum.elim (fun (q : Nat) => some (q, μ)) (fun _ => none) out)) 1 6 (fb b) :=
  xmet_of [.ref (b + 0), .int a1, .int a2] (by decide) (Nat.le_of_ble_eq_true rfl) (fun F hr hnt hW hl => wk_X11_findPage F hr hlT hnt h hW va_S.rf hl)
set_option maxHeartbeats 4000000 in
set_option maxRecDepth 100000 in
theorem k_X11_findPage {own : String} {nL : Nat} (F : FX G b own cc nL p s m args meth c) (hlT : l.stackTraces = false) {n : Nat} {a1 : Int32} {a2 : Int32} {μ : Mm} {out : (Nat ⊕ Int32)} (h : sh_X11_findPage n a1 a2 μ = some out) {index : Nat} (hl : Cond.methodLink own index yX11_findPage ∈ TBG) (hR : 6 + 1 ≤ R.frames ∧ 8 + (4 + 11) + 90 ≤ R.locals ∧ cells + 1 ≤ R.cells ∧ slots + 6 ≤ R.slots) (hW : WH G b μ H) (hS : va_S (fb b) s.heap H locs) (hsz : ls.size = nL) (hrest : (rest.map fun v => v.category).sum ≤ 8) (hdg : decode cc pc = .ok (.invokevirtual index, 3))
    (kx : ∀ (q : Nat), out = .inl q → ∀ (ce : Cell) (q9 : Addr) (H1 : Heap) (locs1 : List Loc), WH G b μ H1 → va_S (fb b) s.heap H1 locs1 → H1[q9]? = some ce → ce.vm = .none → s.vm.findClass (exN q) = some ce.cls → vx_W p l e R s m args below meth c H1 locs1 (cells + 1) (slots + 6) Q (F0 m pc ls rest) q9)
    (kk : ∀ (v : Int32), out = .inr v → ∀ (H1 : Heap) (locs1 : List Loc), WH G b μ H1 → va_S (fb b) s.heap H1 locs1 → W p l e R s m args below meth c H1 locs1 (cells + 1) (slots + 6) Q (F0 m (pc + 3) ls (.int v :: rest))) : W p l e R s m args below meth c H locs cells slots Q (F0 m pc ls (.int a2 :: .int a1 :: .ref (b + 0) :: rest)) := by
  cases out with
  | inl q => exact fx_callV (As := [.int a1, .int a2]) (ci := 11) (c_X11_findPage hlT h) ⟨rfl, rfl⟩ rfl (ky_lt kyf_0 (by decide)) (wF_11 kyf_0) q_1165 q_1166 q_1 q_1167 rfl ⟨by decide +kernel, by decide +kernel, (show (parseMethodDescriptor yX11_findPage.desc).map (fun d => d.parameters.length) = some 2 by decide +kernel)⟩ F hl hR hW hS hsz hrest rfl hdg (fun z hz => by obtain rfl := Option.some.inj hz; exact kx _ rfl) (fun z hz => nomatch (show (none : Option (Mm × Option Value)) = some z from hz))
  | inr v => exact fx_callV (As := [.int a1, .int a2]) (ci := 11) (c_X11_findPage hlT h) ⟨rfl, rfl⟩ rfl (ky_lt kyf_0 (by decide)) (wF_11 kyf_0) q_1165 q_1166 q_1 q_1167 rfl ⟨by decide +kernel, by decide +kernel, (show (parseMethodDescriptor yX11_findPage.desc).map (fun d => d.parameters.length) = some 2 by decide +kernel)⟩ F hl hR hW hS hsz hrest rfl hdg (fun z hz => nomatch (show (none : Option (Nat × Mm)) = some z from hz)) (fun z hz => by obtain rfl := Option.some.inj hz; exact kk _ rfl)
set_option maxHeartbeats 4000000 in
set_option maxRecDepth 100000 in
theorem wk_X11_sectionAt_19 {n : Nat} {a1 : Int32} {μ : Mm} {out : (Nat ⊕ Int32)} (F : FX G b RX11 cX11_sectionAt 4 p s m args meth c) (hr : meth.sig.returnType = some .int) (hlT : l.stackTraces = false) (hnt : ∀ x ∈ c.exceptionTable.toList, False) (h : sh_X11_sectionAt_19 n a1 μ = some out) (hW : WH G b μ H) (hS : va_S (fb b) s.heap H locs) (hl : lv_has ls 4 []) : W p l e ({ frames := 6, cells := 1, slots := 6, locals := 90 } : Room) s m args below meth c H locs 0 0 (vx_MQ below (QN G b (Sum.elim (fun _ => none) (fun (v : Int32) => some (μ, (some (.int v)))) out)) (XN G b (Sum.elim (fun (q : Nat) => some (q, μ)) (fun _ => none) out)) args s 1 6 (fb b)) (F0 m 19 ls []) := by
  have hx := F.1
  have hb := F.2.1
  unfold sh_X11_sectionAt_19 at h
  cases h
  exact x_throw (ec := 2) F hlT hnt q_1108 q_25 (is := 241) (text := "no such page of the book") (t := 20) (by decide +kernel) (by decide +kernel) (hat_2 F.2.2.2.2.1 F.2.2.2.2.2.2.1) hgd_2 hl.1 dX11_sectionAt_19 dX11_sectionAt_22 dX11_sectionAt_23 dX11_sectionAt_25 dX11_sectionAt_28 ⟨Nat.le_of_ble_eq_true rfl, Nat.le_of_ble_eq_true rfl, Nat.le_of_ble_eq_true rfl, Nat.le_of_ble_eq_true rfl⟩ (Nat.le_of_ble_eq_true rfl) (Nat.le_of_ble_eq_true rfl) hW hS
set_option maxHeartbeats 4000000 in
set_option maxRecDepth 100000 in
theorem wk_X11_sectionAt_33 {n : Nat} {a1 : Int32} {μ : Mm} {out : (Nat ⊕ Int32)} (F : FX G b RX11 cX11_sectionAt 4 p s m args meth c) (hr : meth.sig.returnType = some .int) (hlT : l.stackTraces = false) (hnt : ∀ x ∈ c.exceptionTable.toList, False) : ∀ (f : Nat) (x2 : Int32) (x3 : Int32) (H : Heap) (locs : List Loc) (ls : Array Slot), sh_X11_sectionAt_33 n a1 μ f x2 x3 = some out → WH G b μ H → va_S (fb b) s.heap H locs → lv_has ls 4 [(0, .ref (b + 0)), (1, .int a1), (2, .int x2), (3, .int x3)] → W p l e ({ frames := 6, cells := 1, slots := 6, locals := 90 } : Room) s m args below meth c H locs 0 0 (vx_MQ below (QN G b (Sum.elim (fun _ => none) (fun (v : Int32) => some (μ, (some (.int v)))) out)) (XN G b (Sum.elim (fun (q : Nat) => some (q, μ)) (fun _ => none) out)) args s 1 6 (fb b)) (F0 m 33 ls []) := by
  have hx := F.1
  have hb := F.2.1
  intro f
  induction f with
  | zero =>
    intro _ _ _ _ _ h
    rw [sh_X11_sectionAt_33] at h
    cases h
  | succ f ih =>
    intro x2 x3  H locs ls h hW hS hl
    rw [sh_X11_sectionAt_33] at h
    have hk33 := ih
    refine lv_iload_n hx hb dX11_sectionAt_33 rfl (lv_at hl 3 rfl) ?_
    refine lv_aload_n hx hb dX11_sectionAt_34 rfl (lv_at hl 0 rfl) ?_
    refine fl_get11 (v := .ref (b + 10)) kyf_0 F hW 5 (by decide) q_537 rfl rfl dX11_sectionAt_35 ?_
    refine fl_get6 (v := .ref (b + 11)) kyf_10 F hW 0 (by decide) q_212 rfl rfl dX11_sectionAt_38 ?_
    refine fl_get0 (v := .int (μ.1 11 2)) kyf_11 F hW 2 (by decide) q_165 rfl rfl dX11_sectionAt_41 ?_
    refine lv_icmp_ge (tgt := 73) hx hb dX11_sectionAt_44 (by decide) (fun cc => ?_) (fun cc => ?_)
    · replace h := (if_pos cc).symm.trans h
      refine lv_iload_n hx hb dX11_sectionAt_73 rfl (lv_at hl 2 rfl) ?_
      cases h
      exact x_int F hr (Nat.le_of_ble_eq_true rfl) (Nat.le_of_ble_eq_true rfl) hW hS dX11_sectionAt_74
    · replace h := (if_neg cc).symm.trans h
      refine lv_aload_n hx hb dX11_sectionAt_47 rfl (lv_at hl 0 rfl) ?_
      refine fl_get11 (v := .ref (b + 38)) kyf_0 F hW 9 (by decide) q_541 rfl rfl dX11_sectionAt_48 ?_
      refine fl_get1 (v := .ref (b + 52)) kyf_38 F hW 1 (by decide) q_363 rfl rfl dX11_sectionAt_51 ?_
      refine fl_get3 (v := .ref (b + 55)) kyf_52 F hW 1 (by decide) q_275 rfl rfl dX11_sectionAt_54 ?_
      refine lv_iload_n hx hb dX11_sectionAt_57 rfl (lv_at hl 3 rfl) ?_
      obtain ⟨r1, qr1, h⟩ := ob h
      refine k_X5_at F ok_55 qr1 q_883 ⟨Nat.le_of_ble_eq_true rfl, Nat.le_of_ble_eq_true rfl, Nat.le_of_ble_eq_true rfl, Nat.le_of_ble_eq_true rfl⟩ hW hS hl.1 (Nat.le_of_ble_eq_true rfl) dX11_sectionAt_58 (fun H locs hW hS => ?_)
      refine lv_iload_n hx hb dX11_sectionAt_61 rfl (lv_at hl 1 rfl) ?_
      refine lv_icmp_gt (tgt := 67) hx hb dX11_sectionAt_62 (by decide) (fun cc => ?_) (fun cc => ?_)
      · replace h := (if_pos cc).symm.trans h
        refine lv_iinc (v := (x3 + (1 : Int32))) (lv' := [(3, .int (x3 + (1 : Int32))), (0, .ref (b + 0)), (1, .int a1), (2, .int x2)]) hx hb dX11_sectionAt_67 hl (k := 3) rfl rfl (by decide) rfl (fun ls hl => ?_)
        refine lv_goto (tgt := 33) hx hb dX11_sectionAt_70 (by decide) ?_
        exact hk33 _ _ _ _ _ h hW hS (lv_sub hl [1, 2, 3, 0] rfl)
      · replace h := (if_neg cc).symm.trans h
        refine lv_iload_n hx hb dX11_sectionAt_65 rfl (lv_at hl 3 rfl) ?_
        refine lv_istore_n (lv' := [(2, .int x3), (0, .ref (b + 0)), (1, .int a1), (3, .int x3)]) hx hb dX11_sectionAt_66 rfl hl (by decide) rfl (fun ls hl => ?_)
        refine lv_iinc (v := (x3 + (1 : Int32))) (lv' := [(3, .int (x3 + (1 : Int32))), (2, .int x3), (0, .ref (b + 0)), (1, .int a1)]) hx hb dX11_sectionAt_67 hl (k := 3) rfl rfl (by decide) rfl (fun ls hl => ?_)
        refine lv_goto (tgt := 33) hx hb dX11_sectionAt_70 (by decide) ?_
        exact hk33 _ _ _ _ _ h hW hS (lv_sub hl [2, 3, 1, 0] rfl)
set_option maxHeartbeats 4000000 in
set_option maxRecDepth 100000 in
theorem wk_X11_sectionAt {n : Nat} {a1 : Int32} {μ : Mm} {out : (Nat ⊕ Int32)} (F : FX G b RX11 cX11_sectionAt 4 p s m args meth c) (hr : meth.sig.returnType = some .int) (hlT : l.stackTraces = false) (hnt : ∀ x ∈ c.exceptionTable.toList, False) (h : sh_X11_sectionAt n a1 μ = some out) (hW : WH G b μ H) (hS : va_S (fb b) s.heap H locs) (hl : lv_has ls 4 [(0, .ref (b + 0)), (1, .int a1)]) : W p l e ({ frames := 6, cells := 1, slots := 6, locals := 90 } : Room) s m args below meth c H locs 0 0 (vx_MQ below (QN G b (Sum.elim (fun _ => none) (fun (v : Int32) => some (μ, (some (.int v)))) out)) (XN G b (Sum.elim (fun (q : Nat) => some (q, μ)) (fun _ => none) out)) args s 1 6 (fb b)) (F0 m 0 ls []) := by
  have hx := F.1
  have hb := F.2.1
  unfold sh_X11_sectionAt at h
  refine lv_iload_n hx hb dX11_sectionAt_0 rfl (lv_at hl 1 rfl) ?_
  refine lv_iconst (v := (1 : Int32)) hx hb dX11_sectionAt_1 (by decide) ?_
  refine lv_icmp_lt (tgt := 19) hx hb dX11_sectionAt_2 (by decide) (fun cc => ?_) (fun cc => ?_)
  · replace h := (if_pos cc).symm.trans h
    exact wk_X11_sectionAt_19 F hr hlT hnt h hW hS (lv_sub hl [] rfl)
  · replace h := (if_neg cc).symm.trans h
    refine lv_iload_n hx hb dX11_sectionAt_5 rfl (lv_at hl 1 rfl) ?_
    refine lv_aload_n hx hb dX11_sectionAt_6 rfl (lv_at hl 0 rfl) ?_
    refine fl_get11 (v := .ref (b + 38)) kyf_0 F hW 9 (by decide) q_541 rfl rfl dX11_sectionAt_7 ?_
    refine fl_get1 (v := .ref (b + 52)) kyf_38 F hW 1 (by decide) q_363 rfl rfl dX11_sectionAt_10 ?_
    refine fl_get3 (v := .int (μ.1 52 5)) kyf_52 F hW 5 (by decide) q_284 rfl rfl dX11_sectionAt_13 ?_
    refine lv_icmp_le (tgt := 29) hx hb dX11_sectionAt_16 (by decide) (fun cc => ?_) (fun cc => ?_)
    · replace h := (if_pos cc).symm.trans h
      refine lv_iconst (v := (-1 : Int32)) hx hb dX11_sectionAt_29 (by decide) ?_
      refine lv_istore_n (lv' := [(2, .int (-1 : Int32)), (0, .ref (b + 0)), (1, .int a1)]) hx hb dX11_sectionAt_30 rfl hl (by decide) rfl (fun ls hl => ?_)
      refine lv_iconst (v := (0 : Int32)) hx hb dX11_sectionAt_31 (by decide) ?_
      refine lv_istore_n (lv' := [(3, .int (0 : Int32)), (2, .int (-1 : Int32)), (0, .ref (b + 0)), (1, .int a1)]) hx hb dX11_sectionAt_32 rfl hl (by decide) rfl (fun ls hl => ?_)
      exact wk_X11_sectionAt_33 F hr hlT hnt n _ _ _ _ _ h hW hS (lv_sub hl [2, 3, 1, 0] rfl)
    · replace h := (if_neg cc).symm.trans h
      exact wk_X11_sectionAt_19 F hr hlT hnt h hW hS (lv_sub hl [] rfl)
set_option maxHeartbeats 4000000 in
set_option maxRecDepth 100000 in
theorem c_X11_sectionAt {l : Launch} (hlT : l.stackTraces = false) {G : Gt} {b : Nat} {n : Nat} {a1 : Int32} {μ : Mm} {out : (Nat ⊕ Int32)} (h : sh_X11_sectionAt n a1 μ = some out) : vx_Met l yX11_sectionAt (wU (Cond.code yX11_sectionAt cX11_sectionAt 4 (some .int))) ({ frames := 6, cells := 1, slots := 6, locals := 90 } : Room) (PcW G b μ [.ref (b + 0), .int a1]) (QN G b (Sum.elim (fun _ => none) (fun (v : Int32) => some (μ, (some (.int v)))) out)) (XN G b (Sum.elim (fun (q : Nat) => some (q, μ)) (fun _ => none) out)) 1 6 (fb b) :=
  xmet_of [.ref (b + 0), .int a1] (by decide) (Nat.le_of_ble_eq_true rfl) (fun F hr hnt hW hl => wk_X11_sectionAt F hr hlT hnt h hW va_S.rf hl)
set_option maxHeartbeats 4000000 in
set_option maxRecDepth 100000 in
theorem k_X11_sectionAt {own : String} {nL : Nat} (F : FX G b own cc nL p s m args meth c) (hlT : l.stackTraces = false) {n : Nat} {a1 : Int32} {μ : Mm} {out : (Nat ⊕ Int32)} (h : sh_X11_sectionAt n a1 μ = some out) {index : Nat} (hl : Cond.methodLink own index yX11_sectionAt ∈ TBG) (hR : 6 + 1 ≤ R.frames ∧ 8 + (4 + 11) + 90 ≤ R.locals ∧ cells + 1 ≤ R.cells ∧ slots + 6 ≤ R.slots) (hW : WH G b μ H) (hS : va_S (fb b) s.heap H locs) (hsz : ls.size = nL) (hrest : (rest.map fun v => v.category).sum ≤ 8) (hdg : decode cc pc = .ok (.invokevirtual index, 3))
    (kx : ∀ (q : Nat), out = .inl q → ∀ (ce : Cell) (q9 : Addr) (H1 : Heap) (locs1 : List Loc), WH G b μ H1 → va_S (fb b) s.heap H1 locs1 → H1[q9]? = some ce → ce.vm = .none → s.vm.findClass (exN q) = some ce.cls → vx_W p l e R s m args below meth c H1 locs1 (cells + 1) (slots + 6) Q (F0 m pc ls rest) q9)
    (kk : ∀ (v : Int32), out = .inr v → ∀ (H1 : Heap) (locs1 : List Loc), WH G b μ H1 → va_S (fb b) s.heap H1 locs1 → W p l e R s m args below meth c H1 locs1 (cells + 1) (slots + 6) Q (F0 m (pc + 3) ls (.int v :: rest))) : W p l e R s m args below meth c H locs cells slots Q (F0 m pc ls (.int a1 :: .ref (b + 0) :: rest)) := by
  cases out with
  | inl q => exact fx_callV (As := [.int a1]) (ci := 11) (c_X11_sectionAt hlT h) ⟨rfl, rfl⟩ rfl (ky_lt kyf_0 (by decide)) (wF_11 kyf_0) q_1175 q_1176 q_1 q_1177 rfl ⟨by decide +kernel, by decide +kernel, (show (parseMethodDescriptor yX11_sectionAt.desc).map (fun d => d.parameters.length) = some 1 by decide +kernel)⟩ F hl hR hW hS hsz hrest rfl hdg (fun z hz => by obtain rfl := Option.some.inj hz; exact kx _ rfl) (fun z hz => nomatch (show (none : Option (Mm × Option Value)) = some z from hz))
  | inr v => exact fx_callV (As := [.int a1]) (ci := 11) (c_X11_sectionAt hlT h) ⟨rfl, rfl⟩ rfl (ky_lt kyf_0 (by decide)) (wF_11 kyf_0) q_1175 q_1176 q_1 q_1177 rfl ⟨by decide +kernel, by decide +kernel, (show (parseMethodDescriptor yX11_sectionAt.desc).map (fun d => d.parameters.length) = some 1 by decide +kernel)⟩ F hl hR hW hS hsz hrest rfl hdg (fun z hz => nomatch (show (none : Option (Nat × Mm)) = some z from hz)) (fun z hz => by obtain rfl := Option.some.inj hz; exact kk _ rfl)
set_option maxHeartbeats 4000000 in
set_option maxRecDepth 100000 in
theorem wk_X11_firstLine {a1 : Int32} {μ : Mm} {out : (Nat ⊕ Int32)} (F : FX G b RX11 cX11_firstLine 2 p s m args meth c) (hr : meth.sig.returnType = some .int) (hlT : l.stackTraces = false) (hnt : ∀ x ∈ c.exceptionTable.toList, False) (h : sh_X11_firstLine a1 μ = some out) (hW : WH G b μ H) (hS : va_S (fb b) s.heap H locs) (hl : lv_has ls 2 [(0, .ref (b + 0)), (1, .int a1)]) : W p l e ({ frames := 7, cells := 1, slots := 6, locals := 111 } : Room) s m args below meth c H locs 0 0 (vx_MQ below (QN G b (Sum.elim (fun _ => none) (fun (v : Int32) => some (μ, (some (.int v)))) out)) (XN G b (Sum.elim (fun (q : Nat) => some (q, μ)) (fun _ => none) out)) args s 1 6 (fb b)) (F0 m 0 ls []) := by
  have hx := F.1
  have hb := F.2.1
  unfold sh_X11_firstLine at h
  refine lv_aload_n hx hb dX11_firstLine_0 rfl (lv_at hl 0 rfl) ?_
  refine lv_iload_n hx hb dX11_firstLine_1 rfl (lv_at hl 1 rfl) ?_
  obtain ⟨r1, qr1, h⟩ := ob h
  refine k_X11_checkSection F hlT qr1 q_1104 ⟨Nat.le_of_ble_eq_true rfl, Nat.le_of_ble_eq_true rfl, Nat.le_of_ble_eq_true rfl, Nat.le_of_ble_eq_true rfl⟩ hW hS hl.1 (Nat.le_of_ble_eq_true rfl) dX11_firstLine_2 (fun ec he ce q9 H locs hW hS hc1 hc2 hc3 => ?_) (fun v2 he H locs hW hS => ?_)
  · subst he
    cases h
    exact x_out F hnt (Nat.le_of_ble_eq_true rfl) (Nat.le_of_ble_eq_true rfl) hW hS hc1 hc2 hc3
  subst he
  replace h := (Sum.elim_inr _ _ _).symm.trans h
  refine lv_aload_n hx hb dX11_firstLine_5 rfl (lv_at hl 0 rfl) ?_
  refine fl_get11 (v := .ref (b + 38)) kyf_0 F hW 9 (by decide) q_541 rfl rfl dX11_firstLine_6 ?_
  refine fl_get1 (v := .ref (b + 61)) kyf_38 F hW 2 (by decide) q_365 rfl rfl dX11_firstLine_9 ?_
  refine fl_get7 (v := .ref (b + 72)) kyf_61 F hW 8 (by decide) q_327 rfl rfl dX11_firstLine_12 ?_
  refine lv_iload_n hx hb dX11_firstLine_15 rfl (lv_at hl 1 rfl) ?_
  obtain ⟨r3, qr3, h⟩ := ob h
  refine k_X5_at F ok_72 qr3 q_883 ⟨Nat.le_of_ble_eq_true rfl, Nat.le_of_ble_eq_true rfl, Nat.le_of_ble_eq_true rfl, Nat.le_of_ble_eq_true rfl⟩ hW hS hl.1 (Nat.le_of_ble_eq_true rfl) dX11_firstLine_16 (fun H locs hW hS => ?_)
  cases h
  exact x_int F hr (Nat.le_of_ble_eq_true rfl) (Nat.le_of_ble_eq_true rfl) hW hS dX11_firstLine_19
set_option maxHeartbeats 4000000 in
set_option maxRecDepth 100000 in
theorem c_X11_firstLine {l : Launch} (hlT : l.stackTraces = false) {G : Gt} {b : Nat} {a1 : Int32} {μ : Mm} {out : (Nat ⊕ Int32)} (h : sh_X11_firstLine a1 μ = some out) : vx_Met l yX11_firstLine (wU (Cond.code yX11_firstLine cX11_firstLine 2 (some .int))) ({ frames := 7, cells := 1, slots := 6, locals := 111 } : Room) (PcW G b μ [.ref (b + 0), .int a1]) (QN G b (Sum.elim (fun _ => none) (fun (v : Int32) => some (μ, (some (.int v)))) out)) (XN G b (Sum.elim (fun (q : Nat) => some (q, μ)) (fun _ => none) out)) 1 6 (fb b) :=
  xmet_of [.ref (b + 0), .int a1] (by decide) (Nat.le_of_ble_eq_true rfl) (fun F hr hnt hW hl => wk_X11_firstLine F hr hlT hnt h hW va_S.rf hl)
set_option maxHeartbeats 4000000 in
set_option maxRecDepth 100000 in
theorem k_X11_firstLine {own : String} {nL : Nat} (F : FX G b own cc nL p s m args meth c) (hlT : l.stackTraces = false) {a1 : Int32} {μ : Mm} {out : (Nat ⊕ Int32)} (h : sh_X11_firstLine a1 μ = some out) {index : Nat} (hl : Cond.methodLink own index yX11_firstLine ∈ TBG) (hR : 7 + 1 ≤ R.frames ∧ 8 + (2 + 11) + 111 ≤ R.locals ∧ cells + 1 ≤ R.cells ∧ slots + 6 ≤ R.slots) (hW : WH G b μ H) (hS : va_S (fb b) s.heap H locs) (hsz : ls.size = nL) (hrest : (rest.map fun v => v.category).sum ≤ 8) (hdg : decode cc pc = .ok (.invokevirtual index, 3))
    (kx : ∀ (q : Nat), out = .inl q → ∀ (ce : Cell) (q9 : Addr) (H1 : Heap) (locs1 : List Loc), WH G b μ H1 → va_S (fb b) s.heap H1 locs1 → H1[q9]? = some ce → ce.vm = .none → s.vm.findClass (exN q) = some ce.cls → vx_W p l e R s m args below meth c H1 locs1 (cells + 1) (slots + 6) Q (F0 m pc ls rest) q9)
    (kk : ∀ (v : Int32), out = .inr v → ∀ (H1 : Heap) (locs1 : List Loc), WH G b μ H1 → va_S (fb b) s.heap H1 locs1 → W p l e R s m args below meth c H1 locs1 (cells + 1) (slots + 6) Q (F0 m (pc + 3) ls (.int v :: rest))) : W p l e R s m args below meth c H locs cells slots Q (F0 m pc ls (.int a1 :: .ref (b + 0) :: rest)) := by
  cases out with
  | inl q => exact fx_callV (As := [.int a1]) (ci := 11) (c_X11_firstLine hlT h) ⟨rfl, rfl⟩ rfl (ky_lt kyf_0 (by decide)) (wF_11 kyf_0) q_1183 q_1184 q_1 q_1185 rfl ⟨by decide +kernel, by decide +kernel, (show (parseMethodDescriptor yX11_firstLine.desc).map (fun d => d.parameters.length) = some 1 by decide +kernel)⟩ F hl hR hW hS hsz hrest rfl hdg (fun z hz => by obtain rfl := Option.some.inj hz; exact kx _ rfl) (fun z hz => nomatch (show (none : Option (Mm × Option Value)) = some z from hz))
  | inr v => exact fx_callV (As := [.int a1]) (ci := 11) (c_X11_firstLine hlT h) ⟨rfl, rfl⟩ rfl (ky_lt kyf_0 (by decide)) (wF_11 kyf_0) q_1183 q_1184 q_1 q_1185 rfl ⟨by decide +kernel, by decide +kernel, (show (parseMethodDescriptor yX11_firstLine.desc).map (fun d => d.parameters.length) = some 1 by decide +kernel)⟩ F hl hR hW hS hsz hrest rfl hdg (fun z hz => nomatch (show (none : Option (Nat × Mm)) = some z from hz)) (fun z hz => by obtain rfl := Option.some.inj hz; exact kk _ rfl)
set_option maxHeartbeats 4000000 in
set_option maxRecDepth 100000 in
theorem wk_X11_lineCount {a1 : Int32} {μ : Mm} {out : (Nat ⊕ Int32)} (F : FX G b RX11 cX11_lineCount 2 p s m args meth c) (hr : meth.sig.returnType = some .int) (hlT : l.stackTraces = false) (hnt : ∀ x ∈ c.exceptionTable.toList, False) (h : sh_X11_lineCount a1 μ = some out) (hW : WH G b μ H) (hS : va_S (fb b) s.heap H locs) (hl : lv_has ls 2 [(0, .ref (b + 0)), (1, .int a1)]) : W p l e ({ frames := 7, cells := 1, slots := 6, locals := 111 } : Room) s m args below meth c H locs 0 0 (vx_MQ below (QN G b (Sum.elim (fun _ => none) (fun (v : Int32) => some (μ, (some (.int v)))) out)) (XN G b (Sum.elim (fun (q : Nat) => some (q, μ)) (fun _ => none) out)) args s 1 6 (fb b)) (F0 m 0 ls []) := by
  have hx := F.1
  have hb := F.2.1
  unfold sh_X11_lineCount at h
  refine lv_aload_n hx hb dX11_lineCount_0 rfl (lv_at hl 0 rfl) ?_
  refine lv_iload_n hx hb dX11_lineCount_1 rfl (lv_at hl 1 rfl) ?_
  obtain ⟨r1, qr1, h⟩ := ob h
  refine k_X11_checkSection F hlT qr1 q_1104 ⟨Nat.le_of_ble_eq_true rfl, Nat.le_of_ble_eq_true rfl, Nat.le_of_ble_eq_true rfl, Nat.le_of_ble_eq_true rfl⟩ hW hS hl.1 (Nat.le_of_ble_eq_true rfl) dX11_lineCount_2 (fun ec he ce q9 H locs hW hS hc1 hc2 hc3 => ?_) (fun v2 he H locs hW hS => ?_)
  · subst he
    cases h
    exact x_out F hnt (Nat.le_of_ble_eq_true rfl) (Nat.le_of_ble_eq_true rfl) hW hS hc1 hc2 hc3
  subst he
  replace h := (Sum.elim_inr _ _ _).symm.trans h
  refine lv_aload_n hx hb dX11_lineCount_5 rfl (lv_at hl 0 rfl) ?_
  refine fl_get11 (v := .ref (b + 38)) kyf_0 F hW 9 (by decide) q_541 rfl rfl dX11_lineCount_6 ?_
  refine fl_get1 (v := .ref (b + 61)) kyf_38 F hW 2 (by decide) q_365 rfl rfl dX11_lineCount_9 ?_
  refine fl_get7 (v := .ref (b + 74)) kyf_61 F hW 9 (by decide) q_329 rfl rfl dX11_lineCount_12 ?_
  refine lv_iload_n hx hb dX11_lineCount_15 rfl (lv_at hl 1 rfl) ?_
  obtain ⟨r3, qr3, h⟩ := ob h
  refine k_X5_at F ok_74 qr3 q_883 ⟨Nat.le_of_ble_eq_true rfl, Nat.le_of_ble_eq_true rfl, Nat.le_of_ble_eq_true rfl, Nat.le_of_ble_eq_true rfl⟩ hW hS hl.1 (Nat.le_of_ble_eq_true rfl) dX11_lineCount_16 (fun H locs hW hS => ?_)
  cases h
  exact x_int F hr (Nat.le_of_ble_eq_true rfl) (Nat.le_of_ble_eq_true rfl) hW hS dX11_lineCount_19
set_option maxHeartbeats 4000000 in
set_option maxRecDepth 100000 in
theorem c_X11_lineCount {l : Launch} (hlT : l.stackTraces = false) {G : Gt} {b : Nat} {a1 : Int32} {μ : Mm} {out : (Nat ⊕ Int32)} (h : sh_X11_lineCount a1 μ = some out) : vx_Met l yX11_lineCount (wU (Cond.code yX11_lineCount cX11_lineCount 2 (some .int))) ({ frames := 7, cells := 1, slots := 6, locals := 111 } : Room) (PcW G b μ [.ref (b + 0), .int a1]) (QN G b (Sum.elim (fun _ => none) (fun (v : Int32) => some (μ, (some (.int v)))) out)) (XN G b (Sum.elim (fun (q : Nat) => some (q, μ)) (fun _ => none) out)) 1 6 (fb b) :=
  xmet_of [.ref (b + 0), .int a1] (by decide) (Nat.le_of_ble_eq_true rfl) (fun F hr hnt hW hl => wk_X11_lineCount F hr hlT hnt h hW va_S.rf hl)
set_option maxHeartbeats 4000000 in
set_option maxRecDepth 100000 in
theorem k_X11_lineCount {own : String} {nL : Nat} (F : FX G b own cc nL p s m args meth c) (hlT : l.stackTraces = false) {a1 : Int32} {μ : Mm} {out : (Nat ⊕ Int32)} (h : sh_X11_lineCount a1 μ = some out) {index : Nat} (hl : Cond.methodLink own index yX11_lineCount ∈ TBG) (hR : 7 + 1 ≤ R.frames ∧ 8 + (2 + 11) + 111 ≤ R.locals ∧ cells + 1 ≤ R.cells ∧ slots + 6 ≤ R.slots) (hW : WH G b μ H) (hS : va_S (fb b) s.heap H locs) (hsz : ls.size = nL) (hrest : (rest.map fun v => v.category).sum ≤ 8) (hdg : decode cc pc = .ok (.invokevirtual index, 3))
    (kx : ∀ (q : Nat), out = .inl q → ∀ (ce : Cell) (q9 : Addr) (H1 : Heap) (locs1 : List Loc), WH G b μ H1 → va_S (fb b) s.heap H1 locs1 → H1[q9]? = some ce → ce.vm = .none → s.vm.findClass (exN q) = some ce.cls → vx_W p l e R s m args below meth c H1 locs1 (cells + 1) (slots + 6) Q (F0 m pc ls rest) q9)
    (kk : ∀ (v : Int32), out = .inr v → ∀ (H1 : Heap) (locs1 : List Loc), WH G b μ H1 → va_S (fb b) s.heap H1 locs1 → W p l e R s m args below meth c H1 locs1 (cells + 1) (slots + 6) Q (F0 m (pc + 3) ls (.int v :: rest))) : W p l e R s m args below meth c H locs cells slots Q (F0 m pc ls (.int a1 :: .ref (b + 0) :: rest)) := by
  cases out with
  | inl q => exact fx_callV (As := [.int a1]) (ci := 11) (c_X11_lineCount hlT h) ⟨rfl, rfl⟩ rfl (ky_lt kyf_0 (by decide)) (wF_11 kyf_0) q_1190 q_1191 q_1 q_1192 rfl ⟨by decide +kernel, by decide +kernel, (show (parseMethodDescriptor yX11_lineCount.desc).map (fun d => d.parameters.length) = some 1 by decide +kernel)⟩ F hl hR hW hS hsz hrest rfl hdg (fun z hz => by obtain rfl := Option.some.inj hz; exact kx _ rfl) (fun z hz => nomatch (show (none : Option (Mm × Option Value)) = some z from hz))
  | inr v => exact fx_callV (As := [.int a1]) (ci := 11) (c_X11_lineCount hlT h) ⟨rfl, rfl⟩ rfl (ky_lt kyf_0 (by decide)) (wF_11 kyf_0) q_1190 q_1191 q_1 q_1192 rfl ⟨by decide +kernel, by decide +kernel, (show (parseMethodDescriptor yX11_lineCount.desc).map (fun d => d.parameters.length) = some 1 by decide +kernel)⟩ F hl hR hW hS hsz hrest rfl hdg (fun z hz => nomatch (show (none : Option (Nat × Mm)) = some z from hz)) (fun z hz => by obtain rfl := Option.some.inj hz; exact kk _ rfl)
set_option maxHeartbeats 4000000 in
set_option maxRecDepth 100000 in
theorem wk_X11_checkLine_18 {a1 : Int32} {μ : Mm} {out : (Nat ⊕ Unit)} (F : FX G b RX11 cX11_checkLine 2 p s m args meth c) (hr : meth.sig.returnType = none) (hlT : l.stackTraces = false) (hnt : ∀ x ∈ c.exceptionTable.toList, False) (h : sh_X11_checkLine_18 a1 μ = some out) (hW : WH G b μ H) (hS : va_S (fb b) s.heap H locs) (hl : lv_has ls 2 []) : W p l e ({ frames := 6, cells := 1, slots := 6, locals := 90 } : Room) s m args below meth c H locs 0 0 (vx_MQ below (QN G b (Sum.elim (fun _ => none) (fun (v : Unit) => some (μ, none)) out)) (XN G b (Sum.elim (fun (q : Nat) => some (q, μ)) (fun _ => none) out)) args s 1 6 (fb b)) (F0 m 18 ls []) := by
  have hx := F.1
  have hb := F.2.1
  unfold sh_X11_checkLine_18 at h
  cases h
  exact x_throwW (ec := 2) F hlT hnt q_1108 q_25 (is := 437) (text := "no such line of the table") (t := 21) (by decide +kernel) (by decide +kernel) (hat_2 F.2.2.2.2.1 F.2.2.2.2.2.2.1) hgd_2 hl.1 dX11_checkLine_18 dX11_checkLine_21 dX11_checkLine_22 dX11_checkLine_25 dX11_checkLine_28 ⟨Nat.le_of_ble_eq_true rfl, Nat.le_of_ble_eq_true rfl, Nat.le_of_ble_eq_true rfl, Nat.le_of_ble_eq_true rfl⟩ (Nat.le_of_ble_eq_true rfl) (Nat.le_of_ble_eq_true rfl) hW hS
set_option maxHeartbeats 4000000 in
set_option maxRecDepth 100000 in
theorem wk_X11_checkLine {a1 : Int32} {μ : Mm} {out : (Nat ⊕ Unit)} (F : FX G b RX11 cX11_checkLine 2 p s m args meth c) (hr : meth.sig.returnType = none) (hlT : l.stackTraces = false) (hnt : ∀ x ∈ c.exceptionTable.toList, False) (h : sh_X11_checkLine a1 μ = some out) (hW : WH G b μ H) (hS : va_S (fb b) s.heap H locs) (hl : lv_has ls 2 [(0, .ref (b + 0)), (1, .int a1)]) : W p l e ({ frames := 6, cells := 1, slots := 6, locals := 90 } : Room) s m args below meth c H locs 0 0 (vx_MQ below (QN G b (Sum.elim (fun _ => none) (fun (v : Unit) => some (μ, none)) out)) (XN G b (Sum.elim (fun (q : Nat) => some (q, μ)) (fun _ => none) out)) args s 1 6 (fb b)) (F0 m 0 ls []) := by
  have hx := F.1
  have hb := F.2.1
  unfold sh_X11_checkLine at h
  refine lv_iload_n hx hb dX11_checkLine_0 rfl (lv_at hl 1 rfl) ?_
  refine lv_if_lt (tgt := 18) hx hb dX11_checkLine_1 (by decide) (fun cc => ?_) (fun cc => ?_)
  · replace h := (if_pos cc).symm.trans h
    exact wk_X11_checkLine_18 F hr hlT hnt h hW hS (lv_sub hl [] rfl)
  · replace h := (if_neg cc).symm.trans h
    refine lv_iload_n hx hb dX11_checkLine_4 rfl (lv_at hl 1 rfl) ?_
    refine lv_aload_n hx hb dX11_checkLine_5 rfl (lv_at hl 0 rfl) ?_
    refine fl_get11 (v := .ref (b + 38)) kyf_0 F hW 9 (by decide) q_541 rfl rfl dX11_checkLine_6 ?_
    refine fl_get1 (v := .ref (b + 61)) kyf_38 F hW 2 (by decide) q_365 rfl rfl dX11_checkLine_9 ?_
    refine fl_get7 (v := .int (μ.1 61 2)) kyf_61 F hW 2 (by decide) q_312 rfl rfl dX11_checkLine_12 ?_
    refine lv_icmp_lt (tgt := 29) hx hb dX11_checkLine_15 (by decide) (fun cc => ?_) (fun cc => ?_)
    · replace h := (if_pos cc).symm.trans h
      cases h
      exact x_void F hr (Nat.le_of_ble_eq_true rfl) (Nat.le_of_ble_eq_true rfl) hW hS dX11_checkLine_29
    · replace h := (if_neg cc).symm.trans h
      exact wk_X11_checkLine_18 F hr hlT hnt h hW hS (lv_sub hl [] rfl)
set_option maxHeartbeats 4000000 in
set_option maxRecDepth 100000 in
theorem c_X11_checkLine {l : Launch} (hlT : l.stackTraces = false) {G : Gt} {b : Nat} {a1 : Int32} {μ : Mm} {out : (Nat ⊕ Unit)} (h : sh_X11_checkLine a1 μ = some out) : vx_Met l yX11_checkLine (wU (Cond.code yX11_checkLine cX11_checkLine 2 none)) ({ frames := 6, cells := 1, slots := 6, locals := 90 } : Room) (PcW G b μ [.ref (b + 0), .int a1]) (QN G b (Sum.elim (fun _ => none) (fun (v : Unit) => some (μ, none)) out)) (XN G b (Sum.elim (fun (q : Nat) => some (q, μ)) (fun _ => none) out)) 1 6 (fb b) :=
  xmet_of [.ref (b + 0), .int a1] (by decide) (Nat.le_of_ble_eq_true rfl) (fun F hr hnt hW hl => wk_X11_checkLine F hr hlT hnt h hW va_S.rf hl)
set_option maxHeartbeats 4000000 in
set_option maxRecDepth 100000 in
theorem k_X11_checkLine {own : String} {nL : Nat} (F : FX G b own cc nL p s m args meth c) (hlT : l.stackTraces = false) {a1 : Int32} {μ : Mm} {out : (Nat ⊕ Unit)} (h : sh_X11_checkLine a1 μ = some out) {index : Nat} (hl : Cond.methodLink own index yX11_checkLine ∈ TBG) (hR : 6 + 1 ≤ R.frames ∧ 8 + (2 + 11) + 90 ≤ R.locals ∧ cells + 1 ≤ R.cells ∧ slots + 6 ≤ R.slots) (hW : WH G b μ H) (hS : va_S (fb b) s.heap H locs) (hsz : ls.size = nL) (hrest : (rest.map fun v => v.category).sum ≤ 8) (hdg : decode cc pc = .ok (.invokevirtual index, 3))
    (kx : ∀ (q : Nat), out = .inl q → ∀ (ce : Cell) (q9 : Addr) (H1 : Heap) (locs1 : List Loc), WH G b μ H1 → va_S (fb b) s.heap H1 locs1 → H1[q9]? = some ce → ce.vm = .none → s.vm.findClass (exN q) = some ce.cls → vx_W p l e R s m args below meth c H1 locs1 (cells + 1) (slots + 6) Q (F0 m pc ls rest) q9)
    (kk : ∀ (v : Unit), out = .inr v → ∀ (H1 : Heap) (locs1 : List Loc), WH G b μ H1 → va_S (fb b) s.heap H1 locs1 → W p l e R s m args below meth c H1 locs1 (cells + 1) (slots + 6) Q (F0 m (pc + 3) ls (rest))) : W p l e R s m args below meth c H locs cells slots Q (F0 m pc ls (.int a1 :: .ref (b + 0) :: rest)) := by
  cases out with
  | inl q => exact fx_callV (As := [.int a1]) (ci := 11) (c_X11_checkLine hlT h) ⟨rfl, rfl⟩ rfl (ky_lt kyf_0 (by decide)) (wF_11 kyf_0) q_1202 qp_33 q_1 q_1203 rfl ⟨by decide +kernel, by decide +kernel, (show (parseMethodDescriptor yX11_checkLine.desc).map (fun d => d.parameters.length) = some 1 by decide +kernel)⟩ F hl hR hW hS hsz hrest rfl hdg (fun z hz => by obtain rfl := Option.some.inj hz; exact kx _ rfl) (fun z hz => nomatch (show (none : Option (Mm × Option Value)) = some z from hz))
  | inr v => exact fx_callV (As := [.int a1]) (ci := 11) (c_X11_checkLine hlT h) ⟨rfl, rfl⟩ rfl (ky_lt kyf_0 (by decide)) (wF_11 kyf_0) q_1202 qp_33 q_1 q_1203 rfl ⟨by decide +kernel, by decide +kernel, (show (parseMethodDescriptor yX11_checkLine.desc).map (fun d => d.parameters.length) = some 1 by decide +kernel)⟩ F hl hR hW hS hsz hrest rfl hdg (fun z hz => nomatch (show (none : Option (Nat × Mm)) = some z from hz)) (fun z hz => by obtain rfl := Option.some.inj hz; exact kk _ rfl)
set_option maxHeartbeats 4000000 in
set_option maxRecDepth 100000 in
theorem wk_X11_line {a1 : Int32} {a2 : Int32} {μ : Mm} {out : (Nat ⊕ Int32)} (F : FX G b RX11 cX11_line 3 p s m args meth c) (hr : meth.sig.returnType = some .int) (hlT : l.stackTraces = false) (hnt : ∀ x ∈ c.exceptionTable.toList, False) (h : sh_X11_line a1 a2 μ = some out) (hW : WH G b μ H) (hS : va_S (fb b) s.heap H locs) (hl : lv_has ls 3 [(0, .ref (b + 0)), (1, .int a1), (2, .int a2)]) : W p l e ({ frames := 7, cells := 2, slots := 12, locals := 111 } : Room) s m args below meth c H locs 0 0 (vx_MQ below (QN G b (Sum.elim (fun _ => none) (fun (v : Int32) => some (μ, (some (.int v)))) out)) (XN G b (Sum.elim (fun (q : Nat) => some (q, μ)) (fun _ => none) out)) args s 2 12 (fb b)) (F0 m 0 ls []) := by
  have hx := F.1
  have hb := F.2.1
  unfold sh_X11_line at h
  refine lv_aload_n hx hb dX11_line_0 rfl (lv_at hl 0 rfl) ?_
  refine lv_iload_n hx hb dX11_line_1 rfl (lv_at hl 1 rfl) ?_
  obtain ⟨r1, qr1, h⟩ := ob h
  refine k_X11_checkLine F hlT qr1 q_1200 ⟨Nat.le_of_ble_eq_true rfl, Nat.le_of_ble_eq_true rfl, Nat.le_of_ble_eq_true rfl, Nat.le_of_ble_eq_true rfl⟩ hW hS hl.1 (Nat.le_of_ble_eq_true rfl) dX11_line_2 (fun ec he ce q9 H locs hW hS hc1 hc2 hc3 => ?_) (fun v2 he H locs hW hS => ?_)
  · subst he
    cases h
    exact x_out F hnt (Nat.le_of_ble_eq_true rfl) (Nat.le_of_ble_eq_true rfl) hW hS hc1 hc2 hc3
  subst he
  replace h := (Sum.elim_inr _ _ _).symm.trans h
  refine lv_iload_n hx hb dX11_line_5 rfl (lv_at hl 2 rfl) ?_
  by_cases cs0 : a2 = (0 : Int32)
  · replace h := (if_pos cs0).symm.trans h
    rw [cs0]
    refine lv_tableIn (off := 34) (tgt := 40) hx hb dX11_line_6 (by decide) (by decide) rfl (by decide) ?_
    refine lv_aload_n hx hb dX11_line_40 rfl (lv_at hl 0 rfl) ?_
    refine fl_get11 (v := .ref (b + 38)) kyf_0 F hW 9 (by decide) q_541 rfl rfl dX11_line_41 ?_
    refine fl_get1 (v := .ref (b + 61)) kyf_38 F hW 2 (by decide) q_365 rfl rfl dX11_line_44 ?_
    refine fl_get7 (v := .ref (b + 62)) kyf_61 F hW 3 (by decide) q_315 rfl rfl dX11_line_47 ?_
    refine lv_iload_n hx hb dX11_line_50 rfl (lv_at hl 1 rfl) ?_
    obtain ⟨r3, qr3, h⟩ := ob h
    refine k_X5_at F ok_62 qr3 q_883 ⟨Nat.le_of_ble_eq_true rfl, Nat.le_of_ble_eq_true rfl, Nat.le_of_ble_eq_true rfl, Nat.le_of_ble_eq_true rfl⟩ hW hS hl.1 (Nat.le_of_ble_eq_true rfl) dX11_line_51 (fun H locs hW hS => ?_)
    cases h
    exact x_int F hr (Nat.le_of_ble_eq_true rfl) (Nat.le_of_ble_eq_true rfl) hW hS dX11_line_54
  replace h := (if_neg cs0).symm.trans h
  by_cases cs1 : a2 = (1 : Int32)
  · replace h := (if_pos cs1).symm.trans h
    rw [cs1]
    refine lv_tableIn (off := 49) (tgt := 55) hx hb dX11_line_6 (by decide) (by decide) rfl (by decide) ?_
    refine lv_aload_n hx hb dX11_line_55 rfl (lv_at hl 0 rfl) ?_
    refine fl_get11 (v := .ref (b + 38)) kyf_0 F hW 9 (by decide) q_541 rfl rfl dX11_line_56 ?_
    refine fl_get1 (v := .ref (b + 61)) kyf_38 F hW 2 (by decide) q_365 rfl rfl dX11_line_59 ?_
    refine fl_get7 (v := .ref (b + 64)) kyf_61 F hW 4 (by decide) q_318 rfl rfl dX11_line_62 ?_
    refine lv_iload_n hx hb dX11_line_65 rfl (lv_at hl 1 rfl) ?_
    obtain ⟨r4, qr4, h⟩ := ob h
    refine k_X5_at F ok_64 qr4 q_883 ⟨Nat.le_of_ble_eq_true rfl, Nat.le_of_ble_eq_true rfl, Nat.le_of_ble_eq_true rfl, Nat.le_of_ble_eq_true rfl⟩ hW hS hl.1 (Nat.le_of_ble_eq_true rfl) dX11_line_66 (fun H locs hW hS => ?_)
    cases h
    exact x_int F hr (Nat.le_of_ble_eq_true rfl) (Nat.le_of_ble_eq_true rfl) hW hS dX11_line_69
  replace h := (if_neg cs1).symm.trans h
  by_cases cs2 : a2 = (2 : Int32)
  · replace h := (if_pos cs2).symm.trans h
    rw [cs2]
    refine lv_tableIn (off := 64) (tgt := 70) hx hb dX11_line_6 (by decide) (by decide) rfl (by decide) ?_
    refine lv_aload_n hx hb dX11_line_70 rfl (lv_at hl 0 rfl) ?_
    refine fl_get11 (v := .ref (b + 38)) kyf_0 F hW 9 (by decide) q_541 rfl rfl dX11_line_71 ?_
    refine fl_get1 (v := .ref (b + 61)) kyf_38 F hW 2 (by decide) q_365 rfl rfl dX11_line_74 ?_
    refine fl_get7 (v := .ref (b + 66)) kyf_61 F hW 5 (by decide) q_320 rfl rfl dX11_line_77 ?_
    refine lv_iload_n hx hb dX11_line_80 rfl (lv_at hl 1 rfl) ?_
    obtain ⟨r5, qr5, h⟩ := ob h
    refine k_X5_at F ok_66 qr5 q_883 ⟨Nat.le_of_ble_eq_true rfl, Nat.le_of_ble_eq_true rfl, Nat.le_of_ble_eq_true rfl, Nat.le_of_ble_eq_true rfl⟩ hW hS hl.1 (Nat.le_of_ble_eq_true rfl) dX11_line_81 (fun H locs hW hS => ?_)
    cases h
    exact x_int F hr (Nat.le_of_ble_eq_true rfl) (Nat.le_of_ble_eq_true rfl) hW hS dX11_line_84
  replace h := (if_neg cs2).symm.trans h
  by_cases cs3 : a2 = (3 : Int32)
  · replace h := (if_pos cs3).symm.trans h
    rw [cs3]
    refine lv_tableIn (off := 79) (tgt := 85) hx hb dX11_line_6 (by decide) (by decide) rfl (by decide) ?_
    refine lv_aload_n hx hb dX11_line_85 rfl (lv_at hl 0 rfl) ?_
    refine fl_get11 (v := .ref (b + 38)) kyf_0 F hW 9 (by decide) q_541 rfl rfl dX11_line_86 ?_
    refine fl_get1 (v := .ref (b + 61)) kyf_38 F hW 2 (by decide) q_365 rfl rfl dX11_line_89 ?_
    refine fl_get7 (v := .ref (b + 68)) kyf_61 F hW 6 (by decide) q_323 rfl rfl dX11_line_92 ?_
    refine lv_iload_n hx hb dX11_line_95 rfl (lv_at hl 1 rfl) ?_
    obtain ⟨r6, qr6, h⟩ := ob h
    refine k_X5_at F ok_68 qr6 q_883 ⟨Nat.le_of_ble_eq_true rfl, Nat.le_of_ble_eq_true rfl, Nat.le_of_ble_eq_true rfl, Nat.le_of_ble_eq_true rfl⟩ hW hS hl.1 (Nat.le_of_ble_eq_true rfl) dX11_line_96 (fun H locs hW hS => ?_)
    cases h
    exact x_int F hr (Nat.le_of_ble_eq_true rfl) (Nat.le_of_ble_eq_true rfl) hW hS dX11_line_99
  replace h := (if_neg cs3).symm.trans h
  by_cases cs4 : a2 = (4 : Int32)
  · replace h := (if_pos cs4).symm.trans h
    rw [cs4]
    refine lv_tableIn (off := 94) (tgt := 100) hx hb dX11_line_6 (by decide) (by decide) rfl (by decide) ?_
    refine lv_iconst (v := (1 : Int32)) hx hb dX11_line_100 (by decide) ?_
    refine lv_iload_n hx hb dX11_line_101 rfl (lv_at hl 1 rfl) ?_
    refine lv_aload_n hx hb dX11_line_102 rfl (lv_at hl 0 rfl) ?_
    refine fl_get11 (v := .ref (b + 10)) kyf_0 F hW 5 (by decide) q_537 rfl rfl dX11_line_103 ?_
    refine fl_get6 (v := .ref (b + 11)) kyf_10 F hW 0 (by decide) q_212 rfl rfl dX11_line_106 ?_
    refine fl_get0 (v := .ref (b + 12)) kyf_11 F hW 0 (by decide) q_152 rfl rfl dX11_line_109 ?_
    refine lv_iconst (v := (1 : Int32)) hx hb dX11_line_112 (by decide) ?_
    obtain ⟨r7, qr7, h⟩ := ob h
    refine k_X5_at F ok_12 qr7 q_883 ⟨Nat.le_of_ble_eq_true rfl, Nat.le_of_ble_eq_true rfl, Nat.le_of_ble_eq_true rfl, Nat.le_of_ble_eq_true rfl⟩ hW hS hl.1 (Nat.le_of_ble_eq_true rfl) dX11_line_113 (fun H locs hW hS => ?_)
    obtain ⟨r8, qr8, h⟩ := ob h
    refine k_X11_quotient F qr8 q_1205 ⟨Nat.le_of_ble_eq_true rfl, Nat.le_of_ble_eq_true rfl, Nat.le_of_ble_eq_true rfl, Nat.le_of_ble_eq_true rfl⟩ hW hS hl.1 (Nat.le_of_ble_eq_true rfl) dX11_line_116 (fun H locs hW hS => ?_)
    refine lv_iadd hx hb dX11_line_119 ?_
    cases h
    exact x_int F hr (Nat.le_of_ble_eq_true rfl) (Nat.le_of_ble_eq_true rfl) hW hS dX11_line_120
  replace h := (if_neg cs4).symm.trans h
  refine lv_tableOut (tgt := 121) hx hb dX11_line_6 (t_out (hi := 4) ?_ (by decide)) (by decide) ?_
  · intro k hk
    rcases (show k = 0 ∨ k = 1 ∨ k = 2 ∨ k = 3 ∨ k = 4 by omega) with rfl | rfl | rfl | rfl | rfl
    · exact cs0
    · exact cs1
    · exact cs2
    · exact cs3
    · exact cs4
  cases h
  exact x_throwW (ec := 1) F hlT hnt q_1064 q_19 (is := 269) (text := "no such value of a line") (t := 22) (by decide +kernel) (by decide +kernel) (hat_1 F.2.2.2.2.1 F.2.2.2.2.2.2.1) hgd_1 hl.1 dX11_line_121 dX11_line_124 dX11_line_125 dX11_line_128 dX11_line_131 ⟨Nat.le_of_ble_eq_true rfl, Nat.le_of_ble_eq_true rfl, Nat.le_of_ble_eq_true rfl, Nat.le_of_ble_eq_true rfl⟩ (Nat.le_of_ble_eq_true rfl) (Nat.le_of_ble_eq_true rfl) hW hS
set_option maxHeartbeats 4000000 in
set_option maxRecDepth 100000 in
theorem c_X11_line {l : Launch} (hlT : l.stackTraces = false) {G : Gt} {b : Nat} {a1 : Int32} {a2 : Int32} {μ : Mm} {out : (Nat ⊕ Int32)} (h : sh_X11_line a1 a2 μ = some out) : vx_Met l yX11_line (wU (Cond.code yX11_line cX11_line 3 (some .int))) ({ frames := 7, cells := 2, slots := 12, locals := 111 } : Room) (PcW G b μ [.ref (b + 0), .int a1, .int a2]) (QN G b (Sum.elim (fun _ => none) (fun (v : Int32) => some (μ, (some (.int v)))) out)) (XN G b (Sum.elim (fun (q : Nat) => some (q, μ)) (fun _ => none) out)) 2 12 (fb b) :=
  xmet_of [.ref (b + 0), .int a1, .int a2] (by decide) (Nat.le_of_ble_eq_true rfl) (fun F hr hnt hW hl => wk_X11_line F hr hlT hnt h hW va_S.rf hl)
set_option maxHeartbeats 4000000 in
set_option maxRecDepth 100000 in
theorem k_X11_line {own : String} {nL : Nat} (F : FX G b own cc nL p s m args meth c) (hlT : l.stackTraces = false) {a1 : Int32} {a2 : Int32} {μ : Mm} {out : (Nat ⊕ Int32)} (h : sh_X11_line a1 a2 μ = some out) {index : Nat} (hl : Cond.methodLink own index yX11_line ∈ TBG) (hR : 7 + 1 ≤ R.frames ∧ 8 + (3 + 11) + 111 ≤ R.locals ∧ cells + 2 ≤ R.cells ∧ slots + 12 ≤ R.slots) (hW : WH G b μ H) (hS : va_S (fb b) s.heap H locs) (hsz : ls.size = nL) (hrest : (rest.map fun v => v.category).sum ≤ 8) (hdg : decode cc pc = .ok (.invokevirtual index, 3))
    (kx : ∀ (q : Nat), out = .inl q → ∀ (ce : Cell) (q9 : Addr) (H1 : Heap) (locs1 : List Loc), WH G b μ H1 → va_S (fb b) s.heap H1 locs1 → H1[q9]? = some ce → ce.vm = .none → s.vm.findClass (exN q) = some ce.cls → vx_W p l e R s m args below meth c H1 locs1 (cells + 2) (slots + 12) Q (F0 m pc ls rest) q9)
    (kk : ∀ (v : Int32), out = .inr v → ∀ (H1 : Heap) (locs1 : List Loc), WH G b μ H1 → va_S (fb b) s.heap H1 locs1 → W p l e R s m args below meth c H1 locs1 (cells + 2) (slots + 12) Q (F0 m (pc + 3) ls (.int v :: rest))) : W p l e R s m args below meth c H locs cells slots Q (F0 m pc ls (.int a2 :: .int a1 :: .ref (b + 0) :: rest)) := by
  cases out with
  | inl q => exact fx_callV (As := [.int a1, .int a2]) (ci := 11) (c_X11_line hlT h) ⟨rfl, rfl⟩ rfl (ky_lt kyf_0 (by decide)) (wF_11 kyf_0) q_1197 q_1198 q_1 q_1199 rfl ⟨by decide +kernel, by decide +kernel, (show (parseMethodDescriptor yX11_line.desc).map (fun d => d.parameters.length) = some 2 by decide +kernel)⟩ F hl hR hW hS hsz hrest rfl hdg (fun z hz => by obtain rfl := Option.some.inj hz; exact kx _ rfl) (fun z hz => nomatch (show (none : Option (Mm × Option Value)) = some z from hz))
  | inr v => exact fx_callV (As := [.int a1, .int a2]) (ci := 11) (c_X11_line hlT h) ⟨rfl, rfl⟩ rfl (ky_lt kyf_0 (by decide)) (wF_11 kyf_0) q_1197 q_1198 q_1 q_1199 rfl ⟨by decide +kernel, by decide +kernel, (show (parseMethodDescriptor yX11_line.desc).map (fun d => d.parameters.length) = some 2 by decide +kernel)⟩ F hl hR hW hS hsz hrest rfl hdg (fun z hz => nomatch (show (none : Option (Nat × Mm)) = some z from hz)) (fun z hz => by obtain rfl := Option.some.inj hz; exact kk _ rfl)
set_option maxHeartbeats 4000000 in
set_option maxRecDepth 100000 in
theorem wk_X11_checkLastLine {a1 : Int32} {μ : Mm} {out : (Nat ⊕ Unit)} (F : FX G b RX11 cX11_checkLastLine 2 p s m args meth c) (hr : meth.sig.returnType = none) (hlT : l.stackTraces = false) (hnt : ∀ x ∈ c.exceptionTable.toList, False) (h : sh_X11_checkLastLine a1 μ = some out) (hW : WH G b μ H) (hS : va_S (fb b) s.heap H locs) (hl : lv_has ls 2 [(0, .ref (b + 0)), (1, .int a1)]) : W p l e ({ frames := 6, cells := 1, slots := 6, locals := 90 } : Room) s m args below meth c H locs 0 0 (vx_MQ below (QN G b (Sum.elim (fun _ => none) (fun (v : Unit) => some (μ, none)) out)) (XN G b (Sum.elim (fun (q : Nat) => some (q, μ)) (fun _ => none) out)) args s 1 6 (fb b)) (F0 m 0 ls []) := by
  have hx := F.1
  have hb := F.2.1
  unfold sh_X11_checkLastLine at h
  refine lv_aload_n hx hb dX11_checkLastLine_0 rfl (lv_at hl 0 rfl) ?_
  refine fl_get11 (v := .ref (b + 38)) kyf_0 F hW 9 (by decide) q_541 rfl rfl dX11_checkLastLine_1 ?_
  refine fl_get1 (v := .ref (b + 61)) kyf_38 F hW 2 (by decide) q_365 rfl rfl dX11_checkLastLine_4 ?_
  refine lv_iload_n hx hb dX11_checkLastLine_7 rfl (lv_at hl 1 rfl) ?_
  obtain ⟨r1, qr1, h⟩ := ob h
  refine k_X7_isLastLine F ok_61 qr1 q_1219 ⟨Nat.le_of_ble_eq_true rfl, Nat.le_of_ble_eq_true rfl, Nat.le_of_ble_eq_true rfl, Nat.le_of_ble_eq_true rfl⟩ hW hS hl.1 (Nat.le_of_ble_eq_true rfl) dX11_checkLastLine_8 (fun H locs hW hS => ?_)
  refine lv_if_ne (tgt := 25) hx hb dX11_checkLastLine_11 (by decide) (fun cc => ?_) (fun cc => ?_)
  · replace h := (if_neg cc).symm.trans h
    cases h
    exact x_void F hr (Nat.le_of_ble_eq_true rfl) (Nat.le_of_ble_eq_true rfl) hW hS dX11_checkLastLine_25
  · replace h := (if_pos cc).symm.trans h
    cases h
    exact x_throw3 F hlT hnt (is := 444) (text := "not the last line of its entry") (t := 23) (by decide +kernel) hl.1 dX11_checkLastLine_14 dX11_checkLastLine_17 dX11_checkLastLine_18 dX11_checkLastLine_21 dX11_checkLastLine_24 ⟨Nat.le_of_ble_eq_true rfl, Nat.le_of_ble_eq_true rfl, Nat.le_of_ble_eq_true rfl, Nat.le_of_ble_eq_true rfl⟩ (Nat.le_of_ble_eq_true rfl) (Nat.le_of_ble_eq_true rfl) hW hS
set_option maxHeartbeats 4000000 in
set_option maxRecDepth 100000 in
theorem c_X11_checkLastLine {l : Launch} (hlT : l.stackTraces = false) {G : Gt} {b : Nat} {a1 : Int32} {μ : Mm} {out : (Nat ⊕ Unit)} (h : sh_X11_checkLastLine a1 μ = some out) : vx_Met l yX11_checkLastLine (wU (Cond.code yX11_checkLastLine cX11_checkLastLine 2 none)) ({ frames := 6, cells := 1, slots := 6, locals := 90 } : Room) (PcW G b μ [.ref (b + 0), .int a1]) (QN G b (Sum.elim (fun _ => none) (fun (v : Unit) => some (μ, none)) out)) (XN G b (Sum.elim (fun (q : Nat) => some (q, μ)) (fun _ => none) out)) 1 6 (fb b) :=
  xmet_of [.ref (b + 0), .int a1] (by decide) (Nat.le_of_ble_eq_true rfl) (fun F hr hnt hW hl => wk_X11_checkLastLine F hr hlT hnt h hW va_S.rf hl)
set_option maxHeartbeats 4000000 in
set_option maxRecDepth 100000 in
theorem k_X11_checkLastLine {own : String} {nL : Nat} (F : FX G b own cc nL p s m args meth c) (hlT : l.stackTraces = false) {a1 : Int32} {μ : Mm} {out : (Nat ⊕ Unit)} (h : sh_X11_checkLastLine a1 μ = some out) {index : Nat} (hl : Cond.methodLink own index yX11_checkLastLine ∈ TBG) (hR : 6 + 1 ≤ R.frames ∧ 8 + (2 + 11) + 90 ≤ R.locals ∧ cells + 1 ≤ R.cells ∧ slots + 6 ≤ R.slots) (hW : WH G b μ H) (hS : va_S (fb b) s.heap H locs) (hsz : ls.size = nL) (hrest : (rest.map fun v => v.category).sum ≤ 8) (hdg : decode cc pc = .ok (.invokevirtual index, 3))
    (kx : ∀ (q : Nat), out = .inl q → ∀ (ce : Cell) (q9 : Addr) (H1 : Heap) (locs1 : List Loc), WH G b μ H1 → va_S (fb b) s.heap H1 locs1 → H1[q9]? = some ce → ce.vm = .none → s.vm.findClass (exN q) = some ce.cls → vx_W p l e R s m args below meth c H1 locs1 (cells + 1) (slots + 6) Q (F0 m pc ls rest) q9)
    (kk : ∀ (v : Unit), out = .inr v → ∀ (H1 : Heap) (locs1 : List Loc), WH G b μ H1 → va_S (fb b) s.heap H1 locs1 → W p l e R s m args below meth c H1 locs1 (cells + 1) (slots + 6) Q (F0 m (pc + 3) ls (rest))) : W p l e R s m args below meth c H locs cells slots Q (F0 m pc ls (.int a1 :: .ref (b + 0) :: rest)) := by
  cases out with
  | inl q => exact fx_callV (As := [.int a1]) (ci := 11) (c_X11_checkLastLine hlT h) ⟨rfl, rfl⟩ rfl (ky_lt kyf_0 (by decide)) (wF_11 kyf_0) q_1217 qp_34 q_1 q_1218 rfl ⟨by decide +kernel, by decide +kernel, (show (parseMethodDescriptor yX11_checkLastLine.desc).map (fun d => d.parameters.length) = some 1 by decide +kernel)⟩ F hl hR hW hS hsz hrest rfl hdg (fun z hz => by obtain rfl := Option.some.inj hz; exact kx _ rfl) (fun z hz => nomatch (show (none : Option (Mm × Option Value)) = some z from hz))
  | inr v => exact fx_callV (As := [.int a1]) (ci := 11) (c_X11_checkLastLine hlT h) ⟨rfl, rfl⟩ rfl (ky_lt kyf_0 (by decide)) (wF_11 kyf_0) q_1217 qp_34 q_1 q_1218 rfl ⟨by decide +kernel, by decide +kernel, (show (parseMethodDescriptor yX11_checkLastLine.desc).map (fun d => d.parameters.length) = some 1 by decide +kernel)⟩ F hl hR hW hS hsz hrest rfl hdg (fun z hz => nomatch (show (none : Option (Nat × Mm)) = some z from hz)) (fun z hz => by obtain rfl := Option.some.inj hz; exact kk _ rfl)
set_option maxHeartbeats 4000000 in
set_option maxRecDepth 100000 in
theorem wk_X11_dotCount {a1 : Int32} {μ : Mm} {out : (Nat ⊕ Int32)} (F : FX G b RX11 cX11_dotCount 2 p s m args meth c) (hr : meth.sig.returnType = some .int) (hlT : l.stackTraces = false) (hnt : ∀ x ∈ c.exceptionTable.toList, False) (h : sh_X11_dotCount a1 μ = some out) (hW : WH G b μ H) (hS : va_S (fb b) s.heap H locs) (hl : lv_has ls 2 [(0, .ref (b + 0)), (1, .int a1)]) : W p l e ({ frames := 7, cells := 2, slots := 12, locals := 111 } : Room) s m args below meth c H locs 0 0 (vx_MQ below (QN G b (Sum.elim (fun _ => none) (fun (v : Int32) => some (μ, (some (.int v)))) out)) (XN G b (Sum.elim (fun (q : Nat) => some (q, μ)) (fun _ => none) out)) args s 2 12 (fb b)) (F0 m 0 ls []) := by
  have hx := F.1
  have hb := F.2.1
  unfold sh_X11_dotCount at h
  refine lv_aload_n hx hb dX11_dotCount_0 rfl (lv_at hl 0 rfl) ?_
  refine lv_iload_n hx hb dX11_dotCount_1 rfl (lv_at hl 1 rfl) ?_
  obtain ⟨r1, qr1, h⟩ := ob h
  refine k_X11_checkLine F hlT qr1 q_1200 ⟨Nat.le_of_ble_eq_true rfl, Nat.le_of_ble_eq_true rfl, Nat.le_of_ble_eq_true rfl, Nat.le_of_ble_eq_true rfl⟩ hW hS hl.1 (Nat.le_of_ble_eq_true rfl) dX11_dotCount_2 (fun ec he ce q9 H locs hW hS hc1 hc2 hc3 => ?_) (fun v2 he H locs hW hS => ?_)
  · subst he
    cases h
    exact x_out F hnt (Nat.le_of_ble_eq_true rfl) (Nat.le_of_ble_eq_true rfl) hW hS hc1 hc2 hc3
  subst he
  replace h := (Sum.elim_inr _ _ _).symm.trans h
  refine lv_aload_n hx hb dX11_dotCount_5 rfl (lv_at hl 0 rfl) ?_
  refine lv_iload_n hx hb dX11_dotCount_6 rfl (lv_at hl 1 rfl) ?_
  obtain ⟨r3, qr3, h⟩ := ob h
  refine k_X11_checkLastLine F hlT qr3 q_1215 ⟨Nat.le_of_ble_eq_true rfl, Nat.le_of_ble_eq_true rfl, Nat.le_of_ble_eq_true rfl, Nat.le_of_ble_eq_true rfl⟩ hW hS hl.1 (Nat.le_of_ble_eq_true rfl) dX11_dotCount_7 (fun ec he ce q9 H locs hW hS hc1 hc2 hc3 => ?_) (fun v4 he H locs hW hS => ?_)
  · subst he
    cases h
    exact x_out F hnt (Nat.le_of_ble_eq_true rfl) (Nat.le_of_ble_eq_true rfl) hW hS hc1 hc2 hc3
  subst he
  replace h := (Sum.elim_inr _ _ _).symm.trans h
  refine lv_aload_n hx hb dX11_dotCount_10 rfl (lv_at hl 0 rfl) ?_
  refine fl_get11 (v := .ref (b + 38)) kyf_0 F hW 9 (by decide) q_541 rfl rfl dX11_dotCount_11 ?_
  refine fl_get1 (v := .ref (b + 61)) kyf_38 F hW 2 (by decide) q_365 rfl rfl dX11_dotCount_14 ?_
  refine fl_get7 (v := .ref (b + 78)) kyf_61 F hW 11 (by decide) q_334 rfl rfl dX11_dotCount_17 ?_
  refine lv_aload_n hx hb dX11_dotCount_20 rfl (lv_at hl 0 rfl) ?_
  refine fl_get11 (v := .ref (b + 38)) kyf_0 F hW 9 (by decide) q_541 rfl rfl dX11_dotCount_21 ?_
  refine fl_get1 (v := .ref (b + 61)) kyf_38 F hW 2 (by decide) q_365 rfl rfl dX11_dotCount_24 ?_
  refine fl_get7 (v := .ref (b + 62)) kyf_61 F hW 3 (by decide) q_315 rfl rfl dX11_dotCount_27 ?_
  refine lv_iload_n hx hb dX11_dotCount_30 rfl (lv_at hl 1 rfl) ?_
  obtain ⟨r5, qr5, h⟩ := ob h
  refine k_X5_at F ok_62 qr5 q_883 ⟨Nat.le_of_ble_eq_true rfl, Nat.le_of_ble_eq_true rfl, Nat.le_of_ble_eq_true rfl, Nat.le_of_ble_eq_true rfl⟩ hW hS hl.1 (Nat.le_of_ble_eq_true rfl) dX11_dotCount_31 (fun H locs hW hS => ?_)
  obtain ⟨r6, qr6, h⟩ := ob h
  refine k_X5_at F ok_78 qr6 q_883 ⟨Nat.le_of_ble_eq_true rfl, Nat.le_of_ble_eq_true rfl, Nat.le_of_ble_eq_true rfl, Nat.le_of_ble_eq_true rfl⟩ hW hS hl.1 (Nat.le_of_ble_eq_true rfl) dX11_dotCount_34 (fun H locs hW hS => ?_)
  cases h
  exact x_int F hr (Nat.le_of_ble_eq_true rfl) (Nat.le_of_ble_eq_true rfl) hW hS dX11_dotCount_37
set_option maxHeartbeats 4000000 in
set_option maxRecDepth 100000 in
theorem c_X11_dotCount {l : Launch} (hlT : l.stackTraces = false) {G : Gt} {b : Nat} {a1 : Int32} {μ : Mm} {out : (Nat ⊕ Int32)} (h : sh_X11_dotCount a1 μ = some out) : vx_Met l yX11_dotCount (wU (Cond.code yX11_dotCount cX11_dotCount 2 (some .int))) ({ frames := 7, cells := 2, slots := 12, locals := 111 } : Room) (PcW G b μ [.ref (b + 0), .int a1]) (QN G b (Sum.elim (fun _ => none) (fun (v : Int32) => some (μ, (some (.int v)))) out)) (XN G b (Sum.elim (fun (q : Nat) => some (q, μ)) (fun _ => none) out)) 2 12 (fb b) :=
  xmet_of [.ref (b + 0), .int a1] (by decide) (Nat.le_of_ble_eq_true rfl) (fun F hr hnt hW hl => wk_X11_dotCount F hr hlT hnt h hW va_S.rf hl)
set_option maxHeartbeats 4000000 in
set_option maxRecDepth 100000 in
theorem k_X11_dotCount {own : String} {nL : Nat} (F : FX G b own cc nL p s m args meth c) (hlT : l.stackTraces = false) {a1 : Int32} {μ : Mm} {out : (Nat ⊕ Int32)} (h : sh_X11_dotCount a1 μ = some out) {index : Nat} (hl : Cond.methodLink own index yX11_dotCount ∈ TBG) (hR : 7 + 1 ≤ R.frames ∧ 8 + (2 + 11) + 111 ≤ R.locals ∧ cells + 2 ≤ R.cells ∧ slots + 12 ≤ R.slots) (hW : WH G b μ H) (hS : va_S (fb b) s.heap H locs) (hsz : ls.size = nL) (hrest : (rest.map fun v => v.category).sum ≤ 8) (hdg : decode cc pc = .ok (.invokevirtual index, 3))
    (kx : ∀ (q : Nat), out = .inl q → ∀ (ce : Cell) (q9 : Addr) (H1 : Heap) (locs1 : List Loc), WH G b μ H1 → va_S (fb b) s.heap H1 locs1 → H1[q9]? = some ce → ce.vm = .none → s.vm.findClass (exN q) = some ce.cls → vx_W p l e R s m args below meth c H1 locs1 (cells + 2) (slots + 12) Q (F0 m pc ls rest) q9)
    (kk : ∀ (v : Int32), out = .inr v → ∀ (H1 : Heap) (locs1 : List Loc), WH G b μ H1 → va_S (fb b) s.heap H1 locs1 → W p l e R s m args below meth c H1 locs1 (cells + 2) (slots + 12) Q (F0 m (pc + 3) ls (.int v :: rest))) : W p l e R s m args below meth c H locs cells slots Q (F0 m pc ls (.int a1 :: .ref (b + 0) :: rest)) := by
  cases out with
  | inl q => exact fx_callV (As := [.int a1]) (ci := 11) (c_X11_dotCount hlT h) ⟨rfl, rfl⟩ rfl (ky_lt kyf_0 (by decide)) (wF_11 kyf_0) q_1212 q_1213 q_1 q_1214 rfl ⟨by decide +kernel, by decide +kernel, (show (parseMethodDescriptor yX11_dotCount.desc).map (fun d => d.parameters.length) = some 1 by decide +kernel)⟩ F hl hR hW hS hsz hrest rfl hdg (fun z hz => by obtain rfl := Option.some.inj hz; exact kx _ rfl) (fun z hz => nomatch (show (none : Option (Mm × Option Value)) = some z from hz))
  | inr v => exact fx_callV (As := [.int a1]) (ci := 11) (c_X11_dotCount hlT h) ⟨rfl, rfl⟩ rfl (ky_lt kyf_0 (by decide)) (wF_11 kyf_0) q_1212 q_1213 q_1 q_1214 rfl ⟨by decide +kernel, by decide +kernel, (show (parseMethodDescriptor yX11_dotCount.desc).map (fun d => d.parameters.length) = some 1 by decide +kernel)⟩ F hl hR hW hS hsz hrest rfl hdg (fun z hz => nomatch (show (none : Option (Nat × Mm)) = some z from hz)) (fun z hz => by obtain rfl := Option.some.inj hz; exact kk _ rfl)
set_option maxHeartbeats 4000000 in
set_option maxRecDepth 100000 in
theorem wk_X11_firstDot {a1 : Int32} {μ : Mm} {out : (Nat ⊕ Int32)} (F : FX G b RX11 cX11_firstDot 2 p s m args meth c) (hr : meth.sig.returnType = some .int) (hlT : l.stackTraces = false) (hnt : ∀ x ∈ c.exceptionTable.toList, False) (h : sh_X11_firstDot a1 μ = some out) (hW : WH G b μ H) (hS : va_S (fb b) s.heap H locs) (hl : lv_has ls 2 [(0, .ref (b + 0)), (1, .int a1)]) : W p l e ({ frames := 7, cells := 2, slots := 12, locals := 111 } : Room) s m args below meth c H locs 0 0 (vx_MQ below (QN G b (Sum.elim (fun _ => none) (fun (v : Int32) => some (μ, (some (.int v)))) out)) (XN G b (Sum.elim (fun (q : Nat) => some (q, μ)) (fun _ => none) out)) args s 2 12 (fb b)) (F0 m 0 ls []) := by
  have hx := F.1
  have hb := F.2.1
  unfold sh_X11_firstDot at h
  refine lv_aload_n hx hb dX11_firstDot_0 rfl (lv_at hl 0 rfl) ?_
  refine lv_iload_n hx hb dX11_firstDot_1 rfl (lv_at hl 1 rfl) ?_
  obtain ⟨r1, qr1, h⟩ := ob h
  refine k_X11_checkLine F hlT qr1 q_1200 ⟨Nat.le_of_ble_eq_true rfl, Nat.le_of_ble_eq_true rfl, Nat.le_of_ble_eq_true rfl, Nat.le_of_ble_eq_true rfl⟩ hW hS hl.1 (Nat.le_of_ble_eq_true rfl) dX11_firstDot_2 (fun ec he ce q9 H locs hW hS hc1 hc2 hc3 => ?_) (fun v2 he H locs hW hS => ?_)
  · subst he
    cases h
    exact x_out F hnt (Nat.le_of_ble_eq_true rfl) (Nat.le_of_ble_eq_true rfl) hW hS hc1 hc2 hc3
  subst he
  replace h := (Sum.elim_inr _ _ _).symm.trans h
  refine lv_aload_n hx hb dX11_firstDot_5 rfl (lv_at hl 0 rfl) ?_
  refine lv_iload_n hx hb dX11_firstDot_6 rfl (lv_at hl 1 rfl) ?_
  obtain ⟨r3, qr3, h⟩ := ob h
  refine k_X11_checkLastLine F hlT qr3 q_1215 ⟨Nat.le_of_ble_eq_true rfl, Nat.le_of_ble_eq_true rfl, Nat.le_of_ble_eq_true rfl, Nat.le_of_ble_eq_true rfl⟩ hW hS hl.1 (Nat.le_of_ble_eq_true rfl) dX11_firstDot_7 (fun ec he ce q9 H locs hW hS hc1 hc2 hc3 => ?_) (fun v4 he H locs hW hS => ?_)
  · subst he
    cases h
    exact x_out F hnt (Nat.le_of_ble_eq_true rfl) (Nat.le_of_ble_eq_true rfl) hW hS hc1 hc2 hc3
  subst he
  replace h := (Sum.elim_inr _ _ _).symm.trans h
  refine lv_aload_n hx hb dX11_firstDot_10 rfl (lv_at hl 0 rfl) ?_
  refine fl_get11 (v := .ref (b + 38)) kyf_0 F hW 9 (by decide) q_541 rfl rfl dX11_firstDot_11 ?_
  refine fl_get1 (v := .ref (b + 61)) kyf_38 F hW 2 (by decide) q_365 rfl rfl dX11_firstDot_14 ?_
  refine fl_get7 (v := .ref (b + 76)) kyf_61 F hW 10 (by decide) q_331 rfl rfl dX11_firstDot_17 ?_
  refine lv_aload_n hx hb dX11_firstDot_20 rfl (lv_at hl 0 rfl) ?_
  refine fl_get11 (v := .ref (b + 38)) kyf_0 F hW 9 (by decide) q_541 rfl rfl dX11_firstDot_21 ?_
  refine fl_get1 (v := .ref (b + 61)) kyf_38 F hW 2 (by decide) q_365 rfl rfl dX11_firstDot_24 ?_
  refine fl_get7 (v := .ref (b + 62)) kyf_61 F hW 3 (by decide) q_315 rfl rfl dX11_firstDot_27 ?_
  refine lv_iload_n hx hb dX11_firstDot_30 rfl (lv_at hl 1 rfl) ?_
  obtain ⟨r5, qr5, h⟩ := ob h
  refine k_X5_at F ok_62 qr5 q_883 ⟨Nat.le_of_ble_eq_true rfl, Nat.le_of_ble_eq_true rfl, Nat.le_of_ble_eq_true rfl, Nat.le_of_ble_eq_true rfl⟩ hW hS hl.1 (Nat.le_of_ble_eq_true rfl) dX11_firstDot_31 (fun H locs hW hS => ?_)
  obtain ⟨r6, qr6, h⟩ := ob h
  refine k_X5_at F ok_76 qr6 q_883 ⟨Nat.le_of_ble_eq_true rfl, Nat.le_of_ble_eq_true rfl, Nat.le_of_ble_eq_true rfl, Nat.le_of_ble_eq_true rfl⟩ hW hS hl.1 (Nat.le_of_ble_eq_true rfl) dX11_firstDot_34 (fun H locs hW hS => ?_)
  cases h
  exact x_int F hr (Nat.le_of_ble_eq_true rfl) (Nat.le_of_ble_eq_true rfl) hW hS dX11_firstDot_37
set_option maxHeartbeats 4000000 in
set_option maxRecDepth 100000 in
theorem c_X11_firstDot {l : Launch} (hlT : l.stackTraces = false) {G : Gt} {b : Nat} {a1 : Int32} {μ : Mm} {out : (Nat ⊕ Int32)} (h : sh_X11_firstDot a1 μ = some out) : vx_Met l yX11_firstDot (wU (Cond.code yX11_firstDot cX11_firstDot 2 (some .int))) ({ frames := 7, cells := 2, slots := 12, locals := 111 } : Room) (PcW G b μ [.ref (b + 0), .int a1]) (QN G b (Sum.elim (fun _ => none) (fun (v : Int32) => some (μ, (some (.int v)))) out)) (XN G b (Sum.elim (fun (q : Nat) => some (q, μ)) (fun _ => none) out)) 2 12 (fb b) :=
  xmet_of [.ref (b + 0), .int a1] (by decide) (Nat.le_of_ble_eq_true rfl) (fun F hr hnt hW hl => wk_X11_firstDot F hr hlT hnt h hW va_S.rf hl)
set_option maxHeartbeats 4000000 in
set_option maxRecDepth 100000 in
theorem k_X11_firstDot {own : String} {nL : Nat} (F : FX G b own cc nL p s m args meth c) (hlT : l.stackTraces = false) {a1 : Int32} {μ : Mm} {out : (Nat ⊕ Int32)} (h : sh_X11_firstDot a1 μ = some out) {index : Nat} (hl : Cond.methodLink own index yX11_firstDot ∈ TBG) (hR : 7 + 1 ≤ R.frames ∧ 8 + (2 + 11) + 111 ≤ R.locals ∧ cells + 2 ≤ R.cells ∧ slots + 12 ≤ R.slots) (hW : WH G b μ H) (hS : va_S (fb b) s.heap H locs) (hsz : ls.size = nL) (hrest : (rest.map fun v => v.category).sum ≤ 8) (hdg : decode cc pc = .ok (.invokevirtual index, 3))
    (kx : ∀ (q : Nat), out = .inl q → ∀ (ce : Cell) (q9 : Addr) (H1 : Heap) (locs1 : List Loc), WH G b μ H1 → va_S (fb b) s.heap H1 locs1 → H1[q9]? = some ce → ce.vm = .none → s.vm.findClass (exN q) = some ce.cls → vx_W p l e R s m args below meth c H1 locs1 (cells + 2) (slots + 12) Q (F0 m pc ls rest) q9)
    (kk : ∀ (v : Int32), out = .inr v → ∀ (H1 : Heap) (locs1 : List Loc), WH G b μ H1 → va_S (fb b) s.heap H1 locs1 → W p l e R s m args below meth c H1 locs1 (cells + 2) (slots + 12) Q (F0 m (pc + 3) ls (.int v :: rest))) : W p l e R s m args below meth c H locs cells slots Q (F0 m pc ls (.int a1 :: .ref (b + 0) :: rest)) := by
  cases out with
  | inl q => exact fx_callV (As := [.int a1]) (ci := 11) (c_X11_firstDot hlT h) ⟨rfl, rfl⟩ rfl (ky_lt kyf_0 (by decide)) (wF_11 kyf_0) q_1240 q_1241 q_1 q_1242 rfl ⟨by decide +kernel, by decide +kernel, (show (parseMethodDescriptor yX11_firstDot.desc).map (fun d => d.parameters.length) = some 1 by decide +kernel)⟩ F hl hR hW hS hsz hrest rfl hdg (fun z hz => by obtain rfl := Option.some.inj hz; exact kx _ rfl) (fun z hz => nomatch (show (none : Option (Mm × Option Value)) = some z from hz))
  | inr v => exact fx_callV (As := [.int a1]) (ci := 11) (c_X11_firstDot hlT h) ⟨rfl, rfl⟩ rfl (ky_lt kyf_0 (by decide)) (wF_11 kyf_0) q_1240 q_1241 q_1 q_1242 rfl ⟨by decide +kernel, by decide +kernel, (show (parseMethodDescriptor yX11_firstDot.desc).map (fun d => d.parameters.length) = some 1 by decide +kernel)⟩ F hl hR hW hS hsz hrest rfl hdg (fun z hz => nomatch (show (none : Option (Nat × Mm)) = some z from hz)) (fun z hz => by obtain rfl := Option.some.inj hz; exact kk _ rfl)
set_option maxHeartbeats 4000000 in
set_option maxRecDepth 100000 in
theorem wk_X11_dotsAt_19 {n : Nat} {a1 : Int32} {μ : Mm} {out : (Nat ⊕ Int32)} (F : FX G b RX11 cX11_dotsAt 4 p s m args meth c) (hr : meth.sig.returnType = some .int) (hlT : l.stackTraces = false) (hnt : ∀ x ∈ c.exceptionTable.toList, False) : ∀ (f : Nat) (x2 : Int32) (x3 : Int32) (H : Heap) (locs : List Loc) (ls : Array Slot), sh_X11_dotsAt_19 n a1 μ f x2 x3 = some out → WH G b μ H → va_S (fb b) s.heap H locs → lv_has ls 4 [(0, .ref (b + 0)), (1, .int a1), (2, .int x2), (3, .int x3)] → W p l e ({ frames := 6, cells := 1, slots := 6, locals := 90 } : Room) s m args below meth c H locs 0 0 (vx_MQ below (QN G b (Sum.elim (fun _ => none) (fun (v : Int32) => some (μ, (some (.int v)))) out)) (XN G b (Sum.elim (fun (q : Nat) => some (q, μ)) (fun _ => none) out)) args s 1 6 (fb b)) (F0 m 19 ls []) := by
  have hx := F.1
  have hb := F.2.1
  intro f
  induction f with
  | zero =>
    intro _ _ _ _ _ h
    rw [sh_X11_dotsAt_19] at h
    cases h
  | succ f ih =>
    intro x2 x3  H locs ls h hW hS hl
    rw [sh_X11_dotsAt_19] at h
    have hk19 := ih
    refine lv_iload_n hx hb dX11_dotsAt_19 rfl (lv_at hl 3 rfl) ?_
    refine lv_aload_n hx hb dX11_dotsAt_20 rfl (lv_at hl 0 rfl) ?_
    refine fl_get11 (v := .ref (b + 10)) kyf_0 F hW 5 (by decide) q_537 rfl rfl dX11_dotsAt_21 ?_
    refine fl_get6 (v := .ref (b + 11)) kyf_10 F hW 0 (by decide) q_212 rfl rfl dX11_dotsAt_24 ?_
    refine fl_get0 (v := .int (μ.1 11 2)) kyf_11 F hW 2 (by decide) q_165 rfl rfl dX11_dotsAt_27 ?_
    refine lv_icmp_ge (tgt := 72) hx hb dX11_dotsAt_30 (by decide) (fun cc => ?_) (fun cc => ?_)
    · replace h := (if_pos cc).symm.trans h
      refine lv_iload_n hx hb dX11_dotsAt_72 rfl (lv_at hl 2 rfl) ?_
      cases h
      exact x_int F hr (Nat.le_of_ble_eq_true rfl) (Nat.le_of_ble_eq_true rfl) hW hS dX11_dotsAt_73
    · replace h := (if_neg cc).symm.trans h
      refine lv_aload_n hx hb dX11_dotsAt_33 rfl (lv_at hl 0 rfl) ?_
      refine fl_get11 (v := .ref (b + 38)) kyf_0 F hW 9 (by decide) q_541 rfl rfl dX11_dotsAt_34 ?_
      refine fl_get1 (v := .ref (b + 61)) kyf_38 F hW 2 (by decide) q_365 rfl rfl dX11_dotsAt_37 ?_
      refine lv_iload_n hx hb dX11_dotsAt_40 rfl (lv_at hl 3 rfl) ?_
      refine lv_iload_n hx hb dX11_dotsAt_41 rfl (lv_at hl 1 rfl) ?_
      refine lv_aload_n hx hb dX11_dotsAt_42 rfl (lv_at hl 0 rfl) ?_
      refine fl_get11 (v := .ref (b + 10)) kyf_0 F hW 5 (by decide) q_537 rfl rfl dX11_dotsAt_43 ?_
      refine fl_get6 (v := .ref (b + 11)) kyf_10 F hW 0 (by decide) q_212 rfl rfl dX11_dotsAt_46 ?_
      refine fl_get0 (v := .ref (b + 12)) kyf_11 F hW 0 (by decide) q_152 rfl rfl dX11_dotsAt_49 ?_
      refine lv_bipush (v := (7 : Int32)) hx hb dX11_dotsAt_52 (by decide) ?_
      obtain ⟨r1, qr1, h⟩ := ob h
      refine k_X5_at F ok_12 qr1 q_883 ⟨Nat.le_of_ble_eq_true rfl, Nat.le_of_ble_eq_true rfl, Nat.le_of_ble_eq_true rfl, Nat.le_of_ble_eq_true rfl⟩ hW hS hl.1 (Nat.le_of_ble_eq_true rfl) dX11_dotsAt_54 (fun H locs hW hS => ?_)
      obtain ⟨r2, qr2, h⟩ := ob h
      refine k_X7_hasDotAt F ok_61 qr2 q_1251 ⟨Nat.le_of_ble_eq_true rfl, Nat.le_of_ble_eq_true rfl, Nat.le_of_ble_eq_true rfl, Nat.le_of_ble_eq_true rfl⟩ hW hS hl.1 (Nat.le_of_ble_eq_true rfl) dX11_dotsAt_57 (fun H locs hW hS => ?_)
      refine lv_if_eq (tgt := 66) hx hb dX11_dotsAt_60 (by decide) (fun cc => ?_) (fun cc => ?_)
      · replace h := (if_pos cc).symm.trans h
        refine lv_iinc (v := (x3 + (1 : Int32))) (lv' := [(3, .int (x3 + (1 : Int32))), (0, .ref (b + 0)), (1, .int a1), (2, .int x2)]) hx hb dX11_dotsAt_66 hl (k := 3) rfl rfl (by decide) rfl (fun ls hl => ?_)
        refine lv_goto (tgt := 19) hx hb dX11_dotsAt_69 (by decide) ?_
        exact hk19 _ _ _ _ _ h hW hS (lv_sub hl [1, 2, 3, 0] rfl)
      · replace h := (if_neg cc).symm.trans h
        refine lv_iinc (v := (x2 + (1 : Int32))) (lv' := [(2, .int (x2 + (1 : Int32))), (0, .ref (b + 0)), (1, .int a1), (3, .int x3)]) hx hb dX11_dotsAt_63 hl (k := 2) rfl rfl (by decide) rfl (fun ls hl => ?_)
        refine lv_iinc (v := (x3 + (1 : Int32))) (lv' := [(3, .int (x3 + (1 : Int32))), (2, .int (x2 + (1 : Int32))), (0, .ref (b + 0)), (1, .int a1)]) hx hb dX11_dotsAt_66 hl (k := 3) rfl rfl (by decide) rfl (fun ls hl => ?_)
        refine lv_goto (tgt := 19) hx hb dX11_dotsAt_69 (by decide) ?_
        exact hk19 _ _ _ _ _ h hW hS (lv_sub hl [2, 3, 1, 0] rfl)
set_option maxHeartbeats 4000000 in
set_option maxRecDepth 100000 in
theorem wk_X11_dotsAt {n : Nat} {a1 : Int32} {μ : Mm} {out : (Nat ⊕ Int32)} (F : FX G b RX11 cX11_dotsAt 4 p s m args meth c) (hr : meth.sig.returnType = some .int) (hlT : l.stackTraces = false) (hnt : ∀ x ∈ c.exceptionTable.toList, False) (h : sh_X11_dotsAt n a1 μ = some out) (hW : WH G b μ H) (hS : va_S (fb b) s.heap H locs) (hl : lv_has ls 4 [(0, .ref (b + 0)), (1, .int a1)]) : W p l e ({ frames := 6, cells := 1, slots := 6, locals := 90 } : Room) s m args below meth c H locs 0 0 (vx_MQ below (QN G b (Sum.elim (fun _ => none) (fun (v : Int32) => some (μ, (some (.int v)))) out)) (XN G b (Sum.elim (fun (q : Nat) => some (q, μ)) (fun _ => none) out)) args s 1 6 (fb b)) (F0 m 0 ls []) := by
  have hx := F.1
  have hb := F.2.1
  unfold sh_X11_dotsAt at h
  refine lv_iload_n hx hb dX11_dotsAt_0 rfl (lv_at hl 1 rfl) ?_
  refine lv_if_ge (tgt := 15) hx hb dX11_dotsAt_1 (by decide) (fun cc => ?_) (fun cc => ?_)
  · replace h := (if_pos cc).symm.trans h
    refine lv_iconst (v := (0 : Int32)) hx hb dX11_dotsAt_15 (by decide) ?_
    refine lv_istore_n (lv' := [(2, .int (0 : Int32)), (0, .ref (b + 0)), (1, .int a1)]) hx hb dX11_dotsAt_16 rfl hl (by decide) rfl (fun ls hl => ?_)
    refine lv_iconst (v := (0 : Int32)) hx hb dX11_dotsAt_17 (by decide) ?_
    refine lv_istore_n (lv' := [(3, .int (0 : Int32)), (2, .int (0 : Int32)), (0, .ref (b + 0)), (1, .int a1)]) hx hb dX11_dotsAt_18 rfl hl (by decide) rfl (fun ls hl => ?_)
    exact wk_X11_dotsAt_19 F hr hlT hnt n _ _ _ _ _ h hW hS (lv_sub hl [2, 3, 1, 0] rfl)
  · replace h := (if_neg cc).symm.trans h
    cases h
    exact x_throwW (ec := 1) F hlT hnt q_1064 q_19 (is := 280) (text := "no such unit") (t := 24) (by decide +kernel) (by decide +kernel) (hat_1 F.2.2.2.2.1 F.2.2.2.2.2.2.1) hgd_1 hl.1 dX11_dotsAt_4 dX11_dotsAt_7 dX11_dotsAt_8 dX11_dotsAt_11 dX11_dotsAt_14 ⟨Nat.le_of_ble_eq_true rfl, Nat.le_of_ble_eq_true rfl, Nat.le_of_ble_eq_true rfl, Nat.le_of_ble_eq_true rfl⟩ (Nat.le_of_ble_eq_true rfl) (Nat.le_of_ble_eq_true rfl) hW hS
set_option maxHeartbeats 4000000 in
set_option maxRecDepth 100000 in
theorem c_X11_dotsAt {l : Launch} (hlT : l.stackTraces = false) {G : Gt} {b : Nat} {n : Nat} {a1 : Int32} {μ : Mm} {out : (Nat ⊕ Int32)} (h : sh_X11_dotsAt n a1 μ = some out) : vx_Met l yX11_dotsAt (wU (Cond.code yX11_dotsAt cX11_dotsAt 4 (some .int))) ({ frames := 6, cells := 1, slots := 6, locals := 90 } : Room) (PcW G b μ [.ref (b + 0), .int a1]) (QN G b (Sum.elim (fun _ => none) (fun (v : Int32) => some (μ, (some (.int v)))) out)) (XN G b (Sum.elim (fun (q : Nat) => some (q, μ)) (fun _ => none) out)) 1 6 (fb b) :=
  xmet_of [.ref (b + 0), .int a1] (by decide) (Nat.le_of_ble_eq_true rfl) (fun F hr hnt hW hl => wk_X11_dotsAt F hr hlT hnt h hW va_S.rf hl)
set_option maxHeartbeats 4000000 in
set_option maxRecDepth 100000 in
theorem k_X11_dotsAt {own : String} {nL : Nat} (F : FX G b own cc nL p s m args meth c) (hlT : l.stackTraces = false) {n : Nat} {a1 : Int32} {μ : Mm} {out : (Nat ⊕ Int32)} (h : sh_X11_dotsAt n a1 μ = some out) {index : Nat} (hl : Cond.methodLink own index yX11_dotsAt ∈ TBG) (hR : 6 + 1 ≤ R.frames ∧ 8 + (4 + 11) + 90 ≤ R.locals ∧ cells + 1 ≤ R.cells ∧ slots + 6 ≤ R.slots) (hW : WH G b μ H) (hS : va_S (fb b) s.heap H locs) (hsz : ls.size = nL) (hrest : (rest.map fun v => v.category).sum ≤ 8) (hdg : decode cc pc = .ok (.invokevirtual index, 3))
    (kx : ∀ (q : Nat), out = .inl q → ∀ (ce : Cell) (q9 : Addr) (H1 : Heap) (locs1 : List Loc), WH G b μ H1 → va_S (fb b) s.heap H1 locs1 → H1[q9]? = some ce → ce.vm = .none → s.vm.findClass (exN q) = some ce.cls → vx_W p l e R s m args below meth c H1 locs1 (cells + 1) (slots + 6) Q (F0 m pc ls rest) q9)
    (kk : ∀ (v : Int32), out = .inr v → ∀ (H1 : Heap) (locs1 : List Loc), WH G b μ H1 → va_S (fb b) s.heap H1 locs1 → W p l e R s m args below meth c H1 locs1 (cells + 1) (slots + 6) Q (F0 m (pc + 3) ls (.int v :: rest))) : W p l e R s m args below meth c H locs cells slots Q (F0 m pc ls (.int a1 :: .ref (b + 0) :: rest)) := by
  cases out with
  | inl q => exact fx_callV (As := [.int a1]) (ci := 11) (c_X11_dotsAt hlT h) ⟨rfl, rfl⟩ rfl (ky_lt kyf_0 (by decide)) (wF_11 kyf_0) q_1247 q_1248 q_1 q_1249 rfl ⟨by decide +kernel, by decide +kernel, (show (parseMethodDescriptor yX11_dotsAt.desc).map (fun d => d.parameters.length) = some 1 by decide +kernel)⟩ F hl hR hW hS hsz hrest rfl hdg (fun z hz => by obtain rfl := Option.some.inj hz; exact kx _ rfl) (fun z hz => nomatch (show (none : Option (Mm × Option Value)) = some z from hz))
  | inr v => exact fx_callV (As := [.int a1]) (ci := 11) (c_X11_dotsAt hlT h) ⟨rfl, rfl⟩ rfl (ky_lt kyf_0 (by decide)) (wF_11 kyf_0) q_1247 q_1248 q_1 q_1249 rfl ⟨by decide +kernel, by decide +kernel, (show (parseMethodDescriptor yX11_dotsAt.desc).map (fun d => d.parameters.length) = some 1 by decide +kernel)⟩ F hl hR hW hS hsz hrest rfl hdg (fun z hz => nomatch (show (none : Option (Nat × Mm)) = some z from hz)) (fun z hz => by obtain rfl := Option.some.inj hz; exact kk _ rfl)
set_option maxHeartbeats 4000000 in
set_option maxRecDepth 100000 in
theorem wk_X11_isOverfull {a1 : Int32} {μ : Mm} {out : (Nat ⊕ Int32)} (F : FX G b RX11 cX11_isOverfull 2 p s m args meth c) (hr : meth.sig.returnType = some .boolean) (hlT : l.stackTraces = false) (hnt : ∀ x ∈ c.exceptionTable.toList, False) (h : sh_X11_isOverfull a1 μ = some out) (hW : WH G b μ H) (hS : va_S (fb b) s.heap H locs) (hl : lv_has ls 2 [(0, .ref (b + 0)), (1, .int a1)]) : W p l e ({ frames := 7, cells := 1, slots := 6, locals := 111 } : Room) s m args below meth c H locs 0 0 (vx_MQ below (QN G b (Sum.elim (fun _ => none) (fun (v : Int32) => some (μ, (some (.int v)))) out)) (XN G b (Sum.elim (fun (q : Nat) => some (q, μ)) (fun _ => none) out)) args s 1 6 (fb b)) (F0 m 0 ls []) := by
  have hx := F.1
  have hb := F.2.1
  unfold sh_X11_isOverfull at h
  refine lv_aload_n hx hb dX11_isOverfull_0 rfl (lv_at hl 0 rfl) ?_
  refine lv_iload_n hx hb dX11_isOverfull_1 rfl (lv_at hl 1 rfl) ?_
  obtain ⟨r1, qr1, h⟩ := ob h
  refine k_X11_checkLine F hlT qr1 q_1200 ⟨Nat.le_of_ble_eq_true rfl, Nat.le_of_ble_eq_true rfl, Nat.le_of_ble_eq_true rfl, Nat.le_of_ble_eq_true rfl⟩ hW hS hl.1 (Nat.le_of_ble_eq_true rfl) dX11_isOverfull_2 (fun ec he ce q9 H locs hW hS hc1 hc2 hc3 => ?_) (fun v2 he H locs hW hS => ?_)
  · subst he
    cases h
    exact x_out F hnt (Nat.le_of_ble_eq_true rfl) (Nat.le_of_ble_eq_true rfl) hW hS hc1 hc2 hc3
  subst he
  replace h := (Sum.elim_inr _ _ _).symm.trans h
  refine lv_aload_n hx hb dX11_isOverfull_5 rfl (lv_at hl 0 rfl) ?_
  refine fl_get11 (v := .ref (b + 38)) kyf_0 F hW 9 (by decide) q_541 rfl rfl dX11_isOverfull_6 ?_
  refine fl_get1 (v := .ref (b + 61)) kyf_38 F hW 2 (by decide) q_365 rfl rfl dX11_isOverfull_9 ?_
  refine lv_iload_n hx hb dX11_isOverfull_12 rfl (lv_at hl 1 rfl) ?_
  obtain ⟨r3, qr3, h⟩ := ob h
  refine k_X7_isBeyondLimit F ok_61 qr3 q_1262 ⟨Nat.le_of_ble_eq_true rfl, Nat.le_of_ble_eq_true rfl, Nat.le_of_ble_eq_true rfl, Nat.le_of_ble_eq_true rfl⟩ hW hS hl.1 (Nat.le_of_ble_eq_true rfl) dX11_isOverfull_13 (fun H locs hW hS => ?_)
  obtain ⟨v4, qv4, h⟩ := ob h
  obtain ⟨zv4, qv4⟩ := isB_some qv4
  rw [qv4] at zv4
  rw [qv4]
  cases h
  exact x_bool F hr zv4 (Nat.le_of_ble_eq_true rfl) (Nat.le_of_ble_eq_true rfl) hW hS dX11_isOverfull_16
set_option maxHeartbeats 4000000 in
set_option maxRecDepth 100000 in
theorem c_X11_isOverfull {l : Launch} (hlT : l.stackTraces = false) {G : Gt} {b : Nat} {a1 : Int32} {μ : Mm} {out : (Nat ⊕ Int32)} (h : sh_X11_isOverfull a1 μ = some out) : vx_Met l yX11_isOverfull (wU (Cond.code yX11_isOverfull cX11_isOverfull 2 (some .boolean))) ({ frames := 7, cells := 1, slots := 6, locals := 111 } : Room) (PcW G b μ [.ref (b + 0), .int a1]) (QN G b (Sum.elim (fun _ => none) (fun (v : Int32) => some (μ, (some (.int v)))) out)) (XN G b (Sum.elim (fun (q : Nat) => some (q, μ)) (fun _ => none) out)) 1 6 (fb b) :=
  xmet_of [.ref (b + 0), .int a1] (by decide) (Nat.le_of_ble_eq_true rfl) (fun F hr hnt hW hl => wk_X11_isOverfull F hr hlT hnt h hW va_S.rf hl)
set_option maxHeartbeats 4000000 in
set_option maxRecDepth 100000 in
theorem k_X11_isOverfull {own : String} {nL : Nat} (F : FX G b own cc nL p s m args meth c) (hlT : l.stackTraces = false) {a1 : Int32} {μ : Mm} {out : (Nat ⊕ Int32)} (h : sh_X11_isOverfull a1 μ = some out) {index : Nat} (hl : Cond.methodLink own index yX11_isOverfull ∈ TBG) (hR : 7 + 1 ≤ R.frames ∧ 8 + (2 + 11) + 111 ≤ R.locals ∧ cells + 1 ≤ R.cells ∧ slots + 6 ≤ R.slots) (hW : WH G b μ H) (hS : va_S (fb b) s.heap H locs) (hsz : ls.size = nL) (hrest : (rest.map fun v => v.category).sum ≤ 8) (hdg : decode cc pc = .ok (.invokevirtual index, 3))
    (kx : ∀ (q : Nat), out = .inl q → ∀ (ce : Cell) (q9 : Addr) (H1 : Heap) (locs1 : List Loc), WH G b μ H1 → va_S (fb b) s.heap H1 locs1 → H1[q9]? = some ce → ce.vm = .none → s.vm.findClass (exN q) = some ce.cls → vx_W p l e R s m args below meth c H1 locs1 (cells + 1) (slots + 6) Q (F0 m pc ls rest) q9)
    (kk : ∀ (v : Int32), out = .inr v → ∀ (H1 : Heap) (locs1 : List Loc), WH G b μ H1 → va_S (fb b) s.heap H1 locs1 → W p l e R s m args below meth c H1 locs1 (cells + 1) (slots + 6) Q (F0 m (pc + 3) ls (.int v :: rest))) : W p l e R s m args below meth c H locs cells slots Q (F0 m pc ls (.int a1 :: .ref (b + 0) :: rest)) := by
  cases out with
  | inl q => exact fx_callV (As := [.int a1]) (ci := 11) (c_X11_isOverfull hlT h) ⟨rfl, rfl⟩ rfl (ky_lt kyf_0 (by decide)) (wF_11 kyf_0) q_1259 q_1260 q_1 q_1261 rfl ⟨by decide +kernel, by decide +kernel, (show (parseMethodDescriptor yX11_isOverfull.desc).map (fun d => d.parameters.length) = some 1 by decide +kernel)⟩ F hl hR hW hS hsz hrest rfl hdg (fun z hz => by obtain rfl := Option.some.inj hz; exact kx _ rfl) (fun z hz => nomatch (show (none : Option (Mm × Option Value)) = some z from hz))
  | inr v => exact fx_callV (As := [.int a1]) (ci := 11) (c_X11_isOverfull hlT h) ⟨rfl, rfl⟩ rfl (ky_lt kyf_0 (by decide)) (wF_11 kyf_0) q_1259 q_1260 q_1 q_1261 rfl ⟨by decide +kernel, by decide +kernel, (show (parseMethodDescriptor yX11_isOverfull.desc).map (fun d => d.parameters.length) = some 1 by decide +kernel)⟩ F hl hR hW hS hsz hrest rfl hdg (fun z hz => nomatch (show (none : Option (Nat × Mm)) = some z from hz)) (fun z hz => by obtain rfl := Option.some.inj hz; exact kk _ rfl)
set_option maxHeartbeats 4000000 in
set_option maxRecDepth 100000 in
theorem wk_X11_overfullCount {n : Nat} {μ : Mm} {out : Int32} (F : FX G b RX11 cX11_overfullCount 1 p s m args meth c) (hr : meth.sig.returnType = some .int) (h : sh_X11_overfullCount n  μ = some out) (hW : WH G b μ H) (hS : va_S (fb b) s.heap H locs) (hl : lv_has ls 1 [(0, .ref (b + 0))]) : W p l e ({ frames := 3, cells := 0, slots := 0, locals := 64 } : Room) s m args below meth c H locs 0 0 (MQ below (QW G b μ (some (.int out))) args s 0 0 (fb b)) (F0 m 0 ls []) := by
  have hx := F.1
  have hb := F.2.1
  unfold sh_X11_overfullCount at h
  refine lv_aload_n hx hb dX11_overfullCount_0 rfl (lv_at hl 0 rfl) ?_
  refine fl_get11 (v := .ref (b + 38)) kyf_0 F hW 9 (by decide) q_541 rfl rfl dX11_overfullCount_1 ?_
  refine fl_get1 (v := .ref (b + 61)) kyf_38 F hW 2 (by decide) q_365 rfl rfl dX11_overfullCount_4 ?_
  obtain ⟨r1, qr1, h⟩ := ob h
  refine k_X7_linesBeyondLimit F ok_61 qr1 q_805 ⟨Nat.le_of_ble_eq_true rfl, Nat.le_of_ble_eq_true rfl, Nat.le_of_ble_eq_true rfl, Nat.le_of_ble_eq_true rfl⟩ hW hS hl.1 (Nat.le_of_ble_eq_true rfl) dX11_overfullCount_7 (fun H locs hW hS => ?_)
  cases h
  exact r_int F hr hW hS dX11_overfullCount_10
set_option maxHeartbeats 4000000 in
set_option maxRecDepth 100000 in
theorem c_X11_overfullCount {l : Launch} {G : Gt} {b : Nat} {n : Nat} {μ : Mm} {out : Int32} (h : sh_X11_overfullCount n  μ = some out) : Met l yX11_overfullCount (wU (Cond.code yX11_overfullCount cX11_overfullCount 1 (some .int))) ({ frames := 3, cells := 0, slots := 0, locals := 64 } : Room) (PcW G b μ [.ref (b + 0)]) (QW G b μ (some (.int out))) 0 0 (fb b) :=
  met_of [.ref (b + 0)] (by decide) (Nat.le_of_ble_eq_true rfl) (fun F hr hW hl => wk_X11_overfullCount F hr h hW va_S.rf hl)
set_option maxHeartbeats 4000000 in
set_option maxRecDepth 100000 in
theorem k_X11_overfullCount {own : String} {nL : Nat} (F : FX G b own cc nL p s m args meth c) {n : Nat} {μ : Mm} {out : Int32} (h : sh_X11_overfullCount n  μ = some out) {index : Nat} (hl : Cond.methodLink own index yX11_overfullCount ∈ TBG) (hR : 3 + 1 ≤ R.frames ∧ 8 + (1 + 11) + 64 ≤ R.locals ∧ cells ≤ R.cells ∧ slots ≤ R.slots) (hW : WH G b μ H) (hS : va_S (fb b) s.heap H locs) (hsz : ls.size = nL) (hrest : (rest.map fun v => v.category).sum ≤ 8) (hdg : decode cc pc = .ok (.invokevirtual index, 3))
    (kk : ∀ (H1 : Heap) (locs1 : List Loc), WH G b μ H1 → va_S (fb b) s.heap H1 locs1 → W p l e R s m args below meth c H1 locs1 cells slots Q (F0 m (pc + 3) ls (.int out :: rest))) : W p l e R s m args below meth c H locs cells slots Q (F0 m pc ls (.ref (b + 0) :: rest)) :=
  f_callV (As := []) (ci := 11) (c_X11_overfullCount h) ⟨rfl, rfl⟩ rfl (ky_lt kyf_0 (by decide)) (wF_11 kyf_0) q_802 q_803 q_1 q_804 rfl ⟨by decide +kernel, by decide +kernel, (show (parseMethodDescriptor yX11_overfullCount.desc).map (fun d => d.parameters.length) = some 0 by decide +kernel)⟩ F hl hR hW hS hsz hrest rfl hdg kk
set_option maxHeartbeats 4000000 in
set_option maxRecDepth 100000 in
theorem wk_X11_rounds {μ : Mm} {out : Int32} (F : FX G b RX11 cX11_rounds 1 p s m args meth c) (hr : meth.sig.returnType = some .int) (h : sh_X11_rounds  μ = some out) (hW : WH G b μ H) (hS : va_S (fb b) s.heap H locs) (hl : lv_has ls 1 [(0, .ref (b + 0))]) : W p l e ({ frames := 0, cells := 0, slots := 0, locals := 0 } : Room) s m args below meth c H locs 0 0 (MQ below (QW G b μ (some (.int out))) args s 0 0 (fb b)) (F0 m 0 ls []) := by
  have hx := F.1
  have hb := F.2.1
  unfold sh_X11_rounds at h
  refine lv_aload_n hx hb dX11_rounds_0 rfl (lv_at hl 0 rfl) ?_
  refine fl_get11 (v := .ref (b + 38)) kyf_0 F hW 9 (by decide) q_541 rfl rfl dX11_rounds_1 ?_
  refine fl_get1 (v := .int (μ.1 38 4)) kyf_38 F hW 4 (by decide) q_369 rfl rfl dX11_rounds_4 ?_
  cases h
  exact r_int F hr hW hS dX11_rounds_7
set_option maxHeartbeats 4000000 in
set_option maxRecDepth 100000 in
theorem c_X11_rounds {l : Launch} {G : Gt} {b : Nat} {μ : Mm} {out : Int32} (h : sh_X11_rounds  μ = some out) : Met l yX11_rounds (wU (Cond.code yX11_rounds cX11_rounds 1 (some .int))) ({ frames := 0, cells := 0, slots := 0, locals := 0 } : Room) (PcW G b μ [.ref (b + 0)]) (QW G b μ (some (.int out))) 0 0 (fb b) :=
  met_of [.ref (b + 0)] (by decide) (Nat.le_of_ble_eq_true rfl) (fun F hr hW hl => wk_X11_rounds F hr h hW va_S.rf hl)
set_option maxHeartbeats 4000000 in
set_option maxRecDepth 100000 in
theorem k_X11_rounds {own : String} {nL : Nat} (F : FX G b own cc nL p s m args meth c) {μ : Mm} {out : Int32} (h : sh_X11_rounds  μ = some out) {index : Nat} (hl : Cond.methodLink own index yX11_rounds ∈ TBG) (hR : 0 + 1 ≤ R.frames ∧ 8 + (1 + 11) + 0 ≤ R.locals ∧ cells ≤ R.cells ∧ slots ≤ R.slots) (hW : WH G b μ H) (hS : va_S (fb b) s.heap H locs) (hsz : ls.size = nL) (hrest : (rest.map fun v => v.category).sum ≤ 8) (hdg : decode cc pc = .ok (.invokevirtual index, 3))
    (kk : ∀ (H1 : Heap) (locs1 : List Loc), WH G b μ H1 → va_S (fb b) s.heap H1 locs1 → W p l e R s m args below meth c H1 locs1 cells slots Q (F0 m (pc + 3) ls (.int out :: rest))) : W p l e R s m args below meth c H locs cells slots Q (F0 m pc ls (.ref (b + 0) :: rest)) :=
  f_callV (As := []) (ci := 11) (c_X11_rounds h) ⟨rfl, rfl⟩ rfl (ky_lt kyf_0 (by decide)) (wF_11 kyf_0) q_814 q_815 q_1 q_816 rfl ⟨by decide +kernel, by decide +kernel, (show (parseMethodDescriptor yX11_rounds.desc).map (fun d => d.parameters.length) = some 0 by decide +kernel)⟩ F hl hR hW hS hsz hrest rfl hdg kk
set_option maxHeartbeats 4000000 in
set_option maxRecDepth 100000 in
theorem wk_X11_collides {n : Nat} {a1 : Int32} {μ : Mm} {out : (Nat ⊕ Int32)} (F : FX G b RX11 cX11_collides 2 p s m args meth c) (hr : meth.sig.returnType = some .boolean) (hlT : l.stackTraces = false) (hnt : ∀ x ∈ c.exceptionTable.toList, False) (h : sh_X11_collides n a1 μ = some out) (hW : WH G b μ H) (hS : va_S (fb b) s.heap H locs) (hl : lv_has ls 2 [(0, .ref (b + 0)), (1, .int a1)]) : W p l e ({ frames := 7, cells := 1, slots := 6, locals := 112 } : Room) s m args below meth c H locs 0 0 (vx_MQ below (QN G b (Sum.elim (fun _ => none) (fun (v : Int32) => some (μ, (some (.int v)))) out)) (XN G b (Sum.elim (fun (q : Nat) => some (q, μ)) (fun _ => none) out)) args s 1 6 (fb b)) (F0 m 0 ls []) := by
  have hx := F.1
  have hb := F.2.1
  unfold sh_X11_collides at h
  refine lv_aload_n hx hb dX11_collides_0 rfl (lv_at hl 0 rfl) ?_
  refine lv_iload_n hx hb dX11_collides_1 rfl (lv_at hl 1 rfl) ?_
  obtain ⟨r1, qr1, h⟩ := ob h
  refine k_X11_checkLine F hlT qr1 q_1200 ⟨Nat.le_of_ble_eq_true rfl, Nat.le_of_ble_eq_true rfl, Nat.le_of_ble_eq_true rfl, Nat.le_of_ble_eq_true rfl⟩ hW hS hl.1 (Nat.le_of_ble_eq_true rfl) dX11_collides_2 (fun ec he ce q9 H locs hW hS hc1 hc2 hc3 => ?_) (fun v2 he H locs hW hS => ?_)
  · subst he
    cases h
    exact x_out F hnt (Nat.le_of_ble_eq_true rfl) (Nat.le_of_ble_eq_true rfl) hW hS hc1 hc2 hc3
  subst he
  replace h := (Sum.elim_inr _ _ _).symm.trans h
  refine lv_aload_n hx hb dX11_collides_5 rfl (lv_at hl 0 rfl) ?_
  refine fl_get11 (v := .ref (b + 38)) kyf_0 F hW 9 (by decide) q_541 rfl rfl dX11_collides_6 ?_
  refine lv_aload_n hx hb dX11_collides_9 rfl (lv_at hl 0 rfl) ?_
  refine fl_get11 (v := .ref (b + 10)) kyf_0 F hW 5 (by decide) q_537 rfl rfl dX11_collides_10 ?_
  refine fl_get6 (v := .ref (b + 11)) kyf_10 F hW 0 (by decide) q_212 rfl rfl dX11_collides_13 ?_
  refine lv_iload_n hx hb dX11_collides_16 rfl (lv_at hl 1 rfl) ?_
  obtain ⟨r3, qr3, h⟩ := ob h
  refine k_X1_touchesNext F ok_38 ok_11 qr3 q_821 ⟨Nat.le_of_ble_eq_true rfl, Nat.le_of_ble_eq_true rfl, Nat.le_of_ble_eq_true rfl, Nat.le_of_ble_eq_true rfl⟩ hW hS hl.1 (Nat.le_of_ble_eq_true rfl) dX11_collides_17 (fun H locs hW hS => ?_)
  obtain ⟨v4, qv4, h⟩ := ob h
  obtain ⟨zv4, qv4⟩ := isB_some qv4
  rw [qv4] at zv4
  rw [qv4]
  cases h
  exact x_bool F hr zv4 (Nat.le_of_ble_eq_true rfl) (Nat.le_of_ble_eq_true rfl) hW hS dX11_collides_20
set_option maxHeartbeats 4000000 in
set_option maxRecDepth 100000 in
theorem c_X11_collides {l : Launch} (hlT : l.stackTraces = false) {G : Gt} {b : Nat} {n : Nat} {a1 : Int32} {μ : Mm} {out : (Nat ⊕ Int32)} (h : sh_X11_collides n a1 μ = some out) : vx_Met l yX11_collides (wU (Cond.code yX11_collides cX11_collides 2 (some .boolean))) ({ frames := 7, cells := 1, slots := 6, locals := 112 } : Room) (PcW G b μ [.ref (b + 0), .int a1]) (QN G b (Sum.elim (fun _ => none) (fun (v : Int32) => some (μ, (some (.int v)))) out)) (XN G b (Sum.elim (fun (q : Nat) => some (q, μ)) (fun _ => none) out)) 1 6 (fb b) :=
  xmet_of [.ref (b + 0), .int a1] (by decide) (Nat.le_of_ble_eq_true rfl) (fun F hr hnt hW hl => wk_X11_collides F hr hlT hnt h hW va_S.rf hl)
set_option maxHeartbeats 4000000 in
set_option maxRecDepth 100000 in
theorem k_X11_collides {own : String} {nL : Nat} (F : FX G b own cc nL p s m args meth c) (hlT : l.stackTraces = false) {n : Nat} {a1 : Int32} {μ : Mm} {out : (Nat ⊕ Int32)} (h : sh_X11_collides n a1 μ = some out) {index : Nat} (hl : Cond.methodLink own index yX11_collides ∈ TBG) (hR : 7 + 1 ≤ R.frames ∧ 8 + (2 + 11) + 112 ≤ R.locals ∧ cells + 1 ≤ R.cells ∧ slots + 6 ≤ R.slots) (hW : WH G b μ H) (hS : va_S (fb b) s.heap H locs) (hsz : ls.size = nL) (hrest : (rest.map fun v => v.category).sum ≤ 8) (hdg : decode cc pc = .ok (.invokevirtual index, 3))
    (kx : ∀ (q : Nat), out = .inl q → ∀ (ce : Cell) (q9 : Addr) (H1 : Heap) (locs1 : List Loc), WH G b μ H1 → va_S (fb b) s.heap H1 locs1 → H1[q9]? = some ce → ce.vm = .none → s.vm.findClass (exN q) = some ce.cls → vx_W p l e R s m args below meth c H1 locs1 (cells + 1) (slots + 6) Q (F0 m pc ls rest) q9)
    (kk : ∀ (v : Int32), out = .inr v → ∀ (H1 : Heap) (locs1 : List Loc), WH G b μ H1 → va_S (fb b) s.heap H1 locs1 → W p l e R s m args below meth c H1 locs1 (cells + 1) (slots + 6) Q (F0 m (pc + 3) ls (.int v :: rest))) : W p l e R s m args below meth c H locs cells slots Q (F0 m pc ls (.int a1 :: .ref (b + 0) :: rest)) := by
  cases out with
  | inl q => exact fx_callV (As := [.int a1]) (ci := 11) (c_X11_collides hlT h) ⟨rfl, rfl⟩ rfl (ky_lt kyf_0 (by decide)) (wF_11 kyf_0) q_1267 q_1268 q_1 q_1269 rfl ⟨by decide +kernel, by decide +kernel, (show (parseMethodDescriptor yX11_collides.desc).map (fun d => d.parameters.length) = some 1 by decide +kernel)⟩ F hl hR hW hS hsz hrest rfl hdg (fun z hz => by obtain rfl := Option.some.inj hz; exact kx _ rfl) (fun z hz => nomatch (show (none : Option (Mm × Option Value)) = some z from hz))
  | inr v => exact fx_callV (As := [.int a1]) (ci := 11) (c_X11_collides hlT h) ⟨rfl, rfl⟩ rfl (ky_lt kyf_0 (by decide)) (wF_11 kyf_0) q_1267 q_1268 q_1 q_1269 rfl ⟨by decide +kernel, by decide +kernel, (show (parseMethodDescriptor yX11_collides.desc).map (fun d => d.parameters.length) = some 1 by decide +kernel)⟩ F hl hR hW hS hsz hrest rfl hdg (fun z hz => nomatch (show (none : Option (Nat × Mm)) = some z from hz)) (fun z hz => by obtain rfl := Option.some.inj hz; exact kk _ rfl)
set_option maxHeartbeats 4000000 in
set_option maxRecDepth 100000 in
theorem wk_X11_collisions_4 {n : Nat} {μ : Mm} {out : Int32} (F : FX G b RX11 cX11_collisions 3 p s m args meth c) (hr : meth.sig.returnType = some .int) : ∀ (f : Nat) (x1 : Int32) (x2 : Int32) (H : Heap) (locs : List Loc) (ls : Array Slot), sh_X11_collisions_4 n μ f x1 x2 = some out → WH G b μ H → va_S (fb b) s.heap H locs → lv_has ls 3 [(0, .ref (b + 0)), (1, .int x1), (2, .int x2)] → W p l e ({ frames := 5, cells := 0, slots := 0, locals := 112 } : Room) s m args below meth c H locs 0 0 (MQ below (QW G b μ (some (.int out))) args s 0 0 (fb b)) (F0 m 4 ls []) := by
  have hx := F.1
  have hb := F.2.1
  intro f
  induction f with
  | zero =>
    intro _ _ _ _ _ h
    rw [sh_X11_collisions_4] at h
    cases h
  | succ f ih =>
    intro x1 x2  H locs ls h hW hS hl
    rw [sh_X11_collisions_4] at h
    have hk4 := ih
    refine lv_iload_n hx hb dX11_collisions_4 rfl (lv_at hl 2 rfl) ?_
    refine lv_aload_n hx hb dX11_collisions_5 rfl (lv_at hl 0 rfl) ?_
    refine fl_get11 (v := .ref (b + 38)) kyf_0 F hW 9 (by decide) q_541 rfl rfl dX11_collisions_6 ?_
    refine fl_get1 (v := .ref (b + 61)) kyf_38 F hW 2 (by decide) q_365 rfl rfl dX11_collisions_9 ?_
    refine fl_get7 (v := .int (μ.1 61 2)) kyf_61 F hW 2 (by decide) q_312 rfl rfl dX11_collisions_12 ?_
    refine lv_icmp_ge (tgt := 45) hx hb dX11_collisions_15 (by decide) (fun cc => ?_) (fun cc => ?_)
    · replace h := (if_pos cc).symm.trans h
      refine lv_iload_n hx hb dX11_collisions_45 rfl (lv_at hl 1 rfl) ?_
      cases h
      exact r_int F hr hW hS dX11_collisions_46
    · replace h := (if_neg cc).symm.trans h
      refine lv_aload_n hx hb dX11_collisions_18 rfl (lv_at hl 0 rfl) ?_
      refine fl_get11 (v := .ref (b + 38)) kyf_0 F hW 9 (by decide) q_541 rfl rfl dX11_collisions_19 ?_
      refine lv_aload_n hx hb dX11_collisions_22 rfl (lv_at hl 0 rfl) ?_
      refine fl_get11 (v := .ref (b + 10)) kyf_0 F hW 5 (by decide) q_537 rfl rfl dX11_collisions_23 ?_
      refine fl_get6 (v := .ref (b + 11)) kyf_10 F hW 0 (by decide) q_212 rfl rfl dX11_collisions_26 ?_
      refine lv_iload_n hx hb dX11_collisions_29 rfl (lv_at hl 2 rfl) ?_
      obtain ⟨r1, qr1, h⟩ := ob h
      refine k_X1_touchesNext F ok_38 ok_11 qr1 q_821 ⟨Nat.le_of_ble_eq_true rfl, Nat.le_of_ble_eq_true rfl, Nat.le_of_ble_eq_true rfl, Nat.le_of_ble_eq_true rfl⟩ hW hS hl.1 (Nat.le_of_ble_eq_true rfl) dX11_collisions_30 (fun H locs hW hS => ?_)
      refine lv_if_eq (tgt := 39) hx hb dX11_collisions_33 (by decide) (fun cc => ?_) (fun cc => ?_)
      · replace h := (if_pos cc).symm.trans h
        refine lv_iinc (v := (x2 + (1 : Int32))) (lv' := [(2, .int (x2 + (1 : Int32))), (0, .ref (b + 0)), (1, .int x1)]) hx hb dX11_collisions_39 hl (k := 2) rfl rfl (by decide) rfl (fun ls hl => ?_)
        refine lv_goto (tgt := 4) hx hb dX11_collisions_42 (by decide) ?_
        exact hk4 _ _ _ _ _ h hW hS (lv_sub hl [1, 2, 0] rfl)
      · replace h := (if_neg cc).symm.trans h
        refine lv_iinc (v := (x1 + (1 : Int32))) (lv' := [(1, .int (x1 + (1 : Int32))), (0, .ref (b + 0)), (2, .int x2)]) hx hb dX11_collisions_36 hl (k := 1) rfl rfl (by decide) rfl (fun ls hl => ?_)
        refine lv_iinc (v := (x2 + (1 : Int32))) (lv' := [(2, .int (x2 + (1 : Int32))), (1, .int (x1 + (1 : Int32))), (0, .ref (b + 0))]) hx hb dX11_collisions_39 hl (k := 2) rfl rfl (by decide) rfl (fun ls hl => ?_)
        refine lv_goto (tgt := 4) hx hb dX11_collisions_42 (by decide) ?_
        exact hk4 _ _ _ _ _ h hW hS (lv_sub hl [2, 1, 0] rfl)
set_option maxHeartbeats 4000000 in
set_option maxRecDepth 100000 in
theorem wk_X11_collisions {n : Nat} {μ : Mm} {out : Int32} (F : FX G b RX11 cX11_collisions 3 p s m args meth c) (hr : meth.sig.returnType = some .int) (h : sh_X11_collisions n  μ = some out) (hW : WH G b μ H) (hS : va_S (fb b) s.heap H locs) (hl : lv_has ls 3 [(0, .ref (b + 0))]) : W p l e ({ frames := 5, cells := 0, slots := 0, locals := 112 } : Room) s m args below meth c H locs 0 0 (MQ below (QW G b μ (some (.int out))) args s 0 0 (fb b)) (F0 m 0 ls []) := by
  have hx := F.1
  have hb := F.2.1
  unfold sh_X11_collisions at h
  refine lv_iconst (v := (0 : Int32)) hx hb dX11_collisions_0 (by decide) ?_
  refine lv_istore_n (lv' := [(1, .int (0 : Int32)), (0, .ref (b + 0))]) hx hb dX11_collisions_1 rfl hl (by decide) rfl (fun ls hl => ?_)
  refine lv_iconst (v := (0 : Int32)) hx hb dX11_collisions_2 (by decide) ?_
  refine lv_istore_n (lv' := [(2, .int (0 : Int32)), (1, .int (0 : Int32)), (0, .ref (b + 0))]) hx hb dX11_collisions_3 rfl hl (by decide) rfl (fun ls hl => ?_)
  exact wk_X11_collisions_4 F hr n _ _ _ _ _ h hW hS (lv_sub hl [2, 1, 0] rfl)
set_option maxHeartbeats 4000000 in
set_option maxRecDepth 100000 in
theorem c_X11_collisions {l : Launch} {G : Gt} {b : Nat} {n : Nat} {μ : Mm} {out : Int32} (h : sh_X11_collisions n  μ = some out) : Met l yX11_collisions (wU (Cond.code yX11_collisions cX11_collisions 3 (some .int))) ({ frames := 5, cells := 0, slots := 0, locals := 112 } : Room) (PcW G b μ [.ref (b + 0)]) (QW G b μ (some (.int out))) 0 0 (fb b) :=
  met_of [.ref (b + 0)] (by decide) (Nat.le_of_ble_eq_true rfl) (fun F hr hW hl => wk_X11_collisions F hr h hW va_S.rf hl)
set_option maxHeartbeats 4000000 in
set_option maxRecDepth 100000 in
theorem k_X11_collisions {own : String} {nL : Nat} (F : FX G b own cc nL p s m args meth c) {n : Nat} {μ : Mm} {out : Int32} (h : sh_X11_collisions n  μ = some out) {index : Nat} (hl : Cond.methodLink own index yX11_collisions ∈ TBG) (hR : 5 + 1 ≤ R.frames ∧ 8 + (3 + 11) + 112 ≤ R.locals ∧ cells ≤ R.cells ∧ slots ≤ R.slots) (hW : WH G b μ H) (hS : va_S (fb b) s.heap H locs) (hsz : ls.size = nL) (hrest : (rest.map fun v => v.category).sum ≤ 8) (hdg : decode cc pc = .ok (.invokevirtual index, 3))
    (kk : ∀ (H1 : Heap) (locs1 : List Loc), WH G b μ H1 → va_S (fb b) s.heap H1 locs1 → W p l e R s m args below meth c H1 locs1 cells slots Q (F0 m (pc + 3) ls (.int out :: rest))) : W p l e R s m args below meth c H locs cells slots Q (F0 m pc ls (.ref (b + 0) :: rest)) :=
  f_callV (As := []) (ci := 11) (c_X11_collisions h) ⟨rfl, rfl⟩ rfl (ky_lt kyf_0 (by decide)) (wF_11 kyf_0) q_818 q_819 q_1 q_820 rfl ⟨by decide +kernel, by decide +kernel, (show (parseMethodDescriptor yX11_collisions.desc).map (fun d => d.parameters.length) = some 0 by decide +kernel)⟩ F hl hR hW hS hsz hrest rfl hdg kk
set_option maxHeartbeats 4000000 in
set_option maxRecDepth 100000 in
theorem wk_X11_wordCount {n : Nat} {μ : Mm} {out : (Int32 × Mm)} (F : FX G b RX11 cX11_wordCount 1 p s m args meth c) (hr : meth.sig.returnType = some .int) (h : sh_X11_wordCount n  μ = some out) (hW : WH G b μ H) (hS : va_S (fb b) s.heap H locs) (hl : lv_has ls 1 [(0, .ref (b + 0))]) : W p l e ({ frames := 4, cells := 0, slots := 0, locals := 118 } : Room) s m args below meth c H locs 0 0 (MQ below (QW G b out.2 (some (.int out.1))) args s 0 0 (fb b)) (F0 m 0 ls []) := by
  have hx := F.1
  have hb := F.2.1
  unfold sh_X11_wordCount at h
  refine lv_aload_n hx hb dX11_wordCount_0 rfl (lv_at hl 0 rfl) ?_
  refine fl_get11 (v := .ref (b + 80)) kyf_0 F hW 10 (by decide) q_542 rfl rfl dX11_wordCount_1 ?_
  refine lv_aload_n hx hb dX11_wordCount_4 rfl (lv_at hl 0 rfl) ?_
  refine fl_get11 (v := .ref (b + 10)) kyf_0 F hW 5 (by decide) q_537 rfl rfl dX11_wordCount_5 ?_
  refine fl_get6 (v := .ref (b + 11)) kyf_10 F hW 0 (by decide) q_212 rfl rfl dX11_wordCount_8 ?_
  obtain ⟨r1, qr1, h⟩ := ob h
  refine k_X10_gather F ok_11 qr1 q_847 ⟨Nat.le_of_ble_eq_true rfl, Nat.le_of_ble_eq_true rfl, Nat.le_of_ble_eq_true rfl, Nat.le_of_ble_eq_true rfl⟩ hW hS hl.1 (Nat.le_of_ble_eq_true rfl) dX11_wordCount_11 (fun H locs hW hS => ?_)
  refine lv_aload_n hx hb dX11_wordCount_14 rfl (lv_at hl 0 rfl) ?_
  refine fl_get11 (v := .ref (b + 80)) kyf_0 F hW 10 (by decide) q_542 rfl rfl dX11_wordCount_15 ?_
  refine fl_get10 (v := .int (r1.1 80 2)) kyf_80 F hW 2 (by decide) q_395 rfl rfl dX11_wordCount_18 ?_
  cases h
  exact r_int F hr hW hS dX11_wordCount_21
set_option maxHeartbeats 4000000 in
set_option maxRecDepth 100000 in
theorem c_X11_wordCount {l : Launch} {G : Gt} {b : Nat} {n : Nat} {μ : Mm} {out : (Int32 × Mm)} (h : sh_X11_wordCount n  μ = some out) : Met l yX11_wordCount (wU (Cond.code yX11_wordCount cX11_wordCount 1 (some .int))) ({ frames := 4, cells := 0, slots := 0, locals := 118 } : Room) (PcW G b μ [.ref (b + 0)]) (QW G b out.2 (some (.int out.1))) 0 0 (fb b) :=
  met_of [.ref (b + 0)] (by decide) (Nat.le_of_ble_eq_true rfl) (fun F hr hW hl => wk_X11_wordCount F hr h hW va_S.rf hl)
set_option maxHeartbeats 4000000 in
set_option maxRecDepth 100000 in
theorem k_X11_wordCount {own : String} {nL : Nat} (F : FX G b own cc nL p s m args meth c) {n : Nat} {μ : Mm} {out : (Int32 × Mm)} (h : sh_X11_wordCount n  μ = some out) {index : Nat} (hl : Cond.methodLink own index yX11_wordCount ∈ TBG) (hR : 4 + 1 ≤ R.frames ∧ 8 + (1 + 11) + 118 ≤ R.locals ∧ cells ≤ R.cells ∧ slots ≤ R.slots) (hW : WH G b μ H) (hS : va_S (fb b) s.heap H locs) (hsz : ls.size = nL) (hrest : (rest.map fun v => v.category).sum ≤ 8) (hdg : decode cc pc = .ok (.invokevirtual index, 3))
    (kk : ∀ (H1 : Heap) (locs1 : List Loc), WH G b out.2 H1 → va_S (fb b) s.heap H1 locs1 → W p l e R s m args below meth c H1 locs1 cells slots Q (F0 m (pc + 3) ls (.int out.1 :: rest))) : W p l e R s m args below meth c H locs cells slots Q (F0 m pc ls (.ref (b + 0) :: rest)) :=
  f_callV (As := []) (ci := 11) (c_X11_wordCount h) ⟨rfl, rfl⟩ rfl (ky_lt kyf_0 (by decide)) (wF_11 kyf_0) q_844 q_845 q_1 q_846 rfl ⟨by decide +kernel, by decide +kernel, (show (parseMethodDescriptor yX11_wordCount.desc).map (fun d => d.parameters.length) = some 0 by decide +kernel)⟩ F hl hR hW hS hsz hrest rfl hdg kk
set_option maxHeartbeats 4000000 in
set_option maxRecDepth 100000 in
theorem wk_X11_wordSections_29 {n : Nat} {a1 : Int32} {μ : Mm} {out : ((Nat × Mm) ⊕ (Int32 × Mm))} (F : FX G b RX11 cX11_wordSections 2 p s m args meth c) (hr : meth.sig.returnType = some .int) (hlT : l.stackTraces = false) (hnt : ∀ x ∈ c.exceptionTable.toList, False) (h : sh_X11_wordSections_29 n a1 μ = some out) (hW : WH G b μ H) (hS : va_S (fb b) s.heap H locs) (hl : lv_has ls 2 []) : W p l e ({ frames := 6, cells := 1, slots := 6, locals := 118 } : Room) s m args below meth c H locs 0 0 (vx_MQ below (QN G b (Sum.elim (fun _ => none) (fun (v : (Int32 × Mm)) => some (v.2, (some (.int v.1)))) out)) (XN G b (Sum.elim (fun (q : Nat × Mm) => some q) (fun _ => none) out)) args s 1 6 (fb b)) (F0 m 29 ls []) := by
  have hx := F.1
  have hb := F.2.1
  unfold sh_X11_wordSections_29 at h
  cases h
  exact x_throwW (ec := 2) F hlT hnt q_1108 q_25 (is := 306) (text := "no such word") (t := 25) (by decide +kernel) (by decide +kernel) (hat_2 F.2.2.2.2.1 F.2.2.2.2.2.2.1) hgd_2 hl.1 dX11_wordSections_29 dX11_wordSections_32 dX11_wordSections_33 dX11_wordSections_36 dX11_wordSections_39 ⟨Nat.le_of_ble_eq_true rfl, Nat.le_of_ble_eq_true rfl, Nat.le_of_ble_eq_true rfl, Nat.le_of_ble_eq_true rfl⟩ (Nat.le_of_ble_eq_true rfl) (Nat.le_of_ble_eq_true rfl) hW hS
set_option maxHeartbeats 4000000 in
set_option maxRecDepth 100000 in
theorem wk_X11_wordSections {n : Nat} {a1 : Int32} {μ : Mm} {out : ((Nat × Mm) ⊕ (Int32 × Mm))} (F : FX G b RX11 cX11_wordSections 2 p s m args meth c) (hr : meth.sig.returnType = some .int) (hlT : l.stackTraces = false) (hnt : ∀ x ∈ c.exceptionTable.toList, False) (h : sh_X11_wordSections n a1 μ = some out) (hW : WH G b μ H) (hS : va_S (fb b) s.heap H locs) (hl : lv_has ls 2 [(0, .ref (b + 0)), (1, .int a1)]) : W p l e ({ frames := 6, cells := 1, slots := 6, locals := 118 } : Room) s m args below meth c H locs 0 0 (vx_MQ below (QN G b (Sum.elim (fun _ => none) (fun (v : (Int32 × Mm)) => some (v.2, (some (.int v.1)))) out)) (XN G b (Sum.elim (fun (q : Nat × Mm) => some q) (fun _ => none) out)) args s 1 6 (fb b)) (F0 m 0 ls []) := by
  have hx := F.1
  have hb := F.2.1
  unfold sh_X11_wordSections at h
  refine lv_aload_n hx hb dX11_wordSections_0 rfl (lv_at hl 0 rfl) ?_
  refine fl_get11 (v := .ref (b + 80)) kyf_0 F hW 10 (by decide) q_542 rfl rfl dX11_wordSections_1 ?_
  refine lv_aload_n hx hb dX11_wordSections_4 rfl (lv_at hl 0 rfl) ?_
  refine fl_get11 (v := .ref (b + 10)) kyf_0 F hW 5 (by decide) q_537 rfl rfl dX11_wordSections_5 ?_
  refine fl_get6 (v := .ref (b + 11)) kyf_10 F hW 0 (by decide) q_212 rfl rfl dX11_wordSections_8 ?_
  obtain ⟨r1, qr1, h⟩ := ob h
  refine k_X10_gather F ok_11 qr1 q_847 ⟨Nat.le_of_ble_eq_true rfl, Nat.le_of_ble_eq_true rfl, Nat.le_of_ble_eq_true rfl, Nat.le_of_ble_eq_true rfl⟩ hW hS hl.1 (Nat.le_of_ble_eq_true rfl) dX11_wordSections_11 (fun H locs hW hS => ?_)
  refine lv_iload_n hx hb dX11_wordSections_14 rfl (lv_at hl 1 rfl) ?_
  refine lv_if_lt (tgt := 29) hx hb dX11_wordSections_15 (by decide) (fun cc => ?_) (fun cc => ?_)
  · replace h := (if_pos cc).symm.trans h
    exact wk_X11_wordSections_29 F hr hlT hnt h hW hS (lv_sub hl [] rfl)
  · replace h := (if_neg cc).symm.trans h
    refine lv_iload_n hx hb dX11_wordSections_18 rfl (lv_at hl 1 rfl) ?_
    refine lv_aload_n hx hb dX11_wordSections_19 rfl (lv_at hl 0 rfl) ?_
    refine fl_get11 (v := .ref (b + 80)) kyf_0 F hW 10 (by decide) q_542 rfl rfl dX11_wordSections_20 ?_
    refine fl_get10 (v := .int (r1.1 80 2)) kyf_80 F hW 2 (by decide) q_395 rfl rfl dX11_wordSections_23 ?_
    refine lv_icmp_lt (tgt := 40) hx hb dX11_wordSections_26 (by decide) (fun cc => ?_) (fun cc => ?_)
    · replace h := (if_pos cc).symm.trans h
      refine lv_aload_n hx hb dX11_wordSections_40 rfl (lv_at hl 0 rfl) ?_
      refine fl_get11 (v := .ref (b + 80)) kyf_0 F hW 10 (by decide) q_542 rfl rfl dX11_wordSections_41 ?_
      refine fl_get10 (v := .ref (b + 83)) kyf_80 F hW 1 (by decide) q_393 rfl rfl dX11_wordSections_44 ?_
      refine lv_iload_n hx hb dX11_wordSections_47 rfl (lv_at hl 1 rfl) ?_
      obtain ⟨r2, qr2, h⟩ := ob h
      refine k_X5_at F ok_83 qr2 q_883 ⟨Nat.le_of_ble_eq_true rfl, Nat.le_of_ble_eq_true rfl, Nat.le_of_ble_eq_true rfl, Nat.le_of_ble_eq_true rfl⟩ hW hS hl.1 (Nat.le_of_ble_eq_true rfl) dX11_wordSections_48 (fun H locs hW hS => ?_)
      cases h
      exact x_int F hr (Nat.le_of_ble_eq_true rfl) (Nat.le_of_ble_eq_true rfl) hW hS dX11_wordSections_51
    · replace h := (if_neg cc).symm.trans h
      exact wk_X11_wordSections_29 F hr hlT hnt h hW hS (lv_sub hl [] rfl)
set_option maxHeartbeats 4000000 in
set_option maxRecDepth 100000 in
theorem c_X11_wordSections {l : Launch} (hlT : l.stackTraces = false) {G : Gt} {b : Nat} {n : Nat} {a1 : Int32} {μ : Mm} {out : ((Nat × Mm) ⊕ (Int32 × Mm))} (h : sh_X11_wordSections n a1 μ = some out) : vx_Met l yX11_wordSections (wU (Cond.code yX11_wordSections cX11_wordSections 2 (some .int))) ({ frames := 6, cells := 1, slots := 6, locals := 118 } : Room) (PcW G b μ [.ref (b + 0), .int a1]) (QN G b (Sum.elim (fun _ => none) (fun (v : (Int32 × Mm)) => some (v.2, (some (.int v.1)))) out)) (XN G b (Sum.elim (fun (q : Nat × Mm) => some q) (fun _ => none) out)) 1 6 (fb b) :=
  xmet_of [.ref (b + 0), .int a1] (by decide) (Nat.le_of_ble_eq_true rfl) (fun F hr hnt hW hl => wk_X11_wordSections F hr hlT hnt h hW va_S.rf hl)
set_option maxHeartbeats 4000000 in
set_option maxRecDepth 100000 in
theorem k_X11_wordSections {own : String} {nL : Nat} (F : FX G b own cc nL p s m args meth c) (hlT : l.stackTraces = false) {n : Nat} {a1 : Int32} {μ : Mm} {out : ((Nat × Mm) ⊕ (Int32 × Mm))} (h : sh_X11_wordSections n a1 μ = some out) {index : Nat} (hl : Cond.methodLink own index yX11_wordSections ∈ TBG) (hR : 6 + 1 ≤ R.frames ∧ 8 + (2 + 11) + 118 ≤ R.locals ∧ cells + 1 ≤ R.cells ∧ slots + 6 ≤ R.slots) (hW : WH G b μ H) (hS : va_S (fb b) s.heap H locs) (hsz : ls.size = nL) (hrest : (rest.map fun v => v.category).sum ≤ 8) (hdg : decode cc pc = .ok (.invokevirtual index, 3))
    (kx : ∀ (q : Nat × Mm), out = .inl q → ∀ (ce : Cell) (q9 : Addr) (H1 : Heap) (locs1 : List Loc), WH G b q.2 H1 → va_S (fb b) s.heap H1 locs1 → H1[q9]? = some ce → ce.vm = .none → s.vm.findClass (exN q.1) = some ce.cls → vx_W p l e R s m args below meth c H1 locs1 (cells + 1) (slots + 6) Q (F0 m pc ls rest) q9)
    (kk : ∀ (v : (Int32 × Mm)), out = .inr v → ∀ (H1 : Heap) (locs1 : List Loc), WH G b v.2 H1 → va_S (fb b) s.heap H1 locs1 → W p l e R s m args below meth c H1 locs1 (cells + 1) (slots + 6) Q (F0 m (pc + 3) ls (.int v.1 :: rest))) : W p l e R s m args below meth c H locs cells slots Q (F0 m pc ls (.int a1 :: .ref (b + 0) :: rest)) := by
  cases out with
  | inl q => exact fx_callV (As := [.int a1]) (ci := 11) (c_X11_wordSections hlT h) ⟨rfl, rfl⟩ rfl (ky_lt kyf_0 (by decide)) (wF_11 kyf_0) q_1274 q_1275 q_1 q_1276 rfl ⟨by decide +kernel, by decide +kernel, (show (parseMethodDescriptor yX11_wordSections.desc).map (fun d => d.parameters.length) = some 1 by decide +kernel)⟩ F hl hR hW hS hsz hrest rfl hdg (fun z hz => by obtain rfl := Option.some.inj hz; exact kx _ rfl) (fun z hz => nomatch (show (none : Option (Mm × Option Value)) = some z from hz))
  | inr v => exact fx_callV (As := [.int a1]) (ci := 11) (c_X11_wordSections hlT h) ⟨rfl, rfl⟩ rfl (ky_lt kyf_0 (by decide)) (wF_11 kyf_0) q_1274 q_1275 q_1 q_1276 rfl ⟨by decide +kernel, by decide +kernel, (show (parseMethodDescriptor yX11_wordSections.desc).map (fun d => d.parameters.length) = some 1 by decide +kernel)⟩ F hl hR hW hS hsz hrest rfl hdg (fun z hz => nomatch (show (none : Option (Nat × Mm)) = some z from hz)) (fun z hz => by obtain rfl := Option.some.inj hz; exact kk _ rfl)
set_option maxHeartbeats 4000000 in
set_option maxRecDepth 100000 in
theorem wk_X11_findWord {n : Nat} {μ : Mm} {out : (Int32 × Mm)} (F : FX G b RX11 cX11_findWord 3 p s m args meth c) (hr : meth.sig.returnType = some .int) (h : sh_X11_findWord n  μ = some out) (hW : WH G b μ H) (hS : va_S (fb b) s.heap H locs) (hl : lv_has ls 3 [(0, .ref (b + 0))]) : W p l e ({ frames := 4, cells := 0, slots := 0, locals := 118 } : Room) s m args below meth c H locs 0 0 (MQ below (QW G b out.2 (some (.int out.1))) args s 0 0 (fb b)) (F0 m 0 ls []) := by
  have hx := F.1
  have hb := F.2.1
  unfold sh_X11_findWord at h
  refine lv_aload_n hx hb dX11_findWord_0 rfl (lv_at hl 0 rfl) ?_
  refine fl_get11 (v := .ref (b + 1)) kyf_0 F hW 0 (by decide) q_532 rfl rfl dX11_findWord_1 ?_
  refine lv_iconst (v := (0 : Int32)) hx hb dX11_findWord_4 (by decide) ?_
  refine lv_aload_n hx hb dX11_findWord_5 rfl (lv_at hl 0 rfl) ?_
  refine fl_get11 (v := .ref (b + 1)) kyf_0 F hW 0 (by decide) q_532 rfl rfl dX11_findWord_6 ?_
  obtain ⟨r1, qr1, h⟩ := ob h
  refine k_X8_length F ok_1 qr1 q_865 ⟨Nat.le_of_ble_eq_true rfl, Nat.le_of_ble_eq_true rfl, Nat.le_of_ble_eq_true rfl, Nat.le_of_ble_eq_true rfl⟩ hW hS hl.1 (Nat.le_of_ble_eq_true rfl) dX11_findWord_9 (fun H locs hW hS => ?_)
  obtain ⟨r2, qr2, h⟩ := ob h
  refine k_X8_wordBetween F ok_1 qr2 q_866 ⟨Nat.le_of_ble_eq_true rfl, Nat.le_of_ble_eq_true rfl, Nat.le_of_ble_eq_true rfl, Nat.le_of_ble_eq_true rfl⟩ hW hS hl.1 (Nat.le_of_ble_eq_true rfl) dX11_findWord_12 (fun H locs hW hS => ?_)
  refine lv_lstore_n (lv' := [(1, .long r2), (0, .ref (b + 0))]) hx hb dX11_findWord_15 rfl hl (by decide) rfl (fun ls hl => ?_)
  refine lv_aload_n hx hb dX11_findWord_16 rfl (lv_at hl 1 rfl) ?_
  refine fl_get11 (v := .ref (b + 1)) kyf_0 F hW 0 (by decide) q_532 rfl rfl dX11_findWord_17 ?_
  refine lv_iconst (v := (0 : Int32)) hx hb dX11_findWord_20 (by decide) ?_
  obtain ⟨r3, qr3, h⟩ := ob h
  refine k_X8_cut F ok_1 qr3 q_757 ⟨Nat.le_of_ble_eq_true rfl, Nat.le_of_ble_eq_true rfl, Nat.le_of_ble_eq_true rfl, Nat.le_of_ble_eq_true rfl⟩ hW hS hl.1 (Nat.le_of_ble_eq_true rfl) dX11_findWord_21 (fun H locs hW hS => ?_)
  refine lv_aload_n hx hb dX11_findWord_24 rfl (lv_at hl 1 rfl) ?_
  refine fl_get11 (v := .ref (b + 80)) kyf_0 F hW 10 (by decide) q_542 rfl rfl dX11_findWord_25 ?_
  refine lv_aload_n hx hb dX11_findWord_28 rfl (lv_at hl 1 rfl) ?_
  refine fl_get11 (v := .ref (b + 10)) kyf_0 F hW 5 (by decide) q_537 rfl rfl dX11_findWord_29 ?_
  refine fl_get6 (v := .ref (b + 11)) kyf_10 F hW 0 (by decide) q_212 rfl rfl dX11_findWord_32 ?_
  obtain ⟨r4, qr4, h⟩ := ob h
  refine k_X10_gather F ok_11 qr4 q_847 ⟨Nat.le_of_ble_eq_true rfl, Nat.le_of_ble_eq_true rfl, Nat.le_of_ble_eq_true rfl, Nat.le_of_ble_eq_true rfl⟩ hW hS hl.1 (Nat.le_of_ble_eq_true rfl) dX11_findWord_35 (fun H locs hW hS => ?_)
  refine lv_aload_n hx hb dX11_findWord_38 rfl (lv_at hl 1 rfl) ?_
  refine fl_get11 (v := .ref (b + 80)) kyf_0 F hW 10 (by decide) q_542 rfl rfl dX11_findWord_39 ?_
  refine lv_lload_n hx hb dX11_findWord_42 rfl (lv_at hl 0 rfl) ?_
  obtain ⟨r5, qr5, h⟩ := ob h
  refine k_X10_indexOf F qr5 q_867 ⟨Nat.le_of_ble_eq_true rfl, Nat.le_of_ble_eq_true rfl, Nat.le_of_ble_eq_true rfl, Nat.le_of_ble_eq_true rfl⟩ hW hS hl.1 (Nat.le_of_ble_eq_true rfl) dX11_findWord_43 (fun H locs hW hS => ?_)
  cases h
  exact r_int F hr hW hS dX11_findWord_46
set_option maxHeartbeats 4000000 in
set_option maxRecDepth 100000 in
theorem c_X11_findWord {l : Launch} {G : Gt} {b : Nat} {n : Nat} {μ : Mm} {out : (Int32 × Mm)} (h : sh_X11_findWord n  μ = some out) : Met l yX11_findWord (wU (Cond.code yX11_findWord cX11_findWord 3 (some .int))) ({ frames := 4, cells := 0, slots := 0, locals := 118 } : Room) (PcW G b μ [.ref (b + 0)]) (QW G b out.2 (some (.int out.1))) 0 0 (fb b) :=
  met_of [.ref (b + 0)] (by decide) (Nat.le_of_ble_eq_true rfl) (fun F hr hW hl => wk_X11_findWord F hr h hW va_S.rf hl)
set_option maxHeartbeats 4000000 in
set_option maxRecDepth 100000 in
theorem k_X11_findWord {own : String} {nL : Nat} (F : FX G b own cc nL p s m args meth c) {n : Nat} {μ : Mm} {out : (Int32 × Mm)} (h : sh_X11_findWord n  μ = some out) {index : Nat} (hl : Cond.methodLink own index yX11_findWord ∈ TBG) (hR : 4 + 1 ≤ R.frames ∧ 8 + (3 + 11) + 118 ≤ R.locals ∧ cells ≤ R.cells ∧ slots ≤ R.slots) (hW : WH G b μ H) (hS : va_S (fb b) s.heap H locs) (hsz : ls.size = nL) (hrest : (rest.map fun v => v.category).sum ≤ 8) (hdg : decode cc pc = .ok (.invokevirtual index, 3))
    (kk : ∀ (H1 : Heap) (locs1 : List Loc), WH G b out.2 H1 → va_S (fb b) s.heap H1 locs1 → W p l e R s m args below meth c H1 locs1 cells slots Q (F0 m (pc + 3) ls (.int out.1 :: rest))) : W p l e R s m args below meth c H locs cells slots Q (F0 m pc ls (.ref (b + 0) :: rest)) :=
  f_callV (As := []) (ci := 11) (c_X11_findWord h) ⟨rfl, rfl⟩ rfl (ky_lt kyf_0 (by decide)) (wF_11 kyf_0) q_862 q_863 q_1 q_864 rfl ⟨by decide +kernel, by decide +kernel, (show (parseMethodDescriptor yX11_findWord.desc).map (fun d => d.parameters.length) = some 0 by decide +kernel)⟩ F hl hR hW hS hsz hrest rfl hdg kk
set_option maxHeartbeats 4000000 in
set_option maxRecDepth 100000 in
theorem wk_X11_checkLength_11 {a1 : Int32} {μ : Mm} {out : (Nat ⊕ Unit)} (F : FX G b RX11 cX11_checkLength 2 p s m args meth c) (hr : meth.sig.returnType = none) (hlT : l.stackTraces = false) (hnt : ∀ x ∈ c.exceptionTable.toList, False) (h : sh_X11_checkLength_11 a1 μ = some out) (hW : WH G b μ H) (hS : va_S (fb b) s.heap H locs) (hl : lv_has ls 2 []) : W p l e ({ frames := 6, cells := 1, slots := 6, locals := 90 } : Room) s m args below meth c H locs 0 0 (vx_MQ below (QN G b (Sum.elim (fun _ => none) (fun (v : Unit) => some (μ, none)) out)) (XN G b (Sum.elim (fun (q : Nat) => some (q, μ)) (fun _ => none) out)) args s 1 6 (fb b)) (F0 m 11 ls []) := by
  have hx := F.1
  have hb := F.2.1
  unfold sh_X11_checkLength_11 at h
  cases h
  exact x_throwW (ec := 1) F hlT hnt q_1064 q_19 (is := 449) (text := "no such length of a section") (t := 26) (by decide +kernel) (by decide +kernel) (hat_1 F.2.2.2.2.1 F.2.2.2.2.2.2.1) hgd_1 hl.1 dX11_checkLength_11 dX11_checkLength_14 dX11_checkLength_15 dX11_checkLength_18 dX11_checkLength_21 ⟨Nat.le_of_ble_eq_true rfl, Nat.le_of_ble_eq_true rfl, Nat.le_of_ble_eq_true rfl, Nat.le_of_ble_eq_true rfl⟩ (Nat.le_of_ble_eq_true rfl) (Nat.le_of_ble_eq_true rfl) hW hS
set_option maxHeartbeats 4000000 in
set_option maxRecDepth 100000 in
theorem wk_X11_checkLength {a1 : Int32} {μ : Mm} {out : (Nat ⊕ Unit)} (F : FX G b RX11 cX11_checkLength 2 p s m args meth c) (hr : meth.sig.returnType = none) (hlT : l.stackTraces = false) (hnt : ∀ x ∈ c.exceptionTable.toList, False) (h : sh_X11_checkLength a1 μ = some out) (hW : WH G b μ H) (hS : va_S (fb b) s.heap H locs) (hl : lv_has ls 2 [(0, .ref (b + 0)), (1, .int a1)]) : W p l e ({ frames := 6, cells := 1, slots := 6, locals := 90 } : Room) s m args below meth c H locs 0 0 (vx_MQ below (QN G b (Sum.elim (fun _ => none) (fun (v : Unit) => some (μ, none)) out)) (XN G b (Sum.elim (fun (q : Nat) => some (q, μ)) (fun _ => none) out)) args s 1 6 (fb b)) (F0 m 0 ls []) := by
  have hx := F.1
  have hb := F.2.1
  unfold sh_X11_checkLength at h
  refine lv_iload_n hx hb dX11_checkLength_0 rfl (lv_at hl 1 rfl) ?_
  refine lv_if_lt (tgt := 11) hx hb dX11_checkLength_1 (by decide) (fun cc => ?_) (fun cc => ?_)
  · replace h := (if_pos cc).symm.trans h
    exact wk_X11_checkLength_11 F hr hlT hnt h hW hS (lv_sub hl [] rfl)
  · replace h := (if_neg cc).symm.trans h
    refine lv_iload_n hx hb dX11_checkLength_4 rfl (lv_at hl 1 rfl) ?_
    refine lv_sipush (v := (500 : Int32)) hx hb dX11_checkLength_5 (by decide) ?_
    refine lv_icmp_le (tgt := 22) hx hb dX11_checkLength_8 (by decide) (fun cc => ?_) (fun cc => ?_)
    · replace h := (if_pos cc).symm.trans h
      cases h
      exact x_void F hr (Nat.le_of_ble_eq_true rfl) (Nat.le_of_ble_eq_true rfl) hW hS dX11_checkLength_22
    · replace h := (if_neg cc).symm.trans h
      exact wk_X11_checkLength_11 F hr hlT hnt h hW hS (lv_sub hl [] rfl)
set_option maxHeartbeats 4000000 in
set_option maxRecDepth 100000 in
theorem c_X11_checkLength {l : Launch} (hlT : l.stackTraces = false) {G : Gt} {b : Nat} {a1 : Int32} {μ : Mm} {out : (Nat ⊕ Unit)} (h : sh_X11_checkLength a1 μ = some out) : vx_Met l yX11_checkLength (wU (Cond.code yX11_checkLength cX11_checkLength 2 none)) ({ frames := 6, cells := 1, slots := 6, locals := 90 } : Room) (PcW G b μ [.ref (b + 0), .int a1]) (QN G b (Sum.elim (fun _ => none) (fun (v : Unit) => some (μ, none)) out)) (XN G b (Sum.elim (fun (q : Nat) => some (q, μ)) (fun _ => none) out)) 1 6 (fb b) :=
  xmet_of [.ref (b + 0), .int a1] (by decide) (Nat.le_of_ble_eq_true rfl) (fun F hr hnt hW hl => wk_X11_checkLength F hr hlT hnt h hW va_S.rf hl)
set_option maxHeartbeats 4000000 in
set_option maxRecDepth 100000 in
theorem k_X11_checkLength {own : String} {nL : Nat} (F : FX G b own cc nL p s m args meth c) (hlT : l.stackTraces = false) {a1 : Int32} {μ : Mm} {out : (Nat ⊕ Unit)} (h : sh_X11_checkLength a1 μ = some out) {index : Nat} (hl : Cond.methodLink own index yX11_checkLength ∈ TBG) (hR : 6 + 1 ≤ R.frames ∧ 8 + (2 + 11) + 90 ≤ R.locals ∧ cells + 1 ≤ R.cells ∧ slots + 6 ≤ R.slots) (hW : WH G b μ H) (hS : va_S (fb b) s.heap H locs) (hsz : ls.size = nL) (hrest : (rest.map fun v => v.category).sum ≤ 8) (hdg : decode cc pc = .ok (.invokevirtual index, 3))
    (kx : ∀ (q : Nat), out = .inl q → ∀ (ce : Cell) (q9 : Addr) (H1 : Heap) (locs1 : List Loc), WH G b μ H1 → va_S (fb b) s.heap H1 locs1 → H1[q9]? = some ce → ce.vm = .none → s.vm.findClass (exN q) = some ce.cls → vx_W p l e R s m args below meth c H1 locs1 (cells + 1) (slots + 6) Q (F0 m pc ls rest) q9)
    (kk : ∀ (v : Unit), out = .inr v → ∀ (H1 : Heap) (locs1 : List Loc), WH G b μ H1 → va_S (fb b) s.heap H1 locs1 → W p l e R s m args below meth c H1 locs1 (cells + 1) (slots + 6) Q (F0 m (pc + 3) ls (rest))) : W p l e R s m args below meth c H locs cells slots Q (F0 m pc ls (.int a1 :: .ref (b + 0) :: rest)) := by
  cases out with
  | inl q => exact fx_callV (As := [.int a1]) (ci := 11) (c_X11_checkLength hlT h) ⟨rfl, rfl⟩ rfl (ky_lt kyf_0 (by decide)) (wF_11 kyf_0) q_1287 qp_35 q_1 q_1288 rfl ⟨by decide +kernel, by decide +kernel, (show (parseMethodDescriptor yX11_checkLength.desc).map (fun d => d.parameters.length) = some 1 by decide +kernel)⟩ F hl hR hW hS hsz hrest rfl hdg (fun z hz => by obtain rfl := Option.some.inj hz; exact kx _ rfl) (fun z hz => nomatch (show (none : Option (Mm × Option Value)) = some z from hz))
  | inr v => exact fx_callV (As := [.int a1]) (ci := 11) (c_X11_checkLength hlT h) ⟨rfl, rfl⟩ rfl (ky_lt kyf_0 (by decide)) (wF_11 kyf_0) q_1287 qp_35 q_1 q_1288 rfl ⟨by decide +kernel, by decide +kernel, (show (parseMethodDescriptor yX11_checkLength.desc).map (fun d => d.parameters.length) = some 1 by decide +kernel)⟩ F hl hR hW hS hsz hrest rfl hdg (fun z hz => nomatch (show (none : Option (Nat × Mm)) = some z from hz)) (fun z hz => by obtain rfl := Option.some.inj hz; exact kk _ rfl)
set_option maxHeartbeats 4000000 in
set_option maxRecDepth 100000 in
theorem wk_X11_setLength {n : Nat} {a1 : Int32} {a2 : Int32} {μ : Mm} {out : ((Nat × Mm) ⊕ (Int32 × Mm))} (F : FX G b RX11 cX11_setLength 4 p s m args meth c) (hr : meth.sig.returnType = some .int) (hlT : l.stackTraces = false) (hnt : ∀ x ∈ c.exceptionTable.toList, False) (h : sh_X11_setLength n a1 a2 μ = some out) (hW : WH G b μ H) (hS : va_S (fb b) s.heap H locs) (hl : lv_has ls 4 [(0, .ref (b + 0)), (1, .int a1), (2, .int a2)]) : W p l e ({ frames := 7, cells := 2, slots := 12, locals := 143 } : Room) s m args below meth c H locs 0 0 (vx_MQ below (QN G b (Sum.elim (fun _ => none) (fun (v : (Int32 × Mm)) => some (v.2, (some (.int v.1)))) out)) (XN G b (Sum.elim (fun (q : Nat × Mm) => some q) (fun _ => none) out)) args s 2 12 (fb b)) (F0 m 0 ls []) := by
  have hx := F.1
  have hb := F.2.1
  unfold sh_X11_setLength at h
  refine lv_aload_n hx hb dX11_setLength_0 rfl (lv_at hl 0 rfl) ?_
  refine lv_iload_n hx hb dX11_setLength_1 rfl (lv_at hl 1 rfl) ?_
  obtain ⟨r1, qr1, h⟩ := ob h
  refine k_X11_checkSection F hlT qr1 q_1104 ⟨Nat.le_of_ble_eq_true rfl, Nat.le_of_ble_eq_true rfl, Nat.le_of_ble_eq_true rfl, Nat.le_of_ble_eq_true rfl⟩ hW hS hl.1 (Nat.le_of_ble_eq_true rfl) dX11_setLength_2 (fun ec he ce q9 H locs hW hS hc1 hc2 hc3 => ?_) (fun v2 he H locs hW hS => ?_)
  · subst he
    cases h
    exact x_out F hnt (Nat.le_of_ble_eq_true rfl) (Nat.le_of_ble_eq_true rfl) hW hS hc1 hc2 hc3
  subst he
  replace h := (Sum.elim_inr _ _ _).symm.trans h
  refine lv_aload_n hx hb dX11_setLength_5 rfl (lv_at hl 0 rfl) ?_
  refine lv_iload_n hx hb dX11_setLength_6 rfl (lv_at hl 2 rfl) ?_
  obtain ⟨r3, qr3, h⟩ := ob h
  refine k_X11_checkLength F hlT qr3 q_1285 ⟨Nat.le_of_ble_eq_true rfl, Nat.le_of_ble_eq_true rfl, Nat.le_of_ble_eq_true rfl, Nat.le_of_ble_eq_true rfl⟩ hW hS hl.1 (Nat.le_of_ble_eq_true rfl) dX11_setLength_7 (fun ec he ce q9 H locs hW hS hc1 hc2 hc3 => ?_) (fun v4 he H locs hW hS => ?_)
  · subst he
    cases h
    exact x_out F hnt (Nat.le_of_ble_eq_true rfl) (Nat.le_of_ble_eq_true rfl) hW hS hc1 hc2 hc3
  subst he
  replace h := (Sum.elim_inr _ _ _).symm.trans h
  refine lv_aload_n hx hb dX11_setLength_10 rfl (lv_at hl 0 rfl) ?_
  obtain ⟨r5, qr5, h⟩ := ob h
  refine k_X11_keepForUndo F qr5 q_761 ⟨Nat.le_of_ble_eq_true rfl, Nat.le_of_ble_eq_true rfl, Nat.le_of_ble_eq_true rfl, Nat.le_of_ble_eq_true rfl⟩ hW hS hl.1 (Nat.le_of_ble_eq_true rfl) dX11_setLength_11 (fun H locs hW hS => ?_)
  refine lv_aload_n hx hb dX11_setLength_14 rfl (lv_at hl 0 rfl) ?_
  refine fl_get11 (v := .ref (b + 10)) kyf_0 F hW 5 (by decide) q_537 rfl rfl dX11_setLength_15 ?_
  refine fl_get6 (v := .ref (b + 11)) kyf_10 F hW 0 (by decide) q_212 rfl rfl dX11_setLength_18 ?_
  refine fl_get0 (v := .ref (b + 16)) kyf_11 F hW 5 (by decide) q_178 rfl rfl dX11_setLength_21 ?_
  refine lv_iload_n hx hb dX11_setLength_24 rfl (lv_at hl 1 rfl) ?_
  obtain ⟨r6, qr6, h⟩ := ob h
  refine k_X5_at F ok_16 qr6 q_883 ⟨Nat.le_of_ble_eq_true rfl, Nat.le_of_ble_eq_true rfl, Nat.le_of_ble_eq_true rfl, Nat.le_of_ble_eq_true rfl⟩ hW hS hl.1 (Nat.le_of_ble_eq_true rfl) dX11_setLength_25 (fun H locs hW hS => ?_)
  refine lv_istore_n (lv' := [(3, .int r6), (0, .ref (b + 0)), (1, .int a1), (2, .int a2)]) hx hb dX11_setLength_28 rfl hl (by decide) rfl (fun ls hl => ?_)
  refine lv_aload_n hx hb dX11_setLength_29 rfl (lv_at hl 1 rfl) ?_
  refine fl_get11 (v := .ref (b + 10)) kyf_0 F hW 5 (by decide) q_537 rfl rfl dX11_setLength_30 ?_
  refine fl_get6 (v := .ref (b + 11)) kyf_10 F hW 0 (by decide) q_212 rfl rfl dX11_setLength_33 ?_
  refine fl_get0 (v := .ref (b + 16)) kyf_11 F hW 5 (by decide) q_178 rfl rfl dX11_setLength_36 ?_
  refine lv_iload_n hx hb dX11_setLength_39 rfl (lv_at hl 2 rfl) ?_
  refine lv_iload_n hx hb dX11_setLength_40 rfl (lv_at hl 3 rfl) ?_
  obtain ⟨r7, qr7, h⟩ := ob h
  refine k_X5_put F ok_16 qr7 q_966 ⟨Nat.le_of_ble_eq_true rfl, Nat.le_of_ble_eq_true rfl, Nat.le_of_ble_eq_true rfl, Nat.le_of_ble_eq_true rfl⟩ hW hS hl.1 (Nat.le_of_ble_eq_true rfl) dX11_setLength_41 (fun H locs hW hS => ?_)
  refine lv_aload_n hx hb dX11_setLength_44 rfl (lv_at hl 1 rfl) ?_
  refine fl_get11 (v := .ref (b + 38)) kyf_0 F hW 9 (by decide) q_541 rfl rfl dX11_setLength_45 ?_
  refine lv_aload_n hx hb dX11_setLength_48 rfl (lv_at hl 1 rfl) ?_
  refine fl_get11 (v := .ref (b + 10)) kyf_0 F hW 5 (by decide) q_537 rfl rfl dX11_setLength_49 ?_
  refine fl_get6 (v := .ref (b + 11)) kyf_10 F hW 0 (by decide) q_212 rfl rfl dX11_setLength_52 ?_
  obtain ⟨r8, qr8, h⟩ := ob h
  refine k_X1_layAnew F ok_38 ok_11 qr8 q_405 ⟨Nat.le_of_ble_eq_true rfl, Nat.le_of_ble_eq_true rfl, Nat.le_of_ble_eq_true rfl, Nat.le_of_ble_eq_true rfl⟩ hW hS hl.1 (Nat.le_of_ble_eq_true rfl) dX11_setLength_55 (fun H locs hW hS => ?_)
  refine lv_iload_n hx hb dX11_setLength_58 rfl (lv_at hl 0 rfl) ?_
  cases h
  exact x_int F hr (Nat.le_of_ble_eq_true rfl) (Nat.le_of_ble_eq_true rfl) hW hS dX11_setLength_59
set_option maxHeartbeats 4000000 in
set_option maxRecDepth 100000 in
theorem c_X11_setLength {l : Launch} (hlT : l.stackTraces = false) {G : Gt} {b : Nat} {n : Nat} {a1 : Int32} {a2 : Int32} {μ : Mm} {out : ((Nat × Mm) ⊕ (Int32 × Mm))} (h : sh_X11_setLength n a1 a2 μ = some out) : vx_Met l yX11_setLength (wU (Cond.code yX11_setLength cX11_setLength 4 (some .int))) ({ frames := 7, cells := 2, slots := 12, locals := 143 } : Room) (PcW G b μ [.ref (b + 0), .int a1, .int a2]) (QN G b (Sum.elim (fun _ => none) (fun (v : (Int32 × Mm)) => some (v.2, (some (.int v.1)))) out)) (XN G b (Sum.elim (fun (q : Nat × Mm) => some q) (fun _ => none) out)) 2 12 (fb b) :=
  xmet_of [.ref (b + 0), .int a1, .int a2] (by decide) (Nat.le_of_ble_eq_true rfl) (fun F hr hnt hW hl => wk_X11_setLength F hr hlT hnt h hW va_S.rf hl)
set_option maxHeartbeats 4000000 in
set_option maxRecDepth 100000 in
theorem k_X11_setLength {own : String} {nL : Nat} (F : FX G b own cc nL p s m args meth c) (hlT : l.stackTraces = false) {n : Nat} {a1 : Int32} {a2 : Int32} {μ : Mm} {out : ((Nat × Mm) ⊕ (Int32 × Mm))} (h : sh_X11_setLength n a1 a2 μ = some out) {index : Nat} (hl : Cond.methodLink own index yX11_setLength ∈ TBG) (hR : 7 + 1 ≤ R.frames ∧ 8 + (4 + 11) + 143 ≤ R.locals ∧ cells + 2 ≤ R.cells ∧ slots + 12 ≤ R.slots) (hW : WH G b μ H) (hS : va_S (fb b) s.heap H locs) (hsz : ls.size = nL) (hrest : (rest.map fun v => v.category).sum ≤ 8) (hdg : decode cc pc = .ok (.invokevirtual index, 3))
    (kx : ∀ (q : Nat × Mm), out = .inl q → ∀ (ce : Cell) (q9 : Addr) (H1 : Heap) (locs1 : List Loc), WH G b q.2 H1 → va_S (fb b) s.heap H1 locs1 → H1[q9]? = some ce → ce.vm = .none → s.vm.findClass (exN q.1) = some ce.cls → vx_W p l e R s m args below meth c H1 locs1 (cells + 2) (slots + 12) Q (F0 m pc ls rest) q9)
    (kk : ∀ (v : (Int32 × Mm)), out = .inr v → ∀ (H1 : Heap) (locs1 : List Loc), WH G b v.2 H1 → va_S (fb b) s.heap H1 locs1 → W p l e R s m args below meth c H1 locs1 (cells + 2) (slots + 12) Q (F0 m (pc + 3) ls (.int v.1 :: rest))) : W p l e R s m args below meth c H locs cells slots Q (F0 m pc ls (.int a2 :: .int a1 :: .ref (b + 0) :: rest)) := by
  cases out with
  | inl q => exact fx_callV (As := [.int a1, .int a2]) (ci := 11) (c_X11_setLength hlT h) ⟨rfl, rfl⟩ rfl (ky_lt kyf_0 (by decide)) (wF_11 kyf_0) q_1282 q_1283 q_1 q_1284 rfl ⟨by decide +kernel, by decide +kernel, (show (parseMethodDescriptor yX11_setLength.desc).map (fun d => d.parameters.length) = some 2 by decide +kernel)⟩ F hl hR hW hS hsz hrest rfl hdg (fun z hz => by obtain rfl := Option.some.inj hz; exact kx _ rfl) (fun z hz => nomatch (show (none : Option (Mm × Option Value)) = some z from hz))
  | inr v => exact fx_callV (As := [.int a1, .int a2]) (ci := 11) (c_X11_setLength hlT h) ⟨rfl, rfl⟩ rfl (ky_lt kyf_0 (by decide)) (wF_11 kyf_0) q_1282 q_1283 q_1 q_1284 rfl ⟨by decide +kernel, by decide +kernel, (show (parseMethodDescriptor yX11_setLength.desc).map (fun d => d.parameters.length) = some 2 by decide +kernel)⟩ F hl hR hW hS hsz hrest rfl hdg (fun z hz => nomatch (show (none : Option (Nat × Mm)) = some z from hz)) (fun z hz => by obtain rfl := Option.some.inj hz; exact kk _ rfl)
set_option maxHeartbeats 4000000 in
set_option maxRecDepth 100000 in
theorem wk_X11_checkLevel_10 {a1 : Int32} {μ : Mm} {out : (Nat ⊕ Unit)} (F : FX G b RX11 cX11_checkLevel 2 p s m args meth c) (hr : meth.sig.returnType = none) (hlT : l.stackTraces = false) (hnt : ∀ x ∈ c.exceptionTable.toList, False) (h : sh_X11_checkLevel_10 a1 μ = some out) (hW : WH G b μ H) (hS : va_S (fb b) s.heap H locs) (hl : lv_has ls 2 []) : W p l e ({ frames := 6, cells := 1, slots := 6, locals := 90 } : Room) s m args below meth c H locs 0 0 (vx_MQ below (QN G b (Sum.elim (fun _ => none) (fun (v : Unit) => some (μ, none)) out)) (XN G b (Sum.elim (fun (q : Nat) => some (q, μ)) (fun _ => none) out)) args s 1 6 (fb b)) (F0 m 10 ls []) := by
  have hx := F.1
  have hb := F.2.1
  unfold sh_X11_checkLevel_10 at h
  cases h
  exact x_throwW (ec := 1) F hlT hnt q_1064 q_19 (is := 447) (text := "no such level") (t := 27) (by decide +kernel) (by decide +kernel) (hat_1 F.2.2.2.2.1 F.2.2.2.2.2.2.1) hgd_1 hl.1 dX11_checkLevel_10 dX11_checkLevel_13 dX11_checkLevel_14 dX11_checkLevel_17 dX11_checkLevel_20 ⟨Nat.le_of_ble_eq_true rfl, Nat.le_of_ble_eq_true rfl, Nat.le_of_ble_eq_true rfl, Nat.le_of_ble_eq_true rfl⟩ (Nat.le_of_ble_eq_true rfl) (Nat.le_of_ble_eq_true rfl) hW hS
set_option maxHeartbeats 4000000 in
set_option maxRecDepth 100000 in
theorem wk_X11_checkLevel {a1 : Int32} {μ : Mm} {out : (Nat ⊕ Unit)} (F : FX G b RX11 cX11_checkLevel 2 p s m args meth c) (hr : meth.sig.returnType = none) (hlT : l.stackTraces = false) (hnt : ∀ x ∈ c.exceptionTable.toList, False) (h : sh_X11_checkLevel a1 μ = some out) (hW : WH G b μ H) (hS : va_S (fb b) s.heap H locs) (hl : lv_has ls 2 [(0, .ref (b + 0)), (1, .int a1)]) : W p l e ({ frames := 6, cells := 1, slots := 6, locals := 90 } : Room) s m args below meth c H locs 0 0 (vx_MQ below (QN G b (Sum.elim (fun _ => none) (fun (v : Unit) => some (μ, none)) out)) (XN G b (Sum.elim (fun (q : Nat) => some (q, μ)) (fun _ => none) out)) args s 1 6 (fb b)) (F0 m 0 ls []) := by
  have hx := F.1
  have hb := F.2.1
  unfold sh_X11_checkLevel at h
  refine lv_iload_n hx hb dX11_checkLevel_0 rfl (lv_at hl 1 rfl) ?_
  refine lv_iconst (v := (1 : Int32)) hx hb dX11_checkLevel_1 (by decide) ?_
  refine lv_icmp_lt (tgt := 10) hx hb dX11_checkLevel_2 (by decide) (fun cc => ?_) (fun cc => ?_)
  · replace h := (if_pos cc).symm.trans h
    exact wk_X11_checkLevel_10 F hr hlT hnt h hW hS (lv_sub hl [] rfl)
  · replace h := (if_neg cc).symm.trans h
    refine lv_iload_n hx hb dX11_checkLevel_5 rfl (lv_at hl 1 rfl) ?_
    refine lv_iconst (v := (4 : Int32)) hx hb dX11_checkLevel_6 (by decide) ?_
    refine lv_icmp_le (tgt := 21) hx hb dX11_checkLevel_7 (by decide) (fun cc => ?_) (fun cc => ?_)
    · replace h := (if_pos cc).symm.trans h
      cases h
      exact x_void F hr (Nat.le_of_ble_eq_true rfl) (Nat.le_of_ble_eq_true rfl) hW hS dX11_checkLevel_21
    · replace h := (if_neg cc).symm.trans h
      exact wk_X11_checkLevel_10 F hr hlT hnt h hW hS (lv_sub hl [] rfl)
set_option maxHeartbeats 4000000 in
set_option maxRecDepth 100000 in
theorem c_X11_checkLevel {l : Launch} (hlT : l.stackTraces = false) {G : Gt} {b : Nat} {a1 : Int32} {μ : Mm} {out : (Nat ⊕ Unit)} (h : sh_X11_checkLevel a1 μ = some out) : vx_Met l yX11_checkLevel (wU (Cond.code yX11_checkLevel cX11_checkLevel 2 none)) ({ frames := 6, cells := 1, slots := 6, locals := 90 } : Room) (PcW G b μ [.ref (b + 0), .int a1]) (QN G b (Sum.elim (fun _ => none) (fun (v : Unit) => some (μ, none)) out)) (XN G b (Sum.elim (fun (q : Nat) => some (q, μ)) (fun _ => none) out)) 1 6 (fb b) :=
  xmet_of [.ref (b + 0), .int a1] (by decide) (Nat.le_of_ble_eq_true rfl) (fun F hr hnt hW hl => wk_X11_checkLevel F hr hlT hnt h hW va_S.rf hl)
set_option maxHeartbeats 4000000 in
set_option maxRecDepth 100000 in
theorem k_X11_checkLevel {own : String} {nL : Nat} (F : FX G b own cc nL p s m args meth c) (hlT : l.stackTraces = false) {a1 : Int32} {μ : Mm} {out : (Nat ⊕ Unit)} (h : sh_X11_checkLevel a1 μ = some out) {index : Nat} (hl : Cond.methodLink own index yX11_checkLevel ∈ TBG) (hR : 6 + 1 ≤ R.frames ∧ 8 + (2 + 11) + 90 ≤ R.locals ∧ cells + 1 ≤ R.cells ∧ slots + 6 ≤ R.slots) (hW : WH G b μ H) (hS : va_S (fb b) s.heap H locs) (hsz : ls.size = nL) (hrest : (rest.map fun v => v.category).sum ≤ 8) (hdg : decode cc pc = .ok (.invokevirtual index, 3))
    (kx : ∀ (q : Nat), out = .inl q → ∀ (ce : Cell) (q9 : Addr) (H1 : Heap) (locs1 : List Loc), WH G b μ H1 → va_S (fb b) s.heap H1 locs1 → H1[q9]? = some ce → ce.vm = .none → s.vm.findClass (exN q) = some ce.cls → vx_W p l e R s m args below meth c H1 locs1 (cells + 1) (slots + 6) Q (F0 m pc ls rest) q9)
    (kk : ∀ (v : Unit), out = .inr v → ∀ (H1 : Heap) (locs1 : List Loc), WH G b μ H1 → va_S (fb b) s.heap H1 locs1 → W p l e R s m args below meth c H1 locs1 (cells + 1) (slots + 6) Q (F0 m (pc + 3) ls (rest))) : W p l e R s m args below meth c H locs cells slots Q (F0 m pc ls (.int a1 :: .ref (b + 0) :: rest)) := by
  cases out with
  | inl q => exact fx_callV (As := [.int a1]) (ci := 11) (c_X11_checkLevel hlT h) ⟨rfl, rfl⟩ rfl (ky_lt kyf_0 (by decide)) (wF_11 kyf_0) q_1299 qp_36 q_1 q_1300 rfl ⟨by decide +kernel, by decide +kernel, (show (parseMethodDescriptor yX11_checkLevel.desc).map (fun d => d.parameters.length) = some 1 by decide +kernel)⟩ F hl hR hW hS hsz hrest rfl hdg (fun z hz => by obtain rfl := Option.some.inj hz; exact kx _ rfl) (fun z hz => nomatch (show (none : Option (Mm × Option Value)) = some z from hz))
  | inr v => exact fx_callV (As := [.int a1]) (ci := 11) (c_X11_checkLevel hlT h) ⟨rfl, rfl⟩ rfl (ky_lt kyf_0 (by decide)) (wF_11 kyf_0) q_1299 qp_36 q_1 q_1300 rfl ⟨by decide +kernel, by decide +kernel, (show (parseMethodDescriptor yX11_checkLevel.desc).map (fun d => d.parameters.length) = some 1 by decide +kernel)⟩ F hl hR hW hS hsz hrest rfl hdg (fun z hz => nomatch (show (none : Option (Nat × Mm)) = some z from hz)) (fun z hz => by obtain rfl := Option.some.inj hz; exact kk _ rfl)
set_option maxHeartbeats 4000000 in
set_option maxRecDepth 100000 in
theorem wk_X11_setLevel {n : Nat} {a1 : Int32} {a2 : Int32} {μ : Mm} {out : ((Nat × Mm) ⊕ (Int32 × Mm))} (F : FX G b RX11 cX11_setLevel 4 p s m args meth c) (hr : meth.sig.returnType = some .int) (hlT : l.stackTraces = false) (hnt : ∀ x ∈ c.exceptionTable.toList, False) (h : sh_X11_setLevel n a1 a2 μ = some out) (hW : WH G b μ H) (hS : va_S (fb b) s.heap H locs) (hl : lv_has ls 4 [(0, .ref (b + 0)), (1, .int a1), (2, .int a2)]) : W p l e ({ frames := 7, cells := 3, slots := 18, locals := 143 } : Room) s m args below meth c H locs 0 0 (vx_MQ below (QN G b (Sum.elim (fun _ => none) (fun (v : (Int32 × Mm)) => some (v.2, (some (.int v.1)))) out)) (XN G b (Sum.elim (fun (q : Nat × Mm) => some q) (fun _ => none) out)) args s 3 18 (fb b)) (F0 m 0 ls []) := by
  have hx := F.1
  have hb := F.2.1
  unfold sh_X11_setLevel at h
  refine lv_aload_n hx hb dX11_setLevel_0 rfl (lv_at hl 0 rfl) ?_
  refine lv_iload_n hx hb dX11_setLevel_1 rfl (lv_at hl 1 rfl) ?_
  obtain ⟨r1, qr1, h⟩ := ob h
  refine k_X11_checkSection F hlT qr1 q_1104 ⟨Nat.le_of_ble_eq_true rfl, Nat.le_of_ble_eq_true rfl, Nat.le_of_ble_eq_true rfl, Nat.le_of_ble_eq_true rfl⟩ hW hS hl.1 (Nat.le_of_ble_eq_true rfl) dX11_setLevel_2 (fun ec he ce q9 H locs hW hS hc1 hc2 hc3 => ?_) (fun v2 he H locs hW hS => ?_)
  · subst he
    cases h
    exact x_out F hnt (Nat.le_of_ble_eq_true rfl) (Nat.le_of_ble_eq_true rfl) hW hS hc1 hc2 hc3
  subst he
  replace h := (Sum.elim_inr _ _ _).symm.trans h
  refine lv_aload_n hx hb dX11_setLevel_5 rfl (lv_at hl 0 rfl) ?_
  refine lv_iload_n hx hb dX11_setLevel_6 rfl (lv_at hl 2 rfl) ?_
  obtain ⟨r3, qr3, h⟩ := ob h
  refine k_X11_checkLevel F hlT qr3 q_1297 ⟨Nat.le_of_ble_eq_true rfl, Nat.le_of_ble_eq_true rfl, Nat.le_of_ble_eq_true rfl, Nat.le_of_ble_eq_true rfl⟩ hW hS hl.1 (Nat.le_of_ble_eq_true rfl) dX11_setLevel_7 (fun ec he ce q9 H locs hW hS hc1 hc2 hc3 => ?_) (fun v4 he H locs hW hS => ?_)
  · subst he
    cases h
    exact x_out F hnt (Nat.le_of_ble_eq_true rfl) (Nat.le_of_ble_eq_true rfl) hW hS hc1 hc2 hc3
  subst he
  replace h := (Sum.elim_inr _ _ _).symm.trans h
  refine lv_aload_n hx hb dX11_setLevel_10 rfl (lv_at hl 0 rfl) ?_
  refine fl_get11 (v := .ref (b + 10)) kyf_0 F hW 5 (by decide) q_537 rfl rfl dX11_setLevel_11 ?_
  refine fl_get6 (v := .ref (b + 11)) kyf_10 F hW 0 (by decide) q_212 rfl rfl dX11_setLevel_14 ?_
  refine lv_aload_n hx hb dX11_setLevel_17 rfl (lv_at hl 0 rfl) ?_
  refine fl_get11 (v := .ref (b + 10)) kyf_0 F hW 5 (by decide) q_537 rfl rfl dX11_setLevel_18 ?_
  refine fl_get6 (v := .ref (b + 11)) kyf_10 F hW 0 (by decide) q_212 rfl rfl dX11_setLevel_21 ?_
  refine lv_iload_n hx hb dX11_setLevel_24 rfl (lv_at hl 1 rfl) ?_
  obtain ⟨r5, qr5, h⟩ := ob h
  refine k_X0_partOf F ok_11 qr5 q_1124 ⟨Nat.le_of_ble_eq_true rfl, Nat.le_of_ble_eq_true rfl, Nat.le_of_ble_eq_true rfl, Nat.le_of_ble_eq_true rfl⟩ hW hS hl.1 (Nat.le_of_ble_eq_true rfl) dX11_setLevel_25 (fun H locs hW hS => ?_)
  refine lv_iload_n hx hb dX11_setLevel_28 rfl (lv_at hl 1 rfl) ?_
  refine lv_iload_n hx hb dX11_setLevel_29 rfl (lv_at hl 1 rfl) ?_
  refine lv_iconst (v := (1 : Int32)) hx hb dX11_setLevel_30 (by decide) ?_
  refine lv_iadd hx hb dX11_setLevel_31 ?_
  refine lv_iload_n hx hb dX11_setLevel_32 rfl (lv_at hl 2 rfl) ?_
  obtain ⟨r6, qr6, h⟩ := ob h
  refine k_X0_levelStands F ok_11 qr6 q_1302 ⟨Nat.le_of_ble_eq_true rfl, Nat.le_of_ble_eq_true rfl, Nat.le_of_ble_eq_true rfl, Nat.le_of_ble_eq_true rfl⟩ hW hS hl.1 (Nat.le_of_ble_eq_true rfl) dX11_setLevel_33 (fun H locs hW hS => ?_)
  refine lv_if_ne (tgt := 50) hx hb dX11_setLevel_36 (by decide) (fun cc => ?_) (fun cc => ?_)
  · replace h := (if_neg cc).symm.trans h
    refine lv_aload_n hx hb dX11_setLevel_50 rfl (lv_at hl 0 rfl) ?_
    obtain ⟨r7, qr7, h⟩ := ob h
    refine k_X11_keepForUndo F qr7 q_761 ⟨Nat.le_of_ble_eq_true rfl, Nat.le_of_ble_eq_true rfl, Nat.le_of_ble_eq_true rfl, Nat.le_of_ble_eq_true rfl⟩ hW hS hl.1 (Nat.le_of_ble_eq_true rfl) dX11_setLevel_51 (fun H locs hW hS => ?_)
    refine lv_aload_n hx hb dX11_setLevel_54 rfl (lv_at hl 0 rfl) ?_
    refine fl_get11 (v := .ref (b + 10)) kyf_0 F hW 5 (by decide) q_537 rfl rfl dX11_setLevel_55 ?_
    refine fl_get6 (v := .ref (b + 11)) kyf_10 F hW 0 (by decide) q_212 rfl rfl dX11_setLevel_58 ?_
    refine fl_get0 (v := .ref (b + 14)) kyf_11 F hW 4 (by decide) q_174 rfl rfl dX11_setLevel_61 ?_
    refine lv_iload_n hx hb dX11_setLevel_64 rfl (lv_at hl 1 rfl) ?_
    obtain ⟨r8, qr8, h⟩ := ob h
    refine k_X5_at F ok_14 qr8 q_883 ⟨Nat.le_of_ble_eq_true rfl, Nat.le_of_ble_eq_true rfl, Nat.le_of_ble_eq_true rfl, Nat.le_of_ble_eq_true rfl⟩ hW hS hl.1 (Nat.le_of_ble_eq_true rfl) dX11_setLevel_65 (fun H locs hW hS => ?_)
    refine lv_istore_n (lv' := [(3, .int r8), (0, .ref (b + 0)), (1, .int a1), (2, .int a2)]) hx hb dX11_setLevel_68 rfl hl (by decide) rfl (fun ls hl => ?_)
    refine lv_aload_n hx hb dX11_setLevel_69 rfl (lv_at hl 1 rfl) ?_
    refine fl_get11 (v := .ref (b + 10)) kyf_0 F hW 5 (by decide) q_537 rfl rfl dX11_setLevel_70 ?_
    refine fl_get6 (v := .ref (b + 11)) kyf_10 F hW 0 (by decide) q_212 rfl rfl dX11_setLevel_73 ?_
    refine fl_get0 (v := .ref (b + 14)) kyf_11 F hW 4 (by decide) q_174 rfl rfl dX11_setLevel_76 ?_
    refine lv_iload_n hx hb dX11_setLevel_79 rfl (lv_at hl 2 rfl) ?_
    refine lv_iload_n hx hb dX11_setLevel_80 rfl (lv_at hl 3 rfl) ?_
    obtain ⟨r9, qr9, h⟩ := ob h
    refine k_X5_put F ok_14 qr9 q_966 ⟨Nat.le_of_ble_eq_true rfl, Nat.le_of_ble_eq_true rfl, Nat.le_of_ble_eq_true rfl, Nat.le_of_ble_eq_true rfl⟩ hW hS hl.1 (Nat.le_of_ble_eq_true rfl) dX11_setLevel_81 (fun H locs hW hS => ?_)
    refine lv_aload_n hx hb dX11_setLevel_84 rfl (lv_at hl 1 rfl) ?_
    refine fl_get11 (v := .ref (b + 38)) kyf_0 F hW 9 (by decide) q_541 rfl rfl dX11_setLevel_85 ?_
    refine lv_aload_n hx hb dX11_setLevel_88 rfl (lv_at hl 1 rfl) ?_
    refine fl_get11 (v := .ref (b + 10)) kyf_0 F hW 5 (by decide) q_537 rfl rfl dX11_setLevel_89 ?_
    refine fl_get6 (v := .ref (b + 11)) kyf_10 F hW 0 (by decide) q_212 rfl rfl dX11_setLevel_92 ?_
    obtain ⟨r10, qr10, h⟩ := ob h
    refine k_X1_layAnew F ok_38 ok_11 qr10 q_405 ⟨Nat.le_of_ble_eq_true rfl, Nat.le_of_ble_eq_true rfl, Nat.le_of_ble_eq_true rfl, Nat.le_of_ble_eq_true rfl⟩ hW hS hl.1 (Nat.le_of_ble_eq_true rfl) dX11_setLevel_95 (fun H locs hW hS => ?_)
    refine lv_iload_n hx hb dX11_setLevel_98 rfl (lv_at hl 0 rfl) ?_
    cases h
    exact x_int F hr (Nat.le_of_ble_eq_true rfl) (Nat.le_of_ble_eq_true rfl) hW hS dX11_setLevel_99
  · replace h := (if_pos cc).symm.trans h
    cases h
    exact x_throwW (ec := 1) F hlT hnt q_1064 q_19 (is := 333) (text := "a section would have a level that cannot be") (t := 28) (by decide +kernel) (by decide +kernel) (hat_1 F.2.2.2.2.1 F.2.2.2.2.2.2.1) hgd_1 hl.1 dX11_setLevel_39 dX11_setLevel_42 dX11_setLevel_43 dX11_setLevel_46 dX11_setLevel_49 ⟨Nat.le_of_ble_eq_true rfl, Nat.le_of_ble_eq_true rfl, Nat.le_of_ble_eq_true rfl, Nat.le_of_ble_eq_true rfl⟩ (Nat.le_of_ble_eq_true rfl) (Nat.le_of_ble_eq_true rfl) hW hS
set_option maxHeartbeats 4000000 in
set_option maxRecDepth 100000 in
theorem c_X11_setLevel {l : Launch} (hlT : l.stackTraces = false) {G : Gt} {b : Nat} {n : Nat} {a1 : Int32} {a2 : Int32} {μ : Mm} {out : ((Nat × Mm) ⊕ (Int32 × Mm))} (h : sh_X11_setLevel n a1 a2 μ = some out) : vx_Met l yX11_setLevel (wU (Cond.code yX11_setLevel cX11_setLevel 4 (some .int))) ({ frames := 7, cells := 3, slots := 18, locals := 143 } : Room) (PcW G b μ [.ref (b + 0), .int a1, .int a2]) (QN G b (Sum.elim (fun _ => none) (fun (v : (Int32 × Mm)) => some (v.2, (some (.int v.1)))) out)) (XN G b (Sum.elim (fun (q : Nat × Mm) => some q) (fun _ => none) out)) 3 18 (fb b) :=
  xmet_of [.ref (b + 0), .int a1, .int a2] (by decide) (Nat.le_of_ble_eq_true rfl) (fun F hr hnt hW hl => wk_X11_setLevel F hr hlT hnt h hW va_S.rf hl)
set_option maxHeartbeats 4000000 in
set_option maxRecDepth 100000 in
theorem k_X11_setLevel {own : String} {nL : Nat} (F : FX G b own cc nL p s m args meth c) (hlT : l.stackTraces = false) {n : Nat} {a1 : Int32} {a2 : Int32} {μ : Mm} {out : ((Nat × Mm) ⊕ (Int32 × Mm))} (h : sh_X11_setLevel n a1 a2 μ = some out) {index : Nat} (hl : Cond.methodLink own index yX11_setLevel ∈ TBG) (hR : 7 + 1 ≤ R.frames ∧ 8 + (4 + 11) + 143 ≤ R.locals ∧ cells + 3 ≤ R.cells ∧ slots + 18 ≤ R.slots) (hW : WH G b μ H) (hS : va_S (fb b) s.heap H locs) (hsz : ls.size = nL) (hrest : (rest.map fun v => v.category).sum ≤ 8) (hdg : decode cc pc = .ok (.invokevirtual index, 3))
    (kx : ∀ (q : Nat × Mm), out = .inl q → ∀ (ce : Cell) (q9 : Addr) (H1 : Heap) (locs1 : List Loc), WH G b q.2 H1 → va_S (fb b) s.heap H1 locs1 → H1[q9]? = some ce → ce.vm = .none → s.vm.findClass (exN q.1) = some ce.cls → vx_W p l e R s m args below meth c H1 locs1 (cells + 3) (slots + 18) Q (F0 m pc ls rest) q9)
    (kk : ∀ (v : (Int32 × Mm)), out = .inr v → ∀ (H1 : Heap) (locs1 : List Loc), WH G b v.2 H1 → va_S (fb b) s.heap H1 locs1 → W p l e R s m args below meth c H1 locs1 (cells + 3) (slots + 18) Q (F0 m (pc + 3) ls (.int v.1 :: rest))) : W p l e R s m args below meth c H locs cells slots Q (F0 m pc ls (.int a2 :: .int a1 :: .ref (b + 0) :: rest)) := by
  cases out with
  | inl q => exact fx_callV (As := [.int a1, .int a2]) (ci := 11) (c_X11_setLevel hlT h) ⟨rfl, rfl⟩ rfl (ky_lt kyf_0 (by decide)) (wF_11 kyf_0) q_1294 q_1295 q_1 q_1296 rfl ⟨by decide +kernel, by decide +kernel, (show (parseMethodDescriptor yX11_setLevel.desc).map (fun d => d.parameters.length) = some 2 by decide +kernel)⟩ F hl hR hW hS hsz hrest rfl hdg (fun z hz => by obtain rfl := Option.some.inj hz; exact kx _ rfl) (fun z hz => nomatch (show (none : Option (Mm × Option Value)) = some z from hz))
  | inr v => exact fx_callV (As := [.int a1, .int a2]) (ci := 11) (c_X11_setLevel hlT h) ⟨rfl, rfl⟩ rfl (ky_lt kyf_0 (by decide)) (wF_11 kyf_0) q_1294 q_1295 q_1 q_1296 rfl ⟨by decide +kernel, by decide +kernel, (show (parseMethodDescriptor yX11_setLevel.desc).map (fun d => d.parameters.length) = some 2 by decide +kernel)⟩ F hl hR hW hS hsz hrest rfl hdg (fun z hz => nomatch (show (none : Option (Nat × Mm)) = some z from hz)) (fun z hz => by obtain rfl := Option.some.inj hz; exact kk _ rfl)
set_option maxHeartbeats 4000000 in
set_option maxRecDepth 100000 in
theorem wk_X11_checkTitle {n : Nat} {μ : Mm} {out : ((Nat × Mm) ⊕ Mm)} (F : FX G b RX11 cX11_checkTitle 1 p s m args meth c) (hr : meth.sig.returnType = none) (hlT : l.stackTraces = false) (hnt : ∀ x ∈ c.exceptionTable.toList, False) (h : sh_X11_checkTitle n  μ = some out) (hW : WH G b μ H) (hS : va_S (fb b) s.heap H locs) (hl : lv_has ls 1 [(0, .ref (b + 0))]) : W p l e ({ frames := 6, cells := 1, slots := 6, locals := 90 } : Room) s m args below meth c H locs 0 0 (vx_MQ below (QN G b (Sum.elim (fun _ => none) (fun (v : Mm) => some (v, none)) out)) (XN G b (Sum.elim (fun (q : Nat × Mm) => some q) (fun _ => none) out)) args s 1 6 (fb b)) (F0 m 0 ls []) := by
  have hx := F.1
  have hb := F.2.1
  unfold sh_X11_checkTitle at h
  refine lv_aload_n hx hb dX11_checkTitle_0 rfl (lv_at hl 0 rfl) ?_
  refine fl_get11 (v := .ref (b + 5)) kyf_0 F hW 2 (by decide) q_534 rfl rfl dX11_checkTitle_1 ?_
  refine lv_aload_n hx hb dX11_checkTitle_4 rfl (lv_at hl 0 rfl) ?_
  refine fl_get11 (v := .ref (b + 1)) kyf_0 F hW 0 (by decide) q_532 rfl rfl dX11_checkTitle_5 ?_
  obtain ⟨r1, qr1, h⟩ := ob h
  refine k_X4_readTitle F ok_1 qr1 q_1320 ⟨Nat.le_of_ble_eq_true rfl, Nat.le_of_ble_eq_true rfl, Nat.le_of_ble_eq_true rfl, Nat.le_of_ble_eq_true rfl⟩ hW hS hl.1 (Nat.le_of_ble_eq_true rfl) dX11_checkTitle_8 (fun H locs hW hS => ?_)
  refine lv_if_ne (tgt := 25) hx hb dX11_checkTitle_11 (by decide) (fun cc => ?_) (fun cc => ?_)
  · replace h := (if_neg cc).symm.trans h
    cases h
    exact x_void F hr (Nat.le_of_ble_eq_true rfl) (Nat.le_of_ble_eq_true rfl) hW hS dX11_checkTitle_25
  · replace h := (if_pos cc).symm.trans h
    cases h
    exact x_throwW (ec := 1) F hlT hnt q_1064 q_19 (is := 454) (text := "the input is not a title") (t := 29) (by decide +kernel) (by decide +kernel) (hat_1 F.2.2.2.2.1 F.2.2.2.2.2.2.1) hgd_1 hl.1 dX11_checkTitle_14 dX11_checkTitle_17 dX11_checkTitle_18 dX11_checkTitle_21 dX11_checkTitle_24 ⟨Nat.le_of_ble_eq_true rfl, Nat.le_of_ble_eq_true rfl, Nat.le_of_ble_eq_true rfl, Nat.le_of_ble_eq_true rfl⟩ (Nat.le_of_ble_eq_true rfl) (Nat.le_of_ble_eq_true rfl) hW hS
set_option maxHeartbeats 4000000 in
set_option maxRecDepth 100000 in
theorem c_X11_checkTitle {l : Launch} (hlT : l.stackTraces = false) {G : Gt} {b : Nat} {n : Nat} {μ : Mm} {out : ((Nat × Mm) ⊕ Mm)} (h : sh_X11_checkTitle n  μ = some out) : vx_Met l yX11_checkTitle (wU (Cond.code yX11_checkTitle cX11_checkTitle 1 none)) ({ frames := 6, cells := 1, slots := 6, locals := 90 } : Room) (PcW G b μ [.ref (b + 0)]) (QN G b (Sum.elim (fun _ => none) (fun (v : Mm) => some (v, none)) out)) (XN G b (Sum.elim (fun (q : Nat × Mm) => some q) (fun _ => none) out)) 1 6 (fb b) :=
  xmet_of [.ref (b + 0)] (by decide) (Nat.le_of_ble_eq_true rfl) (fun F hr hnt hW hl => wk_X11_checkTitle F hr hlT hnt h hW va_S.rf hl)
set_option maxHeartbeats 4000000 in
set_option maxRecDepth 100000 in
theorem k_X11_checkTitle {own : String} {nL : Nat} (F : FX G b own cc nL p s m args meth c) (hlT : l.stackTraces = false) {n : Nat} {μ : Mm} {out : ((Nat × Mm) ⊕ Mm)} (h : sh_X11_checkTitle n  μ = some out) {index : Nat} (hl : Cond.methodLink own index yX11_checkTitle ∈ TBG) (hR : 6 + 1 ≤ R.frames ∧ 8 + (1 + 11) + 90 ≤ R.locals ∧ cells + 1 ≤ R.cells ∧ slots + 6 ≤ R.slots) (hW : WH G b μ H) (hS : va_S (fb b) s.heap H locs) (hsz : ls.size = nL) (hrest : (rest.map fun v => v.category).sum ≤ 8) (hdg : decode cc pc = .ok (.invokevirtual index, 3))
    (kx : ∀ (q : Nat × Mm), out = .inl q → ∀ (ce : Cell) (q9 : Addr) (H1 : Heap) (locs1 : List Loc), WH G b q.2 H1 → va_S (fb b) s.heap H1 locs1 → H1[q9]? = some ce → ce.vm = .none → s.vm.findClass (exN q.1) = some ce.cls → vx_W p l e R s m args below meth c H1 locs1 (cells + 1) (slots + 6) Q (F0 m pc ls rest) q9)
    (kk : ∀ (v : Mm), out = .inr v → ∀ (H1 : Heap) (locs1 : List Loc), WH G b v H1 → va_S (fb b) s.heap H1 locs1 → W p l e R s m args below meth c H1 locs1 (cells + 1) (slots + 6) Q (F0 m (pc + 3) ls (rest))) : W p l e R s m args below meth c H locs cells slots Q (F0 m pc ls (.ref (b + 0) :: rest)) := by
  cases out with
  | inl q => exact fx_callV (As := []) (ci := 11) (c_X11_checkTitle hlT h) ⟨rfl, rfl⟩ rfl (ky_lt kyf_0 (by decide)) (wF_11 kyf_0) q_1318 qp_37 q_1 q_1319 rfl ⟨by decide +kernel, by decide +kernel, (show (parseMethodDescriptor yX11_checkTitle.desc).map (fun d => d.parameters.length) = some 0 by decide +kernel)⟩ F hl hR hW hS hsz hrest rfl hdg (fun z hz => by obtain rfl := Option.some.inj hz; exact kx _ rfl) (fun z hz => nomatch (show (none : Option (Mm × Option Value)) = some z from hz))
  | inr v => exact fx_callV (As := []) (ci := 11) (c_X11_checkTitle hlT h) ⟨rfl, rfl⟩ rfl (ky_lt kyf_0 (by decide)) (wF_11 kyf_0) q_1318 qp_37 q_1 q_1319 rfl ⟨by decide +kernel, by decide +kernel, (show (parseMethodDescriptor yX11_checkTitle.desc).map (fun d => d.parameters.length) = some 0 by decide +kernel)⟩ F hl hR hW hS hsz hrest rfl hdg (fun z hz => nomatch (show (none : Option (Nat × Mm)) = some z from hz)) (fun z hz => by obtain rfl := Option.some.inj hz; exact kk _ rfl)
set_option maxHeartbeats 4000000 in
set_option maxRecDepth 100000 in
theorem wk_X11_setTitle {n : Nat} {a1 : Int32} {μ : Mm} {out : ((Nat × Mm) ⊕ (Int32 × Mm))} (F : FX G b RX11 cX11_setTitle 3 p s m args meth c) (hr : meth.sig.returnType = some .int) (hlT : l.stackTraces = false) (hnt : ∀ x ∈ c.exceptionTable.toList, False) (h : sh_X11_setTitle n a1 μ = some out) (hW : WH G b μ H) (hS : va_S (fb b) s.heap H locs) (hl : lv_has ls 3 [(0, .ref (b + 0)), (1, .int a1)]) : W p l e ({ frames := 7, cells := 2, slots := 12, locals := 143 } : Room) s m args below meth c H locs 0 0 (vx_MQ below (QN G b (Sum.elim (fun _ => none) (fun (v : (Int32 × Mm)) => some (v.2, (some (.int v.1)))) out)) (XN G b (Sum.elim (fun (q : Nat × Mm) => some q) (fun _ => none) out)) args s 2 12 (fb b)) (F0 m 0 ls []) := by
  have hx := F.1
  have hb := F.2.1
  unfold sh_X11_setTitle at h
  refine lv_aload_n hx hb dX11_setTitle_0 rfl (lv_at hl 0 rfl) ?_
  refine lv_iload_n hx hb dX11_setTitle_1 rfl (lv_at hl 1 rfl) ?_
  obtain ⟨r1, qr1, h⟩ := ob h
  refine k_X11_checkSection F hlT qr1 q_1104 ⟨Nat.le_of_ble_eq_true rfl, Nat.le_of_ble_eq_true rfl, Nat.le_of_ble_eq_true rfl, Nat.le_of_ble_eq_true rfl⟩ hW hS hl.1 (Nat.le_of_ble_eq_true rfl) dX11_setTitle_2 (fun ec he ce q9 H locs hW hS hc1 hc2 hc3 => ?_) (fun v2 he H locs hW hS => ?_)
  · subst he
    cases h
    exact x_out F hnt (Nat.le_of_ble_eq_true rfl) (Nat.le_of_ble_eq_true rfl) hW hS hc1 hc2 hc3
  subst he
  replace h := (Sum.elim_inr _ _ _).symm.trans h
  refine lv_aload_n hx hb dX11_setTitle_5 rfl (lv_at hl 0 rfl) ?_
  obtain ⟨r3, qr3, h⟩ := ob h
  refine k_X11_checkTitle F hlT qr3 q_1316 ⟨Nat.le_of_ble_eq_true rfl, Nat.le_of_ble_eq_true rfl, Nat.le_of_ble_eq_true rfl, Nat.le_of_ble_eq_true rfl⟩ hW hS hl.1 (Nat.le_of_ble_eq_true rfl) dX11_setTitle_6 (fun qe he ce q9 H locs hW hS hc1 hc2 hc3 => ?_) (fun v4 he H locs hW hS => ?_)
  · subst he
    cases h
    exact x_out F hnt (Nat.le_of_ble_eq_true rfl) (Nat.le_of_ble_eq_true rfl) hW hS hc1 hc2 hc3
  subst he
  replace h := (Sum.elim_inr _ _ _).symm.trans h
  refine lv_aload_n hx hb dX11_setTitle_9 rfl (lv_at hl 0 rfl) ?_
  obtain ⟨r5, qr5, h⟩ := ob h
  refine k_X11_keepForUndo F qr5 q_761 ⟨Nat.le_of_ble_eq_true rfl, Nat.le_of_ble_eq_true rfl, Nat.le_of_ble_eq_true rfl, Nat.le_of_ble_eq_true rfl⟩ hW hS hl.1 (Nat.le_of_ble_eq_true rfl) dX11_setTitle_10 (fun H locs hW hS => ?_)
  refine lv_aload_n hx hb dX11_setTitle_13 rfl (lv_at hl 0 rfl) ?_
  refine fl_get11 (v := .ref (b + 10)) kyf_0 F hW 5 (by decide) q_537 rfl rfl dX11_setTitle_14 ?_
  refine fl_get6 (v := .ref (b + 11)) kyf_10 F hW 0 (by decide) q_212 rfl rfl dX11_setTitle_17 ?_
  refine fl_get0 (v := .ref (b + 18)) kyf_11 F hW 6 (by decide) q_184 rfl rfl dX11_setTitle_20 ?_
  refine lv_iload_n hx hb dX11_setTitle_23 rfl (lv_at hl 1 rfl) ?_
  obtain ⟨r6, qr6, h⟩ := ob h
  refine k_X5_at F ok_18 qr6 q_883 ⟨Nat.le_of_ble_eq_true rfl, Nat.le_of_ble_eq_true rfl, Nat.le_of_ble_eq_true rfl, Nat.le_of_ble_eq_true rfl⟩ hW hS hl.1 (Nat.le_of_ble_eq_true rfl) dX11_setTitle_24 (fun H locs hW hS => ?_)
  refine lv_istore_n (lv' := [(2, .int r6), (0, .ref (b + 0)), (1, .int a1)]) hx hb dX11_setTitle_27 rfl hl (by decide) rfl (fun ls hl => ?_)
  refine lv_aload_n hx hb dX11_setTitle_28 rfl (lv_at hl 1 rfl) ?_
  refine fl_get11 (v := .ref (b + 10)) kyf_0 F hW 5 (by decide) q_537 rfl rfl dX11_setTitle_29 ?_
  refine fl_get6 (v := .ref (b + 11)) kyf_10 F hW 0 (by decide) q_212 rfl rfl dX11_setTitle_32 ?_
  refine lv_iload_n hx hb dX11_setTitle_35 rfl (lv_at hl 2 rfl) ?_
  refine lv_aload_n hx hb dX11_setTitle_36 rfl (lv_at hl 1 rfl) ?_
  refine fl_get11 (v := .ref (b + 5)) kyf_0 F hW 2 (by decide) q_534 rfl rfl dX11_setTitle_37 ?_
  refine fl_get4 (v := .ref (b + 6)) kyf_5 F hW 2 (by decide) q_78 rfl rfl dX11_setTitle_40 ?_
  refine lv_aload_n hx hb dX11_setTitle_43 rfl (lv_at hl 1 rfl) ?_
  refine fl_get11 (v := .ref (b + 5)) kyf_0 F hW 2 (by decide) q_534 rfl rfl dX11_setTitle_44 ?_
  refine fl_get4 (v := .int (r5.1 5 3)) kyf_5 F hW 3 (by decide) q_80 rfl rfl dX11_setTitle_47 ?_
  obtain ⟨r7, qr7, h⟩ := ob h
  refine k_X0_entitle F ok_11 ok_6 qr7 q_1325 ⟨Nat.le_of_ble_eq_true rfl, Nat.le_of_ble_eq_true rfl, Nat.le_of_ble_eq_true rfl, Nat.le_of_ble_eq_true rfl⟩ hW hS hl.1 (Nat.le_of_ble_eq_true rfl) dX11_setTitle_50 (fun H locs hW hS => ?_)
  refine lv_aload_n hx hb dX11_setTitle_53 rfl (lv_at hl 1 rfl) ?_
  refine fl_get11 (v := .ref (b + 1)) kyf_0 F hW 0 (by decide) q_532 rfl rfl dX11_setTitle_54 ?_
  refine lv_iconst (v := (0 : Int32)) hx hb dX11_setTitle_57 (by decide) ?_
  obtain ⟨r8, qr8, h⟩ := ob h
  refine k_X8_cut F ok_1 qr8 q_757 ⟨Nat.le_of_ble_eq_true rfl, Nat.le_of_ble_eq_true rfl, Nat.le_of_ble_eq_true rfl, Nat.le_of_ble_eq_true rfl⟩ hW hS hl.1 (Nat.le_of_ble_eq_true rfl) dX11_setTitle_58 (fun H locs hW hS => ?_)
  refine lv_aload_n hx hb dX11_setTitle_61 rfl (lv_at hl 1 rfl) ?_
  refine fl_get11 (v := .ref (b + 38)) kyf_0 F hW 9 (by decide) q_541 rfl rfl dX11_setTitle_62 ?_
  refine lv_aload_n hx hb dX11_setTitle_65 rfl (lv_at hl 1 rfl) ?_
  refine fl_get11 (v := .ref (b + 10)) kyf_0 F hW 5 (by decide) q_537 rfl rfl dX11_setTitle_66 ?_
  refine fl_get6 (v := .ref (b + 11)) kyf_10 F hW 0 (by decide) q_212 rfl rfl dX11_setTitle_69 ?_
  obtain ⟨r9, qr9, h⟩ := ob h
  refine k_X1_layAnew F ok_38 ok_11 qr9 q_405 ⟨Nat.le_of_ble_eq_true rfl, Nat.le_of_ble_eq_true rfl, Nat.le_of_ble_eq_true rfl, Nat.le_of_ble_eq_true rfl⟩ hW hS hl.1 (Nat.le_of_ble_eq_true rfl) dX11_setTitle_72 (fun H locs hW hS => ?_)
  refine lv_iload_n hx hb dX11_setTitle_75 rfl (lv_at hl 0 rfl) ?_
  cases h
  exact x_int F hr (Nat.le_of_ble_eq_true rfl) (Nat.le_of_ble_eq_true rfl) hW hS dX11_setTitle_76
set_option maxHeartbeats 4000000 in
set_option maxRecDepth 100000 in
theorem c_X11_setTitle {l : Launch} (hlT : l.stackTraces = false) {G : Gt} {b : Nat} {n : Nat} {a1 : Int32} {μ : Mm} {out : ((Nat × Mm) ⊕ (Int32 × Mm))} (h : sh_X11_setTitle n a1 μ = some out) : vx_Met l yX11_setTitle (wU (Cond.code yX11_setTitle cX11_setTitle 3 (some .int))) ({ frames := 7, cells := 2, slots := 12, locals := 143 } : Room) (PcW G b μ [.ref (b + 0), .int a1]) (QN G b (Sum.elim (fun _ => none) (fun (v : (Int32 × Mm)) => some (v.2, (some (.int v.1)))) out)) (XN G b (Sum.elim (fun (q : Nat × Mm) => some q) (fun _ => none) out)) 2 12 (fb b) :=
  xmet_of [.ref (b + 0), .int a1] (by decide) (Nat.le_of_ble_eq_true rfl) (fun F hr hnt hW hl => wk_X11_setTitle F hr hlT hnt h hW va_S.rf hl)
set_option maxHeartbeats 4000000 in
set_option maxRecDepth 100000 in
theorem k_X11_setTitle {own : String} {nL : Nat} (F : FX G b own cc nL p s m args meth c) (hlT : l.stackTraces = false) {n : Nat} {a1 : Int32} {μ : Mm} {out : ((Nat × Mm) ⊕ (Int32 × Mm))} (h : sh_X11_setTitle n a1 μ = some out) {index : Nat} (hl : Cond.methodLink own index yX11_setTitle ∈ TBG) (hR : 7 + 1 ≤ R.frames ∧ 8 + (3 + 11) + 143 ≤ R.locals ∧ cells + 2 ≤ R.cells ∧ slots + 12 ≤ R.slots) (hW : WH G b μ H) (hS : va_S (fb b) s.heap H locs) (hsz : ls.size = nL) (hrest : (rest.map fun v => v.category).sum ≤ 8) (hdg : decode cc pc = .ok (.invokevirtual index, 3))
    (kx : ∀ (q : Nat × Mm), out = .inl q → ∀ (ce : Cell) (q9 : Addr) (H1 : Heap) (locs1 : List Loc), WH G b q.2 H1 → va_S (fb b) s.heap H1 locs1 → H1[q9]? = some ce → ce.vm = .none → s.vm.findClass (exN q.1) = some ce.cls → vx_W p l e R s m args below meth c H1 locs1 (cells + 2) (slots + 12) Q (F0 m pc ls rest) q9)
    (kk : ∀ (v : (Int32 × Mm)), out = .inr v → ∀ (H1 : Heap) (locs1 : List Loc), WH G b v.2 H1 → va_S (fb b) s.heap H1 locs1 → W p l e R s m args below meth c H1 locs1 (cells + 2) (slots + 12) Q (F0 m (pc + 3) ls (.int v.1 :: rest))) : W p l e R s m args below meth c H locs cells slots Q (F0 m pc ls (.int a1 :: .ref (b + 0) :: rest)) := by
  cases out with
  | inl q => exact fx_callV (As := [.int a1]) (ci := 11) (c_X11_setTitle hlT h) ⟨rfl, rfl⟩ rfl (ky_lt kyf_0 (by decide)) (wF_11 kyf_0) q_1313 q_1314 q_1 q_1315 rfl ⟨by decide +kernel, by decide +kernel, (show (parseMethodDescriptor yX11_setTitle.desc).map (fun d => d.parameters.length) = some 1 by decide +kernel)⟩ F hl hR hW hS hsz hrest rfl hdg (fun z hz => by obtain rfl := Option.some.inj hz; exact kx _ rfl) (fun z hz => nomatch (show (none : Option (Mm × Option Value)) = some z from hz))
  | inr v => exact fx_callV (As := [.int a1]) (ci := 11) (c_X11_setTitle hlT h) ⟨rfl, rfl⟩ rfl (ky_lt kyf_0 (by decide)) (wF_11 kyf_0) q_1313 q_1314 q_1 q_1315 rfl ⟨by decide +kernel, by decide +kernel, (show (parseMethodDescriptor yX11_setTitle.desc).map (fun d => d.parameters.length) = some 1 by decide +kernel)⟩ F hl hR hW hS hsz hrest rfl hdg (fun z hz => nomatch (show (none : Option (Nat × Mm)) = some z from hz)) (fun z hz => by obtain rfl := Option.some.inj hz; exact kk _ rfl)
set_option maxHeartbeats 4000000 in
set_option maxRecDepth 100000 in
theorem wk_X11_insert_18 {n : Nat} {a1 : Int32} {a2 : Int32} {a3 : Int32} {μ : Mm} {out : ((Nat × Mm) ⊕ (Int32 × Mm))} (F : FX G b RX11 cX11_insert 5 p s m args meth c) (hr : meth.sig.returnType = some .int) (hlT : l.stackTraces = false) (hnt : ∀ x ∈ c.exceptionTable.toList, False) (h : sh_X11_insert_18 n a1 a2 a3 μ = some out) (hW : WH G b μ H) (hS : va_S (fb b) s.heap H locs) (hl : lv_has ls 5 []) : W p l e ({ frames := 7, cells := 4, slots := 24, locals := 143 } : Room) s m args below meth c H locs 0 0 (vx_MQ below (QN G b (Sum.elim (fun _ => none) (fun (v : (Int32 × Mm)) => some (v.2, (some (.int v.1)))) out)) (XN G b (Sum.elim (fun (q : Nat × Mm) => some q) (fun _ => none) out)) args s 4 24 (fb b)) (F0 m 18 ls []) := by
  have hx := F.1
  have hb := F.2.1
  unfold sh_X11_insert_18 at h
  cases h
  exact x_throwW (ec := 2) F hlT hnt q_1108 q_25 (is := 349) (text := "no such number for a section") (t := 30) (by decide +kernel) (by decide +kernel) (hat_2 F.2.2.2.2.1 F.2.2.2.2.2.2.1) hgd_2 hl.1 dX11_insert_18 dX11_insert_21 dX11_insert_22 dX11_insert_25 dX11_insert_28 ⟨Nat.le_of_ble_eq_true rfl, Nat.le_of_ble_eq_true rfl, Nat.le_of_ble_eq_true rfl, Nat.le_of_ble_eq_true rfl⟩ (Nat.le_of_ble_eq_true rfl) (Nat.le_of_ble_eq_true rfl) hW hS
set_option maxHeartbeats 4000000 in
set_option maxRecDepth 100000 in
theorem wk_X11_insert {n : Nat} {a1 : Int32} {a2 : Int32} {a3 : Int32} {μ : Mm} {out : ((Nat × Mm) ⊕ (Int32 × Mm))} (F : FX G b RX11 cX11_insert 5 p s m args meth c) (hr : meth.sig.returnType = some .int) (hlT : l.stackTraces = false) (hnt : ∀ x ∈ c.exceptionTable.toList, False) (h : sh_X11_insert n a1 a2 a3 μ = some out) (hW : WH G b μ H) (hS : va_S (fb b) s.heap H locs) (hl : lv_has ls 5 [(0, .ref (b + 0)), (1, .int a1), (2, .int a2), (3, .int a3)]) : W p l e ({ frames := 7, cells := 4, slots := 24, locals := 143 } : Room) s m args below meth c H locs 0 0 (vx_MQ below (QN G b (Sum.elim (fun _ => none) (fun (v : (Int32 × Mm)) => some (v.2, (some (.int v.1)))) out)) (XN G b (Sum.elim (fun (q : Nat × Mm) => some q) (fun _ => none) out)) args s 4 24 (fb b)) (F0 m 0 ls []) := by
  have hx := F.1
  have hb := F.2.1
  unfold sh_X11_insert at h
  refine lv_iload_n hx hb dX11_insert_0 rfl (lv_at hl 1 rfl) ?_
  refine lv_if_lt (tgt := 18) hx hb dX11_insert_1 (by decide) (fun cc => ?_) (fun cc => ?_)
  · replace h := (if_pos cc).symm.trans h
    exact wk_X11_insert_18 F hr hlT hnt h hW hS (lv_sub hl [] rfl)
  · replace h := (if_neg cc).symm.trans h
    refine lv_iload_n hx hb dX11_insert_4 rfl (lv_at hl 1 rfl) ?_
    refine lv_aload_n hx hb dX11_insert_5 rfl (lv_at hl 0 rfl) ?_
    refine fl_get11 (v := .ref (b + 10)) kyf_0 F hW 5 (by decide) q_537 rfl rfl dX11_insert_6 ?_
    refine fl_get6 (v := .ref (b + 11)) kyf_10 F hW 0 (by decide) q_212 rfl rfl dX11_insert_9 ?_
    refine fl_get0 (v := .int (μ.1 11 2)) kyf_11 F hW 2 (by decide) q_165 rfl rfl dX11_insert_12 ?_
    refine lv_icmp_le (tgt := 29) hx hb dX11_insert_15 (by decide) (fun cc => ?_) (fun cc => ?_)
    · replace h := (if_pos cc).symm.trans h
      refine lv_aload_n hx hb dX11_insert_29 rfl (lv_at hl 0 rfl) ?_
      refine lv_iload_n hx hb dX11_insert_30 rfl (lv_at hl 2 rfl) ?_
      obtain ⟨r1, qr1, h⟩ := ob h
      refine k_X11_checkLevel F hlT qr1 q_1297 ⟨Nat.le_of_ble_eq_true rfl, Nat.le_of_ble_eq_true rfl, Nat.le_of_ble_eq_true rfl, Nat.le_of_ble_eq_true rfl⟩ hW hS hl.1 (Nat.le_of_ble_eq_true rfl) dX11_insert_31 (fun ec he ce q9 H locs hW hS hc1 hc2 hc3 => ?_) (fun v2 he H locs hW hS => ?_)
      · subst he
        cases h
        exact x_out F hnt (Nat.le_of_ble_eq_true rfl) (Nat.le_of_ble_eq_true rfl) hW hS hc1 hc2 hc3
      subst he
      replace h := (Sum.elim_inr _ _ _).symm.trans h
      refine lv_aload_n hx hb dX11_insert_34 rfl (lv_at hl 0 rfl) ?_
      refine lv_iload_n hx hb dX11_insert_35 rfl (lv_at hl 3 rfl) ?_
      obtain ⟨r3, qr3, h⟩ := ob h
      refine k_X11_checkLength F hlT qr3 q_1285 ⟨Nat.le_of_ble_eq_true rfl, Nat.le_of_ble_eq_true rfl, Nat.le_of_ble_eq_true rfl, Nat.le_of_ble_eq_true rfl⟩ hW hS hl.1 (Nat.le_of_ble_eq_true rfl) dX11_insert_36 (fun ec he ce q9 H locs hW hS hc1 hc2 hc3 => ?_) (fun v4 he H locs hW hS => ?_)
      · subst he
        cases h
        exact x_out F hnt (Nat.le_of_ble_eq_true rfl) (Nat.le_of_ble_eq_true rfl) hW hS hc1 hc2 hc3
      subst he
      replace h := (Sum.elim_inr _ _ _).symm.trans h
      refine lv_aload_n hx hb dX11_insert_39 rfl (lv_at hl 0 rfl) ?_
      obtain ⟨r5, qr5, h⟩ := ob h
      refine k_X11_checkTitle F hlT qr5 q_1316 ⟨Nat.le_of_ble_eq_true rfl, Nat.le_of_ble_eq_true rfl, Nat.le_of_ble_eq_true rfl, Nat.le_of_ble_eq_true rfl⟩ hW hS hl.1 (Nat.le_of_ble_eq_true rfl) dX11_insert_40 (fun qe he ce q9 H locs hW hS hc1 hc2 hc3 => ?_) (fun v6 he H locs hW hS => ?_)
      · subst he
        cases h
        exact x_out F hnt (Nat.le_of_ble_eq_true rfl) (Nat.le_of_ble_eq_true rfl) hW hS hc1 hc2 hc3
      subst he
      replace h := (Sum.elim_inr _ _ _).symm.trans h
      refine lv_aload_n hx hb dX11_insert_43 rfl (lv_at hl 0 rfl) ?_
      refine fl_get11 (v := .ref (b + 10)) kyf_0 F hW 5 (by decide) q_537 rfl rfl dX11_insert_44 ?_
      refine fl_get6 (v := .ref (b + 11)) kyf_10 F hW 0 (by decide) q_212 rfl rfl dX11_insert_47 ?_
      refine lv_iload_n hx hb dX11_insert_50 rfl (lv_at hl 1 rfl) ?_
      obtain ⟨r7, qr7, h⟩ := ob h
      refine k_X0_partForNew F ok_11 qr7 q_1334 ⟨Nat.le_of_ble_eq_true rfl, Nat.le_of_ble_eq_true rfl, Nat.le_of_ble_eq_true rfl, Nat.le_of_ble_eq_true rfl⟩ hW hS hl.1 (Nat.le_of_ble_eq_true rfl) dX11_insert_51 (fun H locs hW hS => ?_)
      refine lv_istore (lv' := [(4, .int r7), (0, .ref (b + 0)), (1, .int a1), (2, .int a2), (3, .int a3)]) hx hb dX11_insert_54 hl (by decide) rfl (fun ls hl => ?_)
      refine lv_aload_n hx hb dX11_insert_56 rfl (lv_at hl 1 rfl) ?_
      refine fl_get11 (v := .ref (b + 10)) kyf_0 F hW 5 (by decide) q_537 rfl rfl dX11_insert_57 ?_
      refine fl_get6 (v := .ref (b + 11)) kyf_10 F hW 0 (by decide) q_212 rfl rfl dX11_insert_60 ?_
      refine lv_iload hx hb dX11_insert_63 (lv_at hl 0 rfl) ?_
      refine lv_iload_n hx hb dX11_insert_65 rfl (lv_at hl 2 rfl) ?_
      refine lv_iload_n hx hb dX11_insert_66 rfl (lv_at hl 2 rfl) ?_
      refine lv_iload_n hx hb dX11_insert_67 rfl (lv_at hl 3 rfl) ?_
      obtain ⟨r8, qr8, h⟩ := ob h
      refine k_X0_levelStands F ok_11 qr8 q_1302 ⟨Nat.le_of_ble_eq_true rfl, Nat.le_of_ble_eq_true rfl, Nat.le_of_ble_eq_true rfl, Nat.le_of_ble_eq_true rfl⟩ hW hS hl.1 (Nat.le_of_ble_eq_true rfl) dX11_insert_68 (fun H locs hW hS => ?_)
      refine lv_if_ne (tgt := 85) hx hb dX11_insert_71 (by decide) (fun cc => ?_) (fun cc => ?_)
      · replace h := (if_neg cc).symm.trans h
        refine lv_aload_n hx hb dX11_insert_85 rfl (lv_at hl 1 rfl) ?_
        refine fl_get11 (v := .ref (b + 10)) kyf_0 F hW 5 (by decide) q_537 rfl rfl dX11_insert_86 ?_
        refine fl_get6 (v := .ref (b + 11)) kyf_10 F hW 0 (by decide) q_212 rfl rfl dX11_insert_89 ?_
        refine fl_get0 (v := .int (v6.1 11 2)) kyf_11 F hW 2 (by decide) q_165 rfl rfl dX11_insert_92 ?_
        refine lv_bipush (v := (24 : Int32)) hx hb dX11_insert_95 (by decide) ?_
        refine lv_icmp_lt (tgt := 111) hx hb dX11_insert_97 (by decide) (fun cc => ?_) (fun cc => ?_)
        · replace h := (if_pos cc).symm.trans h
          refine lv_aload_n hx hb dX11_insert_111 rfl (lv_at hl 1 rfl) ?_
          obtain ⟨r9, qr9, h⟩ := ob h
          refine k_X11_keepForUndo F qr9 q_761 ⟨Nat.le_of_ble_eq_true rfl, Nat.le_of_ble_eq_true rfl, Nat.le_of_ble_eq_true rfl, Nat.le_of_ble_eq_true rfl⟩ hW hS hl.1 (Nat.le_of_ble_eq_true rfl) dX11_insert_112 (fun H locs hW hS => ?_)
          refine lv_aload_n hx hb dX11_insert_115 rfl (lv_at hl 1 rfl) ?_
          refine fl_get11 (v := .ref (b + 10)) kyf_0 F hW 5 (by decide) q_537 rfl rfl dX11_insert_116 ?_
          refine fl_get6 (v := .ref (b + 11)) kyf_10 F hW 0 (by decide) q_212 rfl rfl dX11_insert_119 ?_
          refine lv_iload_n hx hb dX11_insert_122 rfl (lv_at hl 2 rfl) ?_
          refine lv_iload hx hb dX11_insert_123 (lv_at hl 0 rfl) ?_
          obtain ⟨r10, qr10, h⟩ := ob h
          refine k_X0_open F ok_11 qr10 q_1339 ⟨Nat.le_of_ble_eq_true rfl, Nat.le_of_ble_eq_true rfl, Nat.le_of_ble_eq_true rfl, Nat.le_of_ble_eq_true rfl⟩ hW hS hl.1 (Nat.le_of_ble_eq_true rfl) dX11_insert_125 (fun H locs hW hS => ?_)
          refine lv_aload_n hx hb dX11_insert_128 rfl (lv_at hl 1 rfl) ?_
          refine fl_get11 (v := .ref (b + 10)) kyf_0 F hW 5 (by decide) q_537 rfl rfl dX11_insert_129 ?_
          refine fl_get6 (v := .ref (b + 11)) kyf_10 F hW 0 (by decide) q_212 rfl rfl dX11_insert_132 ?_
          refine fl_get0 (v := .ref (b + 14)) kyf_11 F hW 4 (by decide) q_174 rfl rfl dX11_insert_135 ?_
          refine lv_iload_n hx hb dX11_insert_138 rfl (lv_at hl 2 rfl) ?_
          refine lv_iload_n hx hb dX11_insert_139 rfl (lv_at hl 3 rfl) ?_
          obtain ⟨r11, qr11, h⟩ := ob h
          refine k_X5_put F ok_14 qr11 q_966 ⟨Nat.le_of_ble_eq_true rfl, Nat.le_of_ble_eq_true rfl, Nat.le_of_ble_eq_true rfl, Nat.le_of_ble_eq_true rfl⟩ hW hS hl.1 (Nat.le_of_ble_eq_true rfl) dX11_insert_140 (fun H locs hW hS => ?_)
          refine lv_aload_n hx hb dX11_insert_143 rfl (lv_at hl 1 rfl) ?_
          refine fl_get11 (v := .ref (b + 10)) kyf_0 F hW 5 (by decide) q_537 rfl rfl dX11_insert_144 ?_
          refine fl_get6 (v := .ref (b + 11)) kyf_10 F hW 0 (by decide) q_212 rfl rfl dX11_insert_147 ?_
          refine fl_get0 (v := .ref (b + 16)) kyf_11 F hW 5 (by decide) q_178 rfl rfl dX11_insert_150 ?_
          refine lv_iload_n hx hb dX11_insert_153 rfl (lv_at hl 2 rfl) ?_
          refine lv_iload_n hx hb dX11_insert_154 rfl (lv_at hl 4 rfl) ?_
          obtain ⟨r12, qr12, h⟩ := ob h
          refine k_X5_put F ok_16 qr12 q_966 ⟨Nat.le_of_ble_eq_true rfl, Nat.le_of_ble_eq_true rfl, Nat.le_of_ble_eq_true rfl, Nat.le_of_ble_eq_true rfl⟩ hW hS hl.1 (Nat.le_of_ble_eq_true rfl) dX11_insert_155 (fun H locs hW hS => ?_)
          refine lv_aload_n hx hb dX11_insert_158 rfl (lv_at hl 1 rfl) ?_
          refine fl_get11 (v := .ref (b + 10)) kyf_0 F hW 5 (by decide) q_537 rfl rfl dX11_insert_159 ?_
          refine fl_get6 (v := .ref (b + 11)) kyf_10 F hW 0 (by decide) q_212 rfl rfl dX11_insert_162 ?_
          refine lv_iload_n hx hb dX11_insert_165 rfl (lv_at hl 2 rfl) ?_
          refine lv_aload_n hx hb dX11_insert_166 rfl (lv_at hl 1 rfl) ?_
          refine fl_get11 (v := .ref (b + 5)) kyf_0 F hW 2 (by decide) q_534 rfl rfl dX11_insert_167 ?_
          refine fl_get4 (v := .ref (b + 6)) kyf_5 F hW 2 (by decide) q_78 rfl rfl dX11_insert_170 ?_
          refine lv_aload_n hx hb dX11_insert_173 rfl (lv_at hl 1 rfl) ?_
          refine fl_get11 (v := .ref (b + 5)) kyf_0 F hW 2 (by decide) q_534 rfl rfl dX11_insert_174 ?_
          refine fl_get4 (v := .int (r12.1 5 3)) kyf_5 F hW 3 (by decide) q_80 rfl rfl dX11_insert_177 ?_
          obtain ⟨r13, qr13, h⟩ := ob h
          refine k_X0_entitle F ok_11 ok_6 qr13 q_1325 ⟨Nat.le_of_ble_eq_true rfl, Nat.le_of_ble_eq_true rfl, Nat.le_of_ble_eq_true rfl, Nat.le_of_ble_eq_true rfl⟩ hW hS hl.1 (Nat.le_of_ble_eq_true rfl) dX11_insert_180 (fun H locs hW hS => ?_)
          refine lv_aload_n hx hb dX11_insert_183 rfl (lv_at hl 1 rfl) ?_
          refine fl_get11 (v := .ref (b + 1)) kyf_0 F hW 0 (by decide) q_532 rfl rfl dX11_insert_184 ?_
          refine lv_iconst (v := (0 : Int32)) hx hb dX11_insert_187 (by decide) ?_
          obtain ⟨r14, qr14, h⟩ := ob h
          refine k_X8_cut F ok_1 qr14 q_757 ⟨Nat.le_of_ble_eq_true rfl, Nat.le_of_ble_eq_true rfl, Nat.le_of_ble_eq_true rfl, Nat.le_of_ble_eq_true rfl⟩ hW hS hl.1 (Nat.le_of_ble_eq_true rfl) dX11_insert_188 (fun H locs hW hS => ?_)
          refine lv_aload_n hx hb dX11_insert_191 rfl (lv_at hl 1 rfl) ?_
          refine fl_get11 (v := .ref (b + 38)) kyf_0 F hW 9 (by decide) q_541 rfl rfl dX11_insert_192 ?_
          refine lv_aload_n hx hb dX11_insert_195 rfl (lv_at hl 1 rfl) ?_
          refine fl_get11 (v := .ref (b + 10)) kyf_0 F hW 5 (by decide) q_537 rfl rfl dX11_insert_196 ?_
          refine fl_get6 (v := .ref (b + 11)) kyf_10 F hW 0 (by decide) q_212 rfl rfl dX11_insert_199 ?_
          obtain ⟨r15, qr15, h⟩ := ob h
          refine k_X1_layAnew F ok_38 ok_11 qr15 q_405 ⟨Nat.le_of_ble_eq_true rfl, Nat.le_of_ble_eq_true rfl, Nat.le_of_ble_eq_true rfl, Nat.le_of_ble_eq_true rfl⟩ hW hS hl.1 (Nat.le_of_ble_eq_true rfl) dX11_insert_202 (fun H locs hW hS => ?_)
          refine lv_aload_n hx hb dX11_insert_205 rfl (lv_at hl 1 rfl) ?_
          refine fl_get11 (v := .ref (b + 10)) kyf_0 F hW 5 (by decide) q_537 rfl rfl dX11_insert_206 ?_
          refine fl_get6 (v := .ref (b + 11)) kyf_10 F hW 0 (by decide) q_212 rfl rfl dX11_insert_209 ?_
          refine fl_get0 (v := .int (r15.1 11 2)) kyf_11 F hW 2 (by decide) q_165 rfl rfl dX11_insert_212 ?_
          cases h
          exact x_int F hr (Nat.le_of_ble_eq_true rfl) (Nat.le_of_ble_eq_true rfl) hW hS dX11_insert_215
        · replace h := (if_neg cc).symm.trans h
          cases h
          exact x_throwW (ec := 0) F hlT hnt q_984 q_18 (is := 354) (text := "no more sections") (t := 31) (by decide +kernel) (by decide +kernel) (hat_0 F.2.2.2.2.1 F.2.2.2.2.2.2.1) hgd_0 hl.1 dX11_insert_100 dX11_insert_103 dX11_insert_104 dX11_insert_107 dX11_insert_110 ⟨Nat.le_of_ble_eq_true rfl, Nat.le_of_ble_eq_true rfl, Nat.le_of_ble_eq_true rfl, Nat.le_of_ble_eq_true rfl⟩ (Nat.le_of_ble_eq_true rfl) (Nat.le_of_ble_eq_true rfl) hW hS
      · replace h := (if_pos cc).symm.trans h
        cases h
        exact x_throwW (ec := 1) F hlT hnt q_1064 q_19 (is := 333) (text := "a section would have a level that cannot be") (t := 28) (by decide +kernel) (by decide +kernel) (hat_1 F.2.2.2.2.1 F.2.2.2.2.2.2.1) hgd_1 hl.1 dX11_insert_74 dX11_insert_77 dX11_insert_78 dX11_insert_81 dX11_insert_84 ⟨Nat.le_of_ble_eq_true rfl, Nat.le_of_ble_eq_true rfl, Nat.le_of_ble_eq_true rfl, Nat.le_of_ble_eq_true rfl⟩ (Nat.le_of_ble_eq_true rfl) (Nat.le_of_ble_eq_true rfl) hW hS
    · replace h := (if_neg cc).symm.trans h
      exact wk_X11_insert_18 F hr hlT hnt h hW hS (lv_sub hl [] rfl)
set_option maxHeartbeats 4000000 in
set_option maxRecDepth 100000 in
theorem c_X11_insert {l : Launch} (hlT : l.stackTraces = false) {G : Gt} {b : Nat} {n : Nat} {a1 : Int32} {a2 : Int32} {a3 : Int32} {μ : Mm} {out : ((Nat × Mm) ⊕ (Int32 × Mm))} (h : sh_X11_insert n a1 a2 a3 μ = some out) : vx_Met l yX11_insert (wU (Cond.code yX11_insert cX11_insert 5 (some .int))) ({ frames := 7, cells := 4, slots := 24, locals := 143 } : Room) (PcW G b μ [.ref (b + 0), .int a1, .int a2, .int a3]) (QN G b (Sum.elim (fun _ => none) (fun (v : (Int32 × Mm)) => some (v.2, (some (.int v.1)))) out)) (XN G b (Sum.elim (fun (q : Nat × Mm) => some q) (fun _ => none) out)) 4 24 (fb b) :=
  xmet_of [.ref (b + 0), .int a1, .int a2, .int a3] (by decide) (Nat.le_of_ble_eq_true rfl) (fun F hr hnt hW hl => wk_X11_insert F hr hlT hnt h hW va_S.rf hl)
set_option maxHeartbeats 4000000 in
set_option maxRecDepth 100000 in
theorem k_X11_insert {own : String} {nL : Nat} (F : FX G b own cc nL p s m args meth c) (hlT : l.stackTraces = false) {n : Nat} {a1 : Int32} {a2 : Int32} {a3 : Int32} {μ : Mm} {out : ((Nat × Mm) ⊕ (Int32 × Mm))} (h : sh_X11_insert n a1 a2 a3 μ = some out) {index : Nat} (hl : Cond.methodLink own index yX11_insert ∈ TBG) (hR : 7 + 1 ≤ R.frames ∧ 8 + (5 + 11) + 143 ≤ R.locals ∧ cells + 4 ≤ R.cells ∧ slots + 24 ≤ R.slots) (hW : WH G b μ H) (hS : va_S (fb b) s.heap H locs) (hsz : ls.size = nL) (hrest : (rest.map fun v => v.category).sum ≤ 8) (hdg : decode cc pc = .ok (.invokevirtual index, 3))
    (kx : ∀ (q : Nat × Mm), out = .inl q → ∀ (ce : Cell) (q9 : Addr) (H1 : Heap) (locs1 : List Loc), WH G b q.2 H1 → va_S (fb b) s.heap H1 locs1 → H1[q9]? = some ce → ce.vm = .none → s.vm.findClass (exN q.1) = some ce.cls → vx_W p l e R s m args below meth c H1 locs1 (cells + 4) (slots + 24) Q (F0 m pc ls rest) q9)
    (kk : ∀ (v : (Int32 × Mm)), out = .inr v → ∀ (H1 : Heap) (locs1 : List Loc), WH G b v.2 H1 → va_S (fb b) s.heap H1 locs1 → W p l e R s m args below meth c H1 locs1 (cells + 4) (slots + 24) Q (F0 m (pc + 3) ls (.int v.1 :: rest))) : W p l e R s m args below meth c H locs cells slots Q (F0 m pc ls (.int a3 :: .int a2 :: .int a1 :: .ref (b + 0) :: rest)) := by
  cases out with
  | inl q => exact fx_callV (As := [.int a1, .int a2, .int a3]) (ci := 11) (c_X11_insert hlT h) ⟨rfl, rfl⟩ rfl (ky_lt kyf_0 (by decide)) (wF_11 kyf_0) q_1330 q_1331 q_1 q_1332 rfl ⟨by decide +kernel, by decide +kernel, (show (parseMethodDescriptor yX11_insert.desc).map (fun d => d.parameters.length) = some 3 by decide +kernel)⟩ F hl hR hW hS hsz hrest rfl hdg (fun z hz => by obtain rfl := Option.some.inj hz; exact kx _ rfl) (fun z hz => nomatch (show (none : Option (Mm × Option Value)) = some z from hz))
  | inr v => exact fx_callV (As := [.int a1, .int a2, .int a3]) (ci := 11) (c_X11_insert hlT h) ⟨rfl, rfl⟩ rfl (ky_lt kyf_0 (by decide)) (wF_11 kyf_0) q_1330 q_1331 q_1 q_1332 rfl ⟨by decide +kernel, by decide +kernel, (show (parseMethodDescriptor yX11_insert.desc).map (fun d => d.parameters.length) = some 3 by decide +kernel)⟩ F hl hR hW hS hsz hrest rfl hdg (fun z hz => nomatch (show (none : Option (Nat × Mm)) = some z from hz)) (fun z hz => by obtain rfl := Option.some.inj hz; exact kk _ rfl)
set_option maxHeartbeats 4000000 in
set_option maxRecDepth 100000 in
theorem wk_X11_remove {n : Nat} {a1 : Int32} {μ : Mm} {out : ((Nat × Mm) ⊕ (Int32 × Mm))} (F : FX G b RX11 cX11_remove 3 p s m args meth c) (hr : meth.sig.returnType = some .int) (hlT : l.stackTraces = false) (hnt : ∀ x ∈ c.exceptionTable.toList, False) (h : sh_X11_remove n a1 μ = some out) (hW : WH G b μ H) (hS : va_S (fb b) s.heap H locs) (hl : lv_has ls 3 [(0, .ref (b + 0)), (1, .int a1)]) : W p l e ({ frames := 7, cells := 1, slots := 6, locals := 143 } : Room) s m args below meth c H locs 0 0 (vx_MQ below (QN G b (Sum.elim (fun _ => none) (fun (v : (Int32 × Mm)) => some (v.2, (some (.int v.1)))) out)) (XN G b (Sum.elim (fun (q : Nat × Mm) => some q) (fun _ => none) out)) args s 1 6 (fb b)) (F0 m 0 ls []) := by
  have hx := F.1
  have hb := F.2.1
  unfold sh_X11_remove at h
  refine lv_aload_n hx hb dX11_remove_0 rfl (lv_at hl 0 rfl) ?_
  refine lv_iload_n hx hb dX11_remove_1 rfl (lv_at hl 1 rfl) ?_
  obtain ⟨r1, qr1, h⟩ := ob h
  refine k_X11_checkSection F hlT qr1 q_1104 ⟨Nat.le_of_ble_eq_true rfl, Nat.le_of_ble_eq_true rfl, Nat.le_of_ble_eq_true rfl, Nat.le_of_ble_eq_true rfl⟩ hW hS hl.1 (Nat.le_of_ble_eq_true rfl) dX11_remove_2 (fun ec he ce q9 H locs hW hS hc1 hc2 hc3 => ?_) (fun v2 he H locs hW hS => ?_)
  · subst he
    cases h
    exact x_out F hnt (Nat.le_of_ble_eq_true rfl) (Nat.le_of_ble_eq_true rfl) hW hS hc1 hc2 hc3
  subst he
  replace h := (Sum.elim_inr _ _ _).symm.trans h
  refine lv_aload_n hx hb dX11_remove_5 rfl (lv_at hl 0 rfl) ?_
  obtain ⟨r3, qr3, h⟩ := ob h
  refine k_X11_keepForUndo F qr3 q_761 ⟨Nat.le_of_ble_eq_true rfl, Nat.le_of_ble_eq_true rfl, Nat.le_of_ble_eq_true rfl, Nat.le_of_ble_eq_true rfl⟩ hW hS hl.1 (Nat.le_of_ble_eq_true rfl) dX11_remove_6 (fun H locs hW hS => ?_)
  refine lv_aload_n hx hb dX11_remove_9 rfl (lv_at hl 0 rfl) ?_
  refine fl_get11 (v := .ref (b + 10)) kyf_0 F hW 5 (by decide) q_537 rfl rfl dX11_remove_10 ?_
  refine fl_get6 (v := .ref (b + 11)) kyf_10 F hW 0 (by decide) q_212 rfl rfl dX11_remove_13 ?_
  refine lv_iload_n hx hb dX11_remove_16 rfl (lv_at hl 1 rfl) ?_
  obtain ⟨r4, qr4, h⟩ := ob h
  refine k_X0_cutBranch F ok_11 qr4 q_1347 ⟨Nat.le_of_ble_eq_true rfl, Nat.le_of_ble_eq_true rfl, Nat.le_of_ble_eq_true rfl, Nat.le_of_ble_eq_true rfl⟩ hW hS hl.1 (Nat.le_of_ble_eq_true rfl) dX11_remove_17 (fun H locs hW hS => ?_)
  obtain ⟨v5, ev5⟩ : ∃ y, y = r4.1 := ⟨_, rfl⟩
  have h := nm_at ev5 h
  rw [← ev5]
  refine lv_istore_n (lv' := [(2, .int v5), (0, .ref (b + 0)), (1, .int a1)]) hx hb dX11_remove_20 rfl hl (by decide) rfl (fun ls hl => ?_)
  refine lv_aload_n hx hb dX11_remove_21 rfl (lv_at hl 1 rfl) ?_
  refine fl_get11 (v := .ref (b + 38)) kyf_0 F hW 9 (by decide) q_541 rfl rfl dX11_remove_22 ?_
  refine lv_aload_n hx hb dX11_remove_25 rfl (lv_at hl 1 rfl) ?_
  refine fl_get11 (v := .ref (b + 10)) kyf_0 F hW 5 (by decide) q_537 rfl rfl dX11_remove_26 ?_
  refine fl_get6 (v := .ref (b + 11)) kyf_10 F hW 0 (by decide) q_212 rfl rfl dX11_remove_29 ?_
  obtain ⟨r6, qr6, h⟩ := ob h
  refine k_X1_layAnew F ok_38 ok_11 qr6 q_405 ⟨Nat.le_of_ble_eq_true rfl, Nat.le_of_ble_eq_true rfl, Nat.le_of_ble_eq_true rfl, Nat.le_of_ble_eq_true rfl⟩ hW hS hl.1 (Nat.le_of_ble_eq_true rfl) dX11_remove_32 (fun H locs hW hS => ?_)
  refine lv_iload_n hx hb dX11_remove_35 rfl (lv_at hl 0 rfl) ?_
  cases h
  exact x_int F hr (Nat.le_of_ble_eq_true rfl) (Nat.le_of_ble_eq_true rfl) hW hS dX11_remove_36
set_option maxHeartbeats 4000000 in
set_option maxRecDepth 100000 in
theorem c_X11_remove {l : Launch} (hlT : l.stackTraces = false) {G : Gt} {b : Nat} {n : Nat} {a1 : Int32} {μ : Mm} {out : ((Nat × Mm) ⊕ (Int32 × Mm))} (h : sh_X11_remove n a1 μ = some out) : vx_Met l yX11_remove (wU (Cond.code yX11_remove cX11_remove 3 (some .int))) ({ frames := 7, cells := 1, slots := 6, locals := 143 } : Room) (PcW G b μ [.ref (b + 0), .int a1]) (QN G b (Sum.elim (fun _ => none) (fun (v : (Int32 × Mm)) => some (v.2, (some (.int v.1)))) out)) (XN G b (Sum.elim (fun (q : Nat × Mm) => some q) (fun _ => none) out)) 1 6 (fb b) :=
  xmet_of [.ref (b + 0), .int a1] (by decide) (Nat.le_of_ble_eq_true rfl) (fun F hr hnt hW hl => wk_X11_remove F hr hlT hnt h hW va_S.rf hl)
set_option maxHeartbeats 4000000 in
set_option maxRecDepth 100000 in
theorem k_X11_remove {own : String} {nL : Nat} (F : FX G b own cc nL p s m args meth c) (hlT : l.stackTraces = false) {n : Nat} {a1 : Int32} {μ : Mm} {out : ((Nat × Mm) ⊕ (Int32 × Mm))} (h : sh_X11_remove n a1 μ = some out) {index : Nat} (hl : Cond.methodLink own index yX11_remove ∈ TBG) (hR : 7 + 1 ≤ R.frames ∧ 8 + (3 + 11) + 143 ≤ R.locals ∧ cells + 1 ≤ R.cells ∧ slots + 6 ≤ R.slots) (hW : WH G b μ H) (hS : va_S (fb b) s.heap H locs) (hsz : ls.size = nL) (hrest : (rest.map fun v => v.category).sum ≤ 8) (hdg : decode cc pc = .ok (.invokevirtual index, 3))
    (kx : ∀ (q : Nat × Mm), out = .inl q → ∀ (ce : Cell) (q9 : Addr) (H1 : Heap) (locs1 : List Loc), WH G b q.2 H1 → va_S (fb b) s.heap H1 locs1 → H1[q9]? = some ce → ce.vm = .none → s.vm.findClass (exN q.1) = some ce.cls → vx_W p l e R s m args below meth c H1 locs1 (cells + 1) (slots + 6) Q (F0 m pc ls rest) q9)
    (kk : ∀ (v : (Int32 × Mm)), out = .inr v → ∀ (H1 : Heap) (locs1 : List Loc), WH G b v.2 H1 → va_S (fb b) s.heap H1 locs1 → W p l e R s m args below meth c H1 locs1 (cells + 1) (slots + 6) Q (F0 m (pc + 3) ls (.int v.1 :: rest))) : W p l e R s m args below meth c H locs cells slots Q (F0 m pc ls (.int a1 :: .ref (b + 0) :: rest)) := by
  cases out with
  | inl q => exact fx_callV (As := [.int a1]) (ci := 11) (c_X11_remove hlT h) ⟨rfl, rfl⟩ rfl (ky_lt kyf_0 (by decide)) (wF_11 kyf_0) q_1344 q_1345 q_1 q_1346 rfl ⟨by decide +kernel, by decide +kernel, (show (parseMethodDescriptor yX11_remove.desc).map (fun d => d.parameters.length) = some 1 by decide +kernel)⟩ F hl hR hW hS hsz hrest rfl hdg (fun z hz => by obtain rfl := Option.some.inj hz; exact kx _ rfl) (fun z hz => nomatch (show (none : Option (Mm × Option Value)) = some z from hz))
  | inr v => exact fx_callV (As := [.int a1]) (ci := 11) (c_X11_remove hlT h) ⟨rfl, rfl⟩ rfl (ky_lt kyf_0 (by decide)) (wF_11 kyf_0) q_1344 q_1345 q_1 q_1346 rfl ⟨by decide +kernel, by decide +kernel, (show (parseMethodDescriptor yX11_remove.desc).map (fun d => d.parameters.length) = some 1 by decide +kernel)⟩ F hl hR hW hS hsz hrest rfl hdg (fun z hz => nomatch (show (none : Option (Nat × Mm)) = some z from hz)) (fun z hz => by obtain rfl := Option.some.inj hz; exact kk _ rfl)
set_option maxHeartbeats 4000000 in
set_option maxRecDepth 100000 in
theorem wk_X11_changeSetting {a1 : Int32} {a2 : Int32} {μ : Mm} {out : (Int32 × Mm)} (F : FX G b RX11 cX11_changeSetting 4 p s m args meth c) (hr : meth.sig.returnType = some .int) (h : sh_X11_changeSetting a1 a2 μ = some out) (hW : WH G b μ H) (hS : va_S (fb b) s.heap H locs) (hl : lv_has ls 4 [(0, .ref (b + 0)), (1, .int a1), (2, .int a2)]) : W p l e ({ frames := 5, cells := 0, slots := 0, locals := 132 } : Room) s m args below meth c H locs 0 0 (MQ below (QW G b out.2 (some (.int out.1))) args s 0 0 (fb b)) (F0 m 0 ls []) := by
  have hx := F.1
  have hb := F.2.1
  unfold sh_X11_changeSetting at h
  refine lv_aload_n hx hb dX11_changeSetting_0 rfl (lv_at hl 0 rfl) ?_
  obtain ⟨r1, qr1, h⟩ := ob h
  refine k_X11_keepForUndo F qr1 q_761 ⟨Nat.le_of_ble_eq_true rfl, Nat.le_of_ble_eq_true rfl, Nat.le_of_ble_eq_true rfl, Nat.le_of_ble_eq_true rfl⟩ hW hS hl.1 (Nat.le_of_ble_eq_true rfl) dX11_changeSetting_1 (fun H locs hW hS => ?_)
  refine lv_aload_n hx hb dX11_changeSetting_4 rfl (lv_at hl 0 rfl) ?_
  refine fl_get11 (v := .ref (b + 10)) kyf_0 F hW 5 (by decide) q_537 rfl rfl dX11_changeSetting_5 ?_
  refine fl_get6 (v := .ref (b + 11)) kyf_10 F hW 0 (by decide) q_212 rfl rfl dX11_changeSetting_8 ?_
  refine fl_get0 (v := .ref (b + 12)) kyf_11 F hW 0 (by decide) q_152 rfl rfl dX11_changeSetting_11 ?_
  refine lv_iload_n hx hb dX11_changeSetting_14 rfl (lv_at hl 1 rfl) ?_
  obtain ⟨r2, qr2, h⟩ := ob h
  refine k_X5_at F ok_12 qr2 q_883 ⟨Nat.le_of_ble_eq_true rfl, Nat.le_of_ble_eq_true rfl, Nat.le_of_ble_eq_true rfl, Nat.le_of_ble_eq_true rfl⟩ hW hS hl.1 (Nat.le_of_ble_eq_true rfl) dX11_changeSetting_15 (fun H locs hW hS => ?_)
  refine lv_istore_n (lv' := [(3, .int r2), (0, .ref (b + 0)), (1, .int a1), (2, .int a2)]) hx hb dX11_changeSetting_18 rfl hl (by decide) rfl (fun ls hl => ?_)
  refine lv_aload_n hx hb dX11_changeSetting_19 rfl (lv_at hl 1 rfl) ?_
  refine fl_get11 (v := .ref (b + 10)) kyf_0 F hW 5 (by decide) q_537 rfl rfl dX11_changeSetting_20 ?_
  refine fl_get6 (v := .ref (b + 11)) kyf_10 F hW 0 (by decide) q_212 rfl rfl dX11_changeSetting_23 ?_
  refine fl_get0 (v := .ref (b + 12)) kyf_11 F hW 0 (by decide) q_152 rfl rfl dX11_changeSetting_26 ?_
  refine lv_iload_n hx hb dX11_changeSetting_29 rfl (lv_at hl 2 rfl) ?_
  refine lv_iload_n hx hb dX11_changeSetting_30 rfl (lv_at hl 3 rfl) ?_
  obtain ⟨r3, qr3, h⟩ := ob h
  refine k_X5_put F ok_12 qr3 q_966 ⟨Nat.le_of_ble_eq_true rfl, Nat.le_of_ble_eq_true rfl, Nat.le_of_ble_eq_true rfl, Nat.le_of_ble_eq_true rfl⟩ hW hS hl.1 (Nat.le_of_ble_eq_true rfl) dX11_changeSetting_31 (fun H locs hW hS => ?_)
  refine lv_iload_n hx hb dX11_changeSetting_34 rfl (lv_at hl 0 rfl) ?_
  cases h
  exact r_int F hr hW hS dX11_changeSetting_35
set_option maxHeartbeats 4000000 in
set_option maxRecDepth 100000 in
theorem c_X11_changeSetting {l : Launch} {G : Gt} {b : Nat} {a1 : Int32} {a2 : Int32} {μ : Mm} {out : (Int32 × Mm)} (h : sh_X11_changeSetting a1 a2 μ = some out) : Met l yX11_changeSetting (wU (Cond.code yX11_changeSetting cX11_changeSetting 4 (some .int))) ({ frames := 5, cells := 0, slots := 0, locals := 132 } : Room) (PcW G b μ [.ref (b + 0), .int a1, .int a2]) (QW G b out.2 (some (.int out.1))) 0 0 (fb b) :=
  met_of [.ref (b + 0), .int a1, .int a2] (by decide) (Nat.le_of_ble_eq_true rfl) (fun F hr hW hl => wk_X11_changeSetting F hr h hW va_S.rf hl)
set_option maxHeartbeats 4000000 in
set_option maxRecDepth 100000 in
theorem k_X11_changeSetting {own : String} {nL : Nat} (F : FX G b own cc nL p s m args meth c) {a1 : Int32} {a2 : Int32} {μ : Mm} {out : (Int32 × Mm)} (h : sh_X11_changeSetting a1 a2 μ = some out) {index : Nat} (hl : Cond.methodLink own index yX11_changeSetting ∈ TBG) (hR : 5 + 1 ≤ R.frames ∧ 8 + (4 + 11) + 132 ≤ R.locals ∧ cells ≤ R.cells ∧ slots ≤ R.slots) (hW : WH G b μ H) (hS : va_S (fb b) s.heap H locs) (hsz : ls.size = nL) (hrest : (rest.map fun v => v.category).sum ≤ 8) (hdg : decode cc pc = .ok (.invokevirtual index, 3))
    (kk : ∀ (H1 : Heap) (locs1 : List Loc), WH G b out.2 H1 → va_S (fb b) s.heap H1 locs1 → W p l e R s m args below meth c H1 locs1 cells slots Q (F0 m (pc + 3) ls (.int out.1 :: rest))) : W p l e R s m args below meth c H locs cells slots Q (F0 m pc ls (.int a2 :: .int a1 :: .ref (b + 0) :: rest)) :=
  f_callV (As := [.int a1, .int a2]) (ci := 11) (c_X11_changeSetting h) ⟨rfl, rfl⟩ rfl (ky_lt kyf_0 (by decide)) (wF_11 kyf_0) q_1362 qp_38 q_1 q_1363 rfl ⟨by decide +kernel, by decide +kernel, (show (parseMethodDescriptor yX11_changeSetting.desc).map (fun d => d.parameters.length) = some 2 by decide +kernel)⟩ F hl hR hW hS hsz hrest rfl hdg kk
set_option maxHeartbeats 4000000 in
set_option maxRecDepth 100000 in
theorem wk_X11_setWidth_12 {n : Nat} {a1 : Int32} {μ : Mm} {out : ((Nat × Mm) ⊕ (Int32 × Mm))} (F : FX G b RX11 cX11_setWidth 3 p s m args meth c) (hr : meth.sig.returnType = some .int) (hlT : l.stackTraces = false) (hnt : ∀ x ∈ c.exceptionTable.toList, False) (h : sh_X11_setWidth_12 n a1 μ = some out) (hW : WH G b μ H) (hS : va_S (fb b) s.heap H locs) (hl : lv_has ls 3 []) : W p l e ({ frames := 6, cells := 1, slots := 6, locals := 155 } : Room) s m args below meth c H locs 0 0 (vx_MQ below (QN G b (Sum.elim (fun _ => none) (fun (v : (Int32 × Mm)) => some (v.2, (some (.int v.1)))) out)) (XN G b (Sum.elim (fun (q : Nat × Mm) => some q) (fun _ => none) out)) args s 1 6 (fb b)) (F0 m 12 ls []) := by
  have hx := F.1
  have hb := F.2.1
  unfold sh_X11_setWidth_12 at h
  cases h
  exact x_throwW (ec := 1) F hlT hnt q_1064 q_19 (is := 362) (text := "no such width") (t := 32) (by decide +kernel) (by decide +kernel) (hat_1 F.2.2.2.2.1 F.2.2.2.2.2.2.1) hgd_1 hl.1 dX11_setWidth_12 dX11_setWidth_15 dX11_setWidth_16 dX11_setWidth_19 dX11_setWidth_22 ⟨Nat.le_of_ble_eq_true rfl, Nat.le_of_ble_eq_true rfl, Nat.le_of_ble_eq_true rfl, Nat.le_of_ble_eq_true rfl⟩ (Nat.le_of_ble_eq_true rfl) (Nat.le_of_ble_eq_true rfl) hW hS
set_option maxHeartbeats 4000000 in
set_option maxRecDepth 100000 in
theorem wk_X11_setWidth {n : Nat} {a1 : Int32} {μ : Mm} {out : ((Nat × Mm) ⊕ (Int32 × Mm))} (F : FX G b RX11 cX11_setWidth 3 p s m args meth c) (hr : meth.sig.returnType = some .int) (hlT : l.stackTraces = false) (hnt : ∀ x ∈ c.exceptionTable.toList, False) (h : sh_X11_setWidth n a1 μ = some out) (hW : WH G b μ H) (hS : va_S (fb b) s.heap H locs) (hl : lv_has ls 3 [(0, .ref (b + 0)), (1, .int a1)]) : W p l e ({ frames := 6, cells := 1, slots := 6, locals := 155 } : Room) s m args below meth c H locs 0 0 (vx_MQ below (QN G b (Sum.elim (fun _ => none) (fun (v : (Int32 × Mm)) => some (v.2, (some (.int v.1)))) out)) (XN G b (Sum.elim (fun (q : Nat × Mm) => some q) (fun _ => none) out)) args s 1 6 (fb b)) (F0 m 0 ls []) := by
  have hx := F.1
  have hb := F.2.1
  unfold sh_X11_setWidth at h
  refine lv_iload_n hx hb dX11_setWidth_0 rfl (lv_at hl 1 rfl) ?_
  refine lv_bipush (v := (20 : Int32)) hx hb dX11_setWidth_1 (by decide) ?_
  refine lv_icmp_lt (tgt := 12) hx hb dX11_setWidth_3 (by decide) (fun cc => ?_) (fun cc => ?_)
  · replace h := (if_pos cc).symm.trans h
    exact wk_X11_setWidth_12 F hr hlT hnt h hW hS (lv_sub hl [] rfl)
  · replace h := (if_neg cc).symm.trans h
    refine lv_iload_n hx hb dX11_setWidth_6 rfl (lv_at hl 1 rfl) ?_
    refine lv_bipush (v := (120 : Int32)) hx hb dX11_setWidth_7 (by decide) ?_
    refine lv_icmp_le (tgt := 23) hx hb dX11_setWidth_9 (by decide) (fun cc => ?_) (fun cc => ?_)
    · replace h := (if_pos cc).symm.trans h
      refine lv_aload_n hx hb dX11_setWidth_23 rfl (lv_at hl 0 rfl) ?_
      refine lv_iconst (v := (0 : Int32)) hx hb dX11_setWidth_24 (by decide) ?_
      refine lv_iload_n hx hb dX11_setWidth_25 rfl (lv_at hl 1 rfl) ?_
      obtain ⟨r1, qr1, h⟩ := ob h
      refine k_X11_changeSetting F qr1 q_1360 ⟨Nat.le_of_ble_eq_true rfl, Nat.le_of_ble_eq_true rfl, Nat.le_of_ble_eq_true rfl, Nat.le_of_ble_eq_true rfl⟩ hW hS hl.1 (Nat.le_of_ble_eq_true rfl) dX11_setWidth_26 (fun H locs hW hS => ?_)
      obtain ⟨v2, ev2⟩ : ∃ y, y = r1.1 := ⟨_, rfl⟩
      have h := nm_at ev2 h
      rw [← ev2]
      refine lv_istore_n (lv' := [(2, .int v2), (0, .ref (b + 0)), (1, .int a1)]) hx hb dX11_setWidth_29 rfl hl (by decide) rfl (fun ls hl => ?_)
      refine lv_aload_n hx hb dX11_setWidth_30 rfl (lv_at hl 1 rfl) ?_
      refine fl_get11 (v := .ref (b + 38)) kyf_0 F hW 9 (by decide) q_541 rfl rfl dX11_setWidth_31 ?_
      refine lv_aload_n hx hb dX11_setWidth_34 rfl (lv_at hl 1 rfl) ?_
      refine fl_get11 (v := .ref (b + 10)) kyf_0 F hW 5 (by decide) q_537 rfl rfl dX11_setWidth_35 ?_
      refine fl_get6 (v := .ref (b + 11)) kyf_10 F hW 0 (by decide) q_212 rfl rfl dX11_setWidth_38 ?_
      obtain ⟨r3, qr3, h⟩ := ob h
      refine k_X1_layAnew F ok_38 ok_11 qr3 q_405 ⟨Nat.le_of_ble_eq_true rfl, Nat.le_of_ble_eq_true rfl, Nat.le_of_ble_eq_true rfl, Nat.le_of_ble_eq_true rfl⟩ hW hS hl.1 (Nat.le_of_ble_eq_true rfl) dX11_setWidth_41 (fun H locs hW hS => ?_)
      refine lv_iload_n hx hb dX11_setWidth_44 rfl (lv_at hl 0 rfl) ?_
      cases h
      exact x_int F hr (Nat.le_of_ble_eq_true rfl) (Nat.le_of_ble_eq_true rfl) hW hS dX11_setWidth_45
    · replace h := (if_neg cc).symm.trans h
      exact wk_X11_setWidth_12 F hr hlT hnt h hW hS (lv_sub hl [] rfl)
set_option maxHeartbeats 4000000 in
set_option maxRecDepth 100000 in
theorem c_X11_setWidth {l : Launch} (hlT : l.stackTraces = false) {G : Gt} {b : Nat} {n : Nat} {a1 : Int32} {μ : Mm} {out : ((Nat × Mm) ⊕ (Int32 × Mm))} (h : sh_X11_setWidth n a1 μ = some out) : vx_Met l yX11_setWidth (wU (Cond.code yX11_setWidth cX11_setWidth 3 (some .int))) ({ frames := 6, cells := 1, slots := 6, locals := 155 } : Room) (PcW G b μ [.ref (b + 0), .int a1]) (QN G b (Sum.elim (fun _ => none) (fun (v : (Int32 × Mm)) => some (v.2, (some (.int v.1)))) out)) (XN G b (Sum.elim (fun (q : Nat × Mm) => some q) (fun _ => none) out)) 1 6 (fb b) :=
  xmet_of [.ref (b + 0), .int a1] (by decide) (Nat.le_of_ble_eq_true rfl) (fun F hr hnt hW hl => wk_X11_setWidth F hr hlT hnt h hW va_S.rf hl)
set_option maxHeartbeats 4000000 in
set_option maxRecDepth 100000 in
theorem k_X11_setWidth {own : String} {nL : Nat} (F : FX G b own cc nL p s m args meth c) (hlT : l.stackTraces = false) {n : Nat} {a1 : Int32} {μ : Mm} {out : ((Nat × Mm) ⊕ (Int32 × Mm))} (h : sh_X11_setWidth n a1 μ = some out) {index : Nat} (hl : Cond.methodLink own index yX11_setWidth ∈ TBG) (hR : 6 + 1 ≤ R.frames ∧ 8 + (3 + 11) + 155 ≤ R.locals ∧ cells + 1 ≤ R.cells ∧ slots + 6 ≤ R.slots) (hW : WH G b μ H) (hS : va_S (fb b) s.heap H locs) (hsz : ls.size = nL) (hrest : (rest.map fun v => v.category).sum ≤ 8) (hdg : decode cc pc = .ok (.invokevirtual index, 3))
    (kx : ∀ (q : Nat × Mm), out = .inl q → ∀ (ce : Cell) (q9 : Addr) (H1 : Heap) (locs1 : List Loc), WH G b q.2 H1 → va_S (fb b) s.heap H1 locs1 → H1[q9]? = some ce → ce.vm = .none → s.vm.findClass (exN q.1) = some ce.cls → vx_W p l e R s m args below meth c H1 locs1 (cells + 1) (slots + 6) Q (F0 m pc ls rest) q9)
    (kk : ∀ (v : (Int32 × Mm)), out = .inr v → ∀ (H1 : Heap) (locs1 : List Loc), WH G b v.2 H1 → va_S (fb b) s.heap H1 locs1 → W p l e R s m args below meth c H1 locs1 (cells + 1) (slots + 6) Q (F0 m (pc + 3) ls (.int v.1 :: rest))) : W p l e R s m args below meth c H locs cells slots Q (F0 m pc ls (.int a1 :: .ref (b + 0) :: rest)) := by
  cases out with
  | inl q => exact fx_callV (As := [.int a1]) (ci := 11) (c_X11_setWidth hlT h) ⟨rfl, rfl⟩ rfl (ky_lt kyf_0 (by decide)) (wF_11 kyf_0) q_1356 q_1357 q_1 q_1358 rfl ⟨by decide +kernel, by decide +kernel, (show (parseMethodDescriptor yX11_setWidth.desc).map (fun d => d.parameters.length) = some 1 by decide +kernel)⟩ F hl hR hW hS hsz hrest rfl hdg (fun z hz => by obtain rfl := Option.some.inj hz; exact kx _ rfl) (fun z hz => nomatch (show (none : Option (Mm × Option Value)) = some z from hz))
  | inr v => exact fx_callV (As := [.int a1]) (ci := 11) (c_X11_setWidth hlT h) ⟨rfl, rfl⟩ rfl (ky_lt kyf_0 (by decide)) (wF_11 kyf_0) q_1356 q_1357 q_1 q_1358 rfl ⟨by decide +kernel, by decide +kernel, (show (parseMethodDescriptor yX11_setWidth.desc).map (fun d => d.parameters.length) = some 1 by decide +kernel)⟩ F hl hR hW hS hsz hrest rfl hdg (fun z hz => nomatch (show (none : Option (Nat × Mm)) = some z from hz)) (fun z hz => by obtain rfl := Option.some.inj hz; exact kk _ rfl)
set_option maxHeartbeats 4000000 in
set_option maxRecDepth 100000 in
theorem wk_X11_setGrid_11 {n : Nat} {a1 : Int32} {μ : Mm} {out : ((Nat × Mm) ⊕ (Int32 × Mm))} (F : FX G b RX11 cX11_setGrid 3 p s m args meth c) (hr : meth.sig.returnType = some .int) (hlT : l.stackTraces = false) (hnt : ∀ x ∈ c.exceptionTable.toList, False) (h : sh_X11_setGrid_11 n a1 μ = some out) (hW : WH G b μ H) (hS : va_S (fb b) s.heap H locs) (hl : lv_has ls 3 []) : W p l e ({ frames := 6, cells := 1, slots := 6, locals := 155 } : Room) s m args below meth c H locs 0 0 (vx_MQ below (QN G b (Sum.elim (fun _ => none) (fun (v : (Int32 × Mm)) => some (v.2, (some (.int v.1)))) out)) (XN G b (Sum.elim (fun (q : Nat × Mm) => some q) (fun _ => none) out)) args s 1 6 (fb b)) (F0 m 11 ls []) := by
  have hx := F.1
  have hb := F.2.1
  unfold sh_X11_setGrid_11 at h
  cases h
  exact x_throwW (ec := 1) F hlT hnt q_1064 q_19 (is := 367) (text := "no such grid") (t := 33) (by decide +kernel) (by decide +kernel) (hat_1 F.2.2.2.2.1 F.2.2.2.2.2.2.1) hgd_1 hl.1 dX11_setGrid_11 dX11_setGrid_14 dX11_setGrid_15 dX11_setGrid_18 dX11_setGrid_21 ⟨Nat.le_of_ble_eq_true rfl, Nat.le_of_ble_eq_true rfl, Nat.le_of_ble_eq_true rfl, Nat.le_of_ble_eq_true rfl⟩ (Nat.le_of_ble_eq_true rfl) (Nat.le_of_ble_eq_true rfl) hW hS
set_option maxHeartbeats 4000000 in
set_option maxRecDepth 100000 in
theorem wk_X11_setGrid {n : Nat} {a1 : Int32} {μ : Mm} {out : ((Nat × Mm) ⊕ (Int32 × Mm))} (F : FX G b RX11 cX11_setGrid 3 p s m args meth c) (hr : meth.sig.returnType = some .int) (hlT : l.stackTraces = false) (hnt : ∀ x ∈ c.exceptionTable.toList, False) (h : sh_X11_setGrid n a1 μ = some out) (hW : WH G b μ H) (hS : va_S (fb b) s.heap H locs) (hl : lv_has ls 3 [(0, .ref (b + 0)), (1, .int a1)]) : W p l e ({ frames := 6, cells := 1, slots := 6, locals := 155 } : Room) s m args below meth c H locs 0 0 (vx_MQ below (QN G b (Sum.elim (fun _ => none) (fun (v : (Int32 × Mm)) => some (v.2, (some (.int v.1)))) out)) (XN G b (Sum.elim (fun (q : Nat × Mm) => some q) (fun _ => none) out)) args s 1 6 (fb b)) (F0 m 0 ls []) := by
  have hx := F.1
  have hb := F.2.1
  unfold sh_X11_setGrid at h
  refine lv_iload_n hx hb dX11_setGrid_0 rfl (lv_at hl 1 rfl) ?_
  refine lv_iconst (v := (1 : Int32)) hx hb dX11_setGrid_1 (by decide) ?_
  refine lv_icmp_lt (tgt := 11) hx hb dX11_setGrid_2 (by decide) (fun cc => ?_) (fun cc => ?_)
  · replace h := (if_pos cc).symm.trans h
    exact wk_X11_setGrid_11 F hr hlT hnt h hW hS (lv_sub hl [] rfl)
  · replace h := (if_neg cc).symm.trans h
    refine lv_iload_n hx hb dX11_setGrid_5 rfl (lv_at hl 1 rfl) ?_
    refine lv_bipush (v := (9 : Int32)) hx hb dX11_setGrid_6 (by decide) ?_
    refine lv_icmp_le (tgt := 22) hx hb dX11_setGrid_8 (by decide) (fun cc => ?_) (fun cc => ?_)
    · replace h := (if_pos cc).symm.trans h
      refine lv_aload_n hx hb dX11_setGrid_22 rfl (lv_at hl 0 rfl) ?_
      refine lv_bipush (v := (7 : Int32)) hx hb dX11_setGrid_23 (by decide) ?_
      refine lv_iload_n hx hb dX11_setGrid_25 rfl (lv_at hl 1 rfl) ?_
      obtain ⟨r1, qr1, h⟩ := ob h
      refine k_X11_changeSetting F qr1 q_1360 ⟨Nat.le_of_ble_eq_true rfl, Nat.le_of_ble_eq_true rfl, Nat.le_of_ble_eq_true rfl, Nat.le_of_ble_eq_true rfl⟩ hW hS hl.1 (Nat.le_of_ble_eq_true rfl) dX11_setGrid_26 (fun H locs hW hS => ?_)
      obtain ⟨v2, ev2⟩ : ∃ y, y = r1.1 := ⟨_, rfl⟩
      have h := nm_at ev2 h
      rw [← ev2]
      refine lv_istore_n (lv' := [(2, .int v2), (0, .ref (b + 0)), (1, .int a1)]) hx hb dX11_setGrid_29 rfl hl (by decide) rfl (fun ls hl => ?_)
      refine lv_aload_n hx hb dX11_setGrid_30 rfl (lv_at hl 1 rfl) ?_
      refine fl_get11 (v := .ref (b + 38)) kyf_0 F hW 9 (by decide) q_541 rfl rfl dX11_setGrid_31 ?_
      refine lv_aload_n hx hb dX11_setGrid_34 rfl (lv_at hl 1 rfl) ?_
      refine fl_get11 (v := .ref (b + 10)) kyf_0 F hW 5 (by decide) q_537 rfl rfl dX11_setGrid_35 ?_
      refine fl_get6 (v := .ref (b + 11)) kyf_10 F hW 0 (by decide) q_212 rfl rfl dX11_setGrid_38 ?_
      obtain ⟨r3, qr3, h⟩ := ob h
      refine k_X1_layAnew F ok_38 ok_11 qr3 q_405 ⟨Nat.le_of_ble_eq_true rfl, Nat.le_of_ble_eq_true rfl, Nat.le_of_ble_eq_true rfl, Nat.le_of_ble_eq_true rfl⟩ hW hS hl.1 (Nat.le_of_ble_eq_true rfl) dX11_setGrid_41 (fun H locs hW hS => ?_)
      refine lv_iload_n hx hb dX11_setGrid_44 rfl (lv_at hl 0 rfl) ?_
      cases h
      exact x_int F hr (Nat.le_of_ble_eq_true rfl) (Nat.le_of_ble_eq_true rfl) hW hS dX11_setGrid_45
    · replace h := (if_neg cc).symm.trans h
      exact wk_X11_setGrid_11 F hr hlT hnt h hW hS (lv_sub hl [] rfl)
set_option maxHeartbeats 4000000 in
set_option maxRecDepth 100000 in
theorem c_X11_setGrid {l : Launch} (hlT : l.stackTraces = false) {G : Gt} {b : Nat} {n : Nat} {a1 : Int32} {μ : Mm} {out : ((Nat × Mm) ⊕ (Int32 × Mm))} (h : sh_X11_setGrid n a1 μ = some out) : vx_Met l yX11_setGrid (wU (Cond.code yX11_setGrid cX11_setGrid 3 (some .int))) ({ frames := 6, cells := 1, slots := 6, locals := 155 } : Room) (PcW G b μ [.ref (b + 0), .int a1]) (QN G b (Sum.elim (fun _ => none) (fun (v : (Int32 × Mm)) => some (v.2, (some (.int v.1)))) out)) (XN G b (Sum.elim (fun (q : Nat × Mm) => some q) (fun _ => none) out)) 1 6 (fb b) :=
  xmet_of [.ref (b + 0), .int a1] (by decide) (Nat.le_of_ble_eq_true rfl) (fun F hr hnt hW hl => wk_X11_setGrid F hr hlT hnt h hW va_S.rf hl)
set_option maxHeartbeats 4000000 in
set_option maxRecDepth 100000 in
theorem k_X11_setGrid {own : String} {nL : Nat} (F : FX G b own cc nL p s m args meth c) (hlT : l.stackTraces = false) {n : Nat} {a1 : Int32} {μ : Mm} {out : ((Nat × Mm) ⊕ (Int32 × Mm))} (h : sh_X11_setGrid n a1 μ = some out) {index : Nat} (hl : Cond.methodLink own index yX11_setGrid ∈ TBG) (hR : 6 + 1 ≤ R.frames ∧ 8 + (3 + 11) + 155 ≤ R.locals ∧ cells + 1 ≤ R.cells ∧ slots + 6 ≤ R.slots) (hW : WH G b μ H) (hS : va_S (fb b) s.heap H locs) (hsz : ls.size = nL) (hrest : (rest.map fun v => v.category).sum ≤ 8) (hdg : decode cc pc = .ok (.invokevirtual index, 3))
    (kx : ∀ (q : Nat × Mm), out = .inl q → ∀ (ce : Cell) (q9 : Addr) (H1 : Heap) (locs1 : List Loc), WH G b q.2 H1 → va_S (fb b) s.heap H1 locs1 → H1[q9]? = some ce → ce.vm = .none → s.vm.findClass (exN q.1) = some ce.cls → vx_W p l e R s m args below meth c H1 locs1 (cells + 1) (slots + 6) Q (F0 m pc ls rest) q9)
    (kk : ∀ (v : (Int32 × Mm)), out = .inr v → ∀ (H1 : Heap) (locs1 : List Loc), WH G b v.2 H1 → va_S (fb b) s.heap H1 locs1 → W p l e R s m args below meth c H1 locs1 (cells + 1) (slots + 6) Q (F0 m (pc + 3) ls (.int v.1 :: rest))) : W p l e R s m args below meth c H locs cells slots Q (F0 m pc ls (.int a1 :: .ref (b + 0) :: rest)) := by
  cases out with
  | inl q => exact fx_callV (As := [.int a1]) (ci := 11) (c_X11_setGrid hlT h) ⟨rfl, rfl⟩ rfl (ky_lt kyf_0 (by decide)) (wF_11 kyf_0) q_1368 q_1369 q_1 q_1370 rfl ⟨by decide +kernel, by decide +kernel, (show (parseMethodDescriptor yX11_setGrid.desc).map (fun d => d.parameters.length) = some 1 by decide +kernel)⟩ F hl hR hW hS hsz hrest rfl hdg (fun z hz => by obtain rfl := Option.some.inj hz; exact kx _ rfl) (fun z hz => nomatch (show (none : Option (Mm × Option Value)) = some z from hz))
  | inr v => exact fx_callV (As := [.int a1]) (ci := 11) (c_X11_setGrid hlT h) ⟨rfl, rfl⟩ rfl (ky_lt kyf_0 (by decide)) (wF_11 kyf_0) q_1368 q_1369 q_1 q_1370 rfl ⟨by decide +kernel, by decide +kernel, (show (parseMethodDescriptor yX11_setGrid.desc).map (fun d => d.parameters.length) = some 1 by decide +kernel)⟩ F hl hR hW hS hsz hrest rfl hdg (fun z hz => nomatch (show (none : Option (Nat × Mm)) = some z from hz)) (fun z hz => by obtain rfl := Option.some.inj hz; exact kk _ rfl)
set_option maxHeartbeats 4000000 in
set_option maxRecDepth 100000 in
theorem wk_X11_setRight {n : Nat} {a1 : Int32} {μ : Mm} {out : (Int32 × Mm)} (F : FX G b RX11 cX11_setRight 3 p s m args meth c) (hr : meth.sig.returnType = some .boolean) (h : sh_X11_setRight n a1 μ = some out) (hW : WH G b μ H) (hS : va_S (fb b) s.heap H locs) (hl : lv_has ls 3 [(0, .ref (b + 0)), (1, .int a1)]) : W p l e ({ frames := 6, cells := 0, slots := 0, locals := 143 } : Room) s m args below meth c H locs 0 0 (MQ below (QW G b out.2 (some (.int out.1))) args s 0 0 (fb b)) (F0 m 0 ls []) := by
  have hx := F.1
  have hb := F.2.1
  unfold sh_X11_setRight at h
  refine lv_aload_n hx hb dX11_setRight_0 rfl (lv_at hl 0 rfl) ?_
  obtain ⟨r1, qr1, h⟩ := ob h
  refine k_X11_keepForUndo F qr1 q_761 ⟨Nat.le_of_ble_eq_true rfl, Nat.le_of_ble_eq_true rfl, Nat.le_of_ble_eq_true rfl, Nat.le_of_ble_eq_true rfl⟩ hW hS hl.1 (Nat.le_of_ble_eq_true rfl) dX11_setRight_1 (fun H locs hW hS => ?_)
  refine lv_aload_n hx hb dX11_setRight_4 rfl (lv_at hl 0 rfl) ?_
  refine fl_get11 (v := .ref (b + 10)) kyf_0 F hW 5 (by decide) q_537 rfl rfl dX11_setRight_5 ?_
  refine fl_get6 (v := .ref (b + 11)) kyf_10 F hW 0 (by decide) q_212 rfl rfl dX11_setRight_8 ?_
  refine fl_get0 (v := .int (r1.1 11 1)) kyf_11 F hW 1 (by decide) q_156 rfl rfl dX11_setRight_11 ?_
  obtain ⟨v2, ev2⟩ : ∃ y, y = (r1.1 11 1) := ⟨_, rfl⟩
  have h := nm_at ev2 h
  rw [← ev2]
  refine lv_istore_n (lv' := [(2, .int v2), (0, .ref (b + 0)), (1, .int a1)]) hx hb dX11_setRight_14 rfl hl (by decide) rfl (fun ls hl => ?_)
  refine lv_aload_n hx hb dX11_setRight_15 rfl (lv_at hl 1 rfl) ?_
  refine fl_get11 (v := .ref (b + 10)) kyf_0 F hW 5 (by decide) q_537 rfl rfl dX11_setRight_16 ?_
  refine fl_get6 (v := .ref (b + 11)) kyf_10 F hW 0 (by decide) q_212 rfl rfl dX11_setRight_19 ?_
  refine lv_iload_n hx hb dX11_setRight_22 rfl (lv_at hl 2 rfl) ?_
  obtain ⟨μ3, hmμ3, h⟩ := ob h
  refine fl_put0_1 kyf_11 F hW hS q_156 hmμ3 dX11_setRight_23 (fun H locs hW hS => ?_)
  refine lv_aload_n hx hb dX11_setRight_26 rfl (lv_at hl 1 rfl) ?_
  refine fl_get11 (v := .ref (b + 38)) kyf_0 F hW 9 (by decide) q_541 rfl rfl dX11_setRight_27 ?_
  refine lv_aload_n hx hb dX11_setRight_30 rfl (lv_at hl 1 rfl) ?_
  refine fl_get11 (v := .ref (b + 10)) kyf_0 F hW 5 (by decide) q_537 rfl rfl dX11_setRight_31 ?_
  refine fl_get6 (v := .ref (b + 11)) kyf_10 F hW 0 (by decide) q_212 rfl rfl dX11_setRight_34 ?_
  obtain ⟨r4, qr4, h⟩ := ob h
  refine k_X1_layAnew F ok_38 ok_11 qr4 q_405 ⟨Nat.le_of_ble_eq_true rfl, Nat.le_of_ble_eq_true rfl, Nat.le_of_ble_eq_true rfl, Nat.le_of_ble_eq_true rfl⟩ hW hS hl.1 (Nat.le_of_ble_eq_true rfl) dX11_setRight_37 (fun H locs hW hS => ?_)
  refine lv_iload_n hx hb dX11_setRight_40 rfl (lv_at hl 0 rfl) ?_
  obtain ⟨v5, qv5, h⟩ := ob h
  obtain ⟨zv5, qv5⟩ := isB_some qv5
  rw [qv5] at zv5
  rw [qv5]
  cases h
  exact r_bool F hr zv5 hW hS dX11_setRight_41
set_option maxHeartbeats 4000000 in
set_option maxRecDepth 100000 in
theorem c_X11_setRight {l : Launch} {G : Gt} {b : Nat} {n : Nat} {a1 : Int32} {μ : Mm} {out : (Int32 × Mm)} (h : sh_X11_setRight n a1 μ = some out) : Met l yX11_setRight (wU (Cond.code yX11_setRight cX11_setRight 3 (some .boolean))) ({ frames := 6, cells := 0, slots := 0, locals := 143 } : Room) (PcW G b μ [.ref (b + 0), .int a1]) (QW G b out.2 (some (.int out.1))) 0 0 (fb b) :=
  met_of [.ref (b + 0), .int a1] (by decide) (Nat.le_of_ble_eq_true rfl) (fun F hr hW hl => wk_X11_setRight F hr h hW va_S.rf hl)
set_option maxHeartbeats 4000000 in
set_option maxRecDepth 100000 in
theorem k_X11_setRight {own : String} {nL : Nat} (F : FX G b own cc nL p s m args meth c) {n : Nat} {a1 : Int32} {μ : Mm} {out : (Int32 × Mm)} (h : sh_X11_setRight n a1 μ = some out) {index : Nat} (hl : Cond.methodLink own index yX11_setRight ∈ TBG) (hR : 6 + 1 ≤ R.frames ∧ 8 + (3 + 11) + 143 ≤ R.locals ∧ cells ≤ R.cells ∧ slots ≤ R.slots) (hW : WH G b μ H) (hS : va_S (fb b) s.heap H locs) (hsz : ls.size = nL) (hrest : (rest.map fun v => v.category).sum ≤ 8) (hdg : decode cc pc = .ok (.invokevirtual index, 3))
    (kk : ∀ (H1 : Heap) (locs1 : List Loc), WH G b out.2 H1 → va_S (fb b) s.heap H1 locs1 → W p l e R s m args below meth c H1 locs1 cells slots Q (F0 m (pc + 3) ls (.int out.1 :: rest))) : W p l e R s m args below meth c H locs cells slots Q (F0 m pc ls (.int a1 :: .ref (b + 0) :: rest)) :=
  f_callV (As := [.int a1]) (ci := 11) (c_X11_setRight h) ⟨rfl, rfl⟩ rfl (ky_lt kyf_0 (by decide)) (wF_11 kyf_0) q_872 q_873 q_1 q_874 rfl ⟨by decide +kernel, by decide +kernel, (show (parseMethodDescriptor yX11_setRight.desc).map (fun d => d.parameters.length) = some 1 by decide +kernel)⟩ F hl hR hW hS hsz hrest rfl hdg kk
set_option maxHeartbeats 4000000 in
set_option maxRecDepth 100000 in
theorem wk_X11_sectionsToRead_148 {n : Nat} {k4 : (Int32 → Int32 → Mm → Option (Int32 × Mm))} {x1 : Int32} {x2 : Int32} {μ : Mm} {out : (Int32 × Mm)} (F : FX G b RX11 cX11_sectionsToRead 4 p s m args meth c) (hr : meth.sig.returnType = some .int) (hk4 : ∀ (x1 : Int32) (x2 : Int32) (μ : Mm) (H : Heap) (locs : List Loc) (ls : Array Slot), k4 x1 x2 μ = some out → WH G b μ H → va_S (fb b) s.heap H locs → lv_has ls 4 [(0, .ref (b + 0)), (1, .int x1), (2, .int x2)] → W p l e ({ frames := 5, cells := 0, slots := 0, locals := 121 } : Room) s m args below meth c H locs 0 0 (MQ below (QW G b out.2 (some (.int out.1))) args s 0 0 (fb b)) (F0 m 4 ls [])) (h : sh_X11_sectionsToRead_148 n k4 x1 x2 μ = some out) (hW : WH G b μ H) (hS : va_S (fb b) s.heap H locs) (hl : lv_has ls 4 [(0, .ref (b + 0)), (1, .int x1), (2, .int x2)]) : W p l e ({ frames := 5, cells := 0, slots := 0, locals := 121 } : Room) s m args below meth c H locs 0 0 (MQ below (QW G b out.2 (some (.int out.1))) args s 0 0 (fb b)) (F0 m 148 ls []) := by
  have hx := F.1
  have hb := F.2.1
  unfold sh_X11_sectionsToRead_148 at h
  refine lv_iload_n hx hb dX11_sectionsToRead_148 rfl (lv_at hl 1 rfl) ?_
  refine lv_iconst (v := (1 : Int32)) hx hb dX11_sectionsToRead_149 (by decide) ?_
  refine lv_iload_n hx hb dX11_sectionsToRead_150 rfl (lv_at hl 2 rfl) ?_
  refine lv_ishl hx hb dX11_sectionsToRead_151 ?_
  refine lv_ior hx hb dX11_sectionsToRead_152 ?_
  obtain ⟨v8, ev8⟩ : ∃ y, y = (x1 ||| ((1 : Int32) <<< (x2 &&& 31))) := ⟨_, rfl⟩
  have h := nm_at ev8 h
  rw [← ev8]
  refine lv_istore_n (lv' := [(1, .int v8), (0, .ref (b + 0)), (2, .int x2)]) hx hb dX11_sectionsToRead_153 rfl hl (by decide) rfl (fun ls hl => ?_)
  refine lv_iinc (v := (x2 + (1 : Int32))) (lv' := [(2, .int (x2 + (1 : Int32))), (1, .int v8), (0, .ref (b + 0))]) hx hb dX11_sectionsToRead_154 hl (k := 2) rfl rfl (by decide) rfl (fun ls hl => ?_)
  refine lv_goto (tgt := 4) hx hb dX11_sectionsToRead_157 (by decide) ?_
  exact hk4 _ _ _ _ _ _ h hW hS (lv_sub hl [2, 1, 0] rfl)
set_option maxHeartbeats 4000000 in
set_option maxRecDepth 100000 in
theorem wk_X11_sectionsToRead_4 {n : Nat} {out : (Int32 × Mm)} (F : FX G b RX11 cX11_sectionsToRead 4 p s m args meth c) (hr : meth.sig.returnType = some .int) : ∀ (f : Nat) (x1 : Int32) (x2 : Int32) (μ : Mm) (H : Heap) (locs : List Loc) (ls : Array Slot), sh_X11_sectionsToRead_4 n f x1 x2 μ = some out → WH G b μ H → va_S (fb b) s.heap H locs → lv_has ls 4 [(0, .ref (b + 0)), (1, .int x1), (2, .int x2)] → W p l e ({ frames := 5, cells := 0, slots := 0, locals := 121 } : Room) s m args below meth c H locs 0 0 (MQ below (QW G b out.2 (some (.int out.1))) args s 0 0 (fb b)) (F0 m 4 ls []) := by
  have hx := F.1
  have hb := F.2.1
  intro f
  induction f with
  | zero =>
    intro _ _ _ _ _ _ h
    rw [sh_X11_sectionsToRead_4] at h
    cases h
  | succ f ih =>
    intro x1 x2 μ H locs ls h hW hS hl
    rw [sh_X11_sectionsToRead_4] at h
    have hk4 := ih
    refine lv_iload_n hx hb dX11_sectionsToRead_4 rfl (lv_at hl 2 rfl) ?_
    refine lv_aload_n hx hb dX11_sectionsToRead_5 rfl (lv_at hl 0 rfl) ?_
    refine fl_get11 (v := .ref (b + 10)) kyf_0 F hW 5 (by decide) q_537 rfl rfl dX11_sectionsToRead_6 ?_
    refine fl_get6 (v := .ref (b + 11)) kyf_10 F hW 0 (by decide) q_212 rfl rfl dX11_sectionsToRead_9 ?_
    refine fl_get0 (v := .int (μ.1 11 2)) kyf_11 F hW 2 (by decide) q_165 rfl rfl dX11_sectionsToRead_12 ?_
    refine lv_icmp_ge (tgt := 160) hx hb dX11_sectionsToRead_15 (by decide) (fun cc => ?_) (fun cc => ?_)
    · replace h := (if_pos cc).symm.trans h
      refine lv_iload_n hx hb dX11_sectionsToRead_160 rfl (lv_at hl 1 rfl) ?_
      cases h
      exact r_int F hr hW hS dX11_sectionsToRead_161
    · replace h := (if_neg cc).symm.trans h
      refine lv_aload_n hx hb dX11_sectionsToRead_18 rfl (lv_at hl 0 rfl) ?_
      refine fl_get11 (v := .ref (b + 10)) kyf_0 F hW 5 (by decide) q_537 rfl rfl dX11_sectionsToRead_19 ?_
      refine fl_get6 (v := .ref (b + 11)) kyf_10 F hW 0 (by decide) q_212 rfl rfl dX11_sectionsToRead_22 ?_
      refine fl_get0 (v := .ref (b + 22)) kyf_11 F hW 8 (by decide) q_191 rfl rfl dX11_sectionsToRead_25 ?_
      refine lv_iload_n hx hb dX11_sectionsToRead_28 rfl (lv_at hl 2 rfl) ?_
      obtain ⟨r1, qr1, h⟩ := ob h
      refine k_X5_at F ok_22 qr1 q_883 ⟨Nat.le_of_ble_eq_true rfl, Nat.le_of_ble_eq_true rfl, Nat.le_of_ble_eq_true rfl, Nat.le_of_ble_eq_true rfl⟩ hW hS hl.1 (Nat.le_of_ble_eq_true rfl) dX11_sectionsToRead_29 (fun H locs hW hS => ?_)
      refine lv_istore_n (lv' := [(3, .int r1), (0, .ref (b + 0)), (1, .int x1), (2, .int x2)]) hx hb dX11_sectionsToRead_32 rfl hl (by decide) rfl (fun ls hl => ?_)
      refine lv_aload_n hx hb dX11_sectionsToRead_33 rfl (lv_at hl 1 rfl) ?_
      refine fl_get11 (v := .ref (b + 38)) kyf_0 F hW 9 (by decide) q_541 rfl rfl dX11_sectionsToRead_34 ?_
      refine lv_aload_n hx hb dX11_sectionsToRead_37 rfl (lv_at hl 1 rfl) ?_
      refine fl_get11 (v := .ref (b + 140)) kyf_0 F hW 13 (by decide) q_545 rfl rfl dX11_sectionsToRead_38 ?_
      refine lv_aload_n hx hb dX11_sectionsToRead_41 rfl (lv_at hl 1 rfl) ?_
      refine fl_get11 (v := .ref (b + 10)) kyf_0 F hW 5 (by decide) q_537 rfl rfl dX11_sectionsToRead_42 ?_
      refine fl_get6 (v := .ref (b + 11)) kyf_10 F hW 0 (by decide) q_212 rfl rfl dX11_sectionsToRead_45 ?_
      refine lv_aload_n hx hb dX11_sectionsToRead_48 rfl (lv_at hl 1 rfl) ?_
      refine fl_get11 (v := .ref (b + 38)) kyf_0 F hW 9 (by decide) q_541 rfl rfl dX11_sectionsToRead_49 ?_
      refine fl_get1 (v := .ref (b + 61)) kyf_38 F hW 2 (by decide) q_365 rfl rfl dX11_sectionsToRead_52 ?_
      refine fl_get7 (v := .ref (b + 72)) kyf_61 F hW 8 (by decide) q_327 rfl rfl dX11_sectionsToRead_55 ?_
      refine lv_iload_n hx hb dX11_sectionsToRead_58 rfl (lv_at hl 3 rfl) ?_
      obtain ⟨r2, qr2, h⟩ := ob h
      refine k_X5_at F ok_72 qr2 q_883 ⟨Nat.le_of_ble_eq_true rfl, Nat.le_of_ble_eq_true rfl, Nat.le_of_ble_eq_true rfl, Nat.le_of_ble_eq_true rfl⟩ hW hS hl.1 (Nat.le_of_ble_eq_true rfl) dX11_sectionsToRead_59 (fun H locs hW hS => ?_)
      refine lv_aload_n hx hb dX11_sectionsToRead_62 rfl (lv_at hl 1 rfl) ?_
      refine fl_get11 (v := .ref (b + 38)) kyf_0 F hW 9 (by decide) q_541 rfl rfl dX11_sectionsToRead_63 ?_
      refine fl_get1 (v := .ref (b + 61)) kyf_38 F hW 2 (by decide) q_365 rfl rfl dX11_sectionsToRead_66 ?_
      refine lv_iload_n hx hb dX11_sectionsToRead_69 rfl (lv_at hl 3 rfl) ?_
      obtain ⟨r3, qr3, h⟩ := ob h
      refine k_X7_lineBehind F ok_61 qr3 q_884 ⟨Nat.le_of_ble_eq_true rfl, Nat.le_of_ble_eq_true rfl, Nat.le_of_ble_eq_true rfl, Nat.le_of_ble_eq_true rfl⟩ hW hS hl.1 (Nat.le_of_ble_eq_true rfl) dX11_sectionsToRead_70 (fun H locs hW hS => ?_)
      obtain ⟨r4, qr4, h⟩ := ob h
      refine k_X1_typeLines F ok_38 ok_140 ok_11 qr4 q_885 ⟨Nat.le_of_ble_eq_true rfl, Nat.le_of_ble_eq_true rfl, Nat.le_of_ble_eq_true rfl, Nat.le_of_ble_eq_true rfl⟩ hW hS hl.1 (Nat.le_of_ble_eq_true rfl) dX11_sectionsToRead_73 (fun H locs hW hS => ?_)
      refine lv_aload_n hx hb dX11_sectionsToRead_76 rfl (lv_at hl 1 rfl) ?_
      refine fl_get11 (v := .ref (b + 98)) kyf_0 F hW 12 (by decide) q_544 rfl rfl dX11_sectionsToRead_77 ?_
      refine lv_aload_n hx hb dX11_sectionsToRead_80 rfl (lv_at hl 1 rfl) ?_
      refine fl_get11 (v := .ref (b + 142)) kyf_0 F hW 14 (by decide) q_546 rfl rfl dX11_sectionsToRead_81 ?_
      refine lv_aload_n hx hb dX11_sectionsToRead_84 rfl (lv_at hl 1 rfl) ?_
      refine fl_get11 (v := .ref (b + 10)) kyf_0 F hW 5 (by decide) q_537 rfl rfl dX11_sectionsToRead_85 ?_
      refine fl_get6 (v := .ref (b + 24)) kyf_10 F hW 1 (by decide) q_214 rfl rfl dX11_sectionsToRead_88 ?_
      refine lv_aload_n hx hb dX11_sectionsToRead_91 rfl (lv_at hl 1 rfl) ?_
      refine fl_get11 (v := .ref (b + 98)) kyf_0 F hW 12 (by decide) q_544 rfl rfl dX11_sectionsToRead_92 ?_
      refine fl_get1 (v := .ref (b + 121)) kyf_98 F hW 2 (by decide) q_365 rfl rfl dX11_sectionsToRead_95 ?_
      refine fl_get7 (v := .ref (b + 132)) kyf_121 F hW 8 (by decide) q_327 rfl rfl dX11_sectionsToRead_98 ?_
      refine lv_iload_n hx hb dX11_sectionsToRead_101 rfl (lv_at hl 0 rfl) ?_
      obtain ⟨r5, qr5, h⟩ := ob h
      refine k_X5_at F ok_132 qr5 q_883 ⟨Nat.le_of_ble_eq_true rfl, Nat.le_of_ble_eq_true rfl, Nat.le_of_ble_eq_true rfl, Nat.le_of_ble_eq_true rfl⟩ hW hS hl.1 (Nat.le_of_ble_eq_true rfl) dX11_sectionsToRead_102 (fun H locs hW hS => ?_)
      refine lv_aload_n hx hb dX11_sectionsToRead_105 rfl (lv_at hl 1 rfl) ?_
      refine fl_get11 (v := .ref (b + 98)) kyf_0 F hW 12 (by decide) q_544 rfl rfl dX11_sectionsToRead_106 ?_
      refine fl_get1 (v := .ref (b + 121)) kyf_98 F hW 2 (by decide) q_365 rfl rfl dX11_sectionsToRead_109 ?_
      refine lv_iload_n hx hb dX11_sectionsToRead_112 rfl (lv_at hl 0 rfl) ?_
      obtain ⟨r6, qr6, h⟩ := ob h
      refine k_X7_lineBehind F ok_121 qr6 q_884 ⟨Nat.le_of_ble_eq_true rfl, Nat.le_of_ble_eq_true rfl, Nat.le_of_ble_eq_true rfl, Nat.le_of_ble_eq_true rfl⟩ hW hS hl.1 (Nat.le_of_ble_eq_true rfl) dX11_sectionsToRead_113 (fun H locs hW hS => ?_)
      obtain ⟨r7, qr7, h⟩ := ob h
      refine k_X1_typeLines F ok_98 ok_142 ok_24 qr7 q_885 ⟨Nat.le_of_ble_eq_true rfl, Nat.le_of_ble_eq_true rfl, Nat.le_of_ble_eq_true rfl, Nat.le_of_ble_eq_true rfl⟩ hW hS hl.1 (Nat.le_of_ble_eq_true rfl) dX11_sectionsToRead_116 (fun H locs hW hS => ?_)
      refine lv_aload_n hx hb dX11_sectionsToRead_119 rfl (lv_at hl 1 rfl) ?_
      refine fl_get11 (v := .ref (b + 10)) kyf_0 F hW 5 (by decide) q_537 rfl rfl dX11_sectionsToRead_120 ?_
      refine fl_get6 (v := .int (r7.1 10 2)) kyf_10 F hW 2 (by decide) q_216 rfl rfl dX11_sectionsToRead_123 ?_
      refine lv_if_eq (tgt := 148) hx hb dX11_sectionsToRead_126 (by decide) (fun cc => ?_) (fun cc => ?_)
      · replace h := (if_pos cc).symm.trans h
        exact wk_X11_sectionsToRead_148 F hr hk4 h hW hS (lv_sub hl [1, 2, 3] rfl)
      · replace h := (if_neg cc).symm.trans h
        refine lv_iload_n hx hb dX11_sectionsToRead_129 rfl (lv_at hl 0 rfl) ?_
        refine lv_iconst (v := (-1 : Int32)) hx hb dX11_sectionsToRead_130 (by decide) ?_
        refine lv_icmp_eq (tgt := 148) hx hb dX11_sectionsToRead_131 (by decide) (fun cc => ?_) (fun cc => ?_)
        · replace h := (if_pos cc).symm.trans h
          exact wk_X11_sectionsToRead_148 F hr hk4 h hW hS (lv_sub hl [1, 2, 3] rfl)
        · replace h := (if_neg cc).symm.trans h
          refine lv_aload_n hx hb dX11_sectionsToRead_134 rfl (lv_at hl 1 rfl) ?_
          refine fl_get11 (v := .ref (b + 140)) kyf_0 F hW 13 (by decide) q_545 rfl rfl dX11_sectionsToRead_135 ?_
          refine lv_aload_n hx hb dX11_sectionsToRead_138 rfl (lv_at hl 1 rfl) ?_
          refine fl_get11 (v := .ref (b + 142)) kyf_0 F hW 14 (by decide) q_546 rfl rfl dX11_sectionsToRead_139 ?_
          obtain ⟨r9, qr9, h⟩ := ob h
          refine k_X8_isLike F ok_140 ok_142 qr9 q_932 ⟨Nat.le_of_ble_eq_true rfl, Nat.le_of_ble_eq_true rfl, Nat.le_of_ble_eq_true rfl, Nat.le_of_ble_eq_true rfl⟩ hW hS hl.1 (Nat.le_of_ble_eq_true rfl) dX11_sectionsToRead_142 (fun H locs hW hS => ?_)
          refine lv_if_ne (tgt := 154) hx hb dX11_sectionsToRead_145 (by decide) (fun cc => ?_) (fun cc => ?_)
          · replace h := (if_neg cc).symm.trans h
            refine lv_iinc (v := (x2 + (1 : Int32))) (lv' := [(2, .int (x2 + (1 : Int32))), (3, .int r1), (0, .ref (b + 0)), (1, .int x1)]) hx hb dX11_sectionsToRead_154 hl (k := 3) rfl rfl (by decide) rfl (fun ls hl => ?_)
            refine lv_goto (tgt := 4) hx hb dX11_sectionsToRead_157 (by decide) ?_
            exact hk4 _ _ _ _ _ _ h hW hS (lv_sub hl [2, 3, 0] rfl)
          · replace h := (if_pos cc).symm.trans h
            exact wk_X11_sectionsToRead_148 F hr hk4 h hW hS (lv_sub hl [1, 2, 3] rfl)
set_option maxHeartbeats 4000000 in
set_option maxRecDepth 100000 in
theorem wk_X11_sectionsToRead {n : Nat} {μ : Mm} {out : (Int32 × Mm)} (F : FX G b RX11 cX11_sectionsToRead 4 p s m args meth c) (hr : meth.sig.returnType = some .int) (h : sh_X11_sectionsToRead n  μ = some out) (hW : WH G b μ H) (hS : va_S (fb b) s.heap H locs) (hl : lv_has ls 4 [(0, .ref (b + 0))]) : W p l e ({ frames := 5, cells := 0, slots := 0, locals := 121 } : Room) s m args below meth c H locs 0 0 (MQ below (QW G b out.2 (some (.int out.1))) args s 0 0 (fb b)) (F0 m 0 ls []) := by
  have hx := F.1
  have hb := F.2.1
  unfold sh_X11_sectionsToRead at h
  refine lv_iconst (v := (0 : Int32)) hx hb dX11_sectionsToRead_0 (by decide) ?_
  refine lv_istore_n (lv' := [(1, .int (0 : Int32)), (0, .ref (b + 0))]) hx hb dX11_sectionsToRead_1 rfl hl (by decide) rfl (fun ls hl => ?_)
  refine lv_iconst (v := (0 : Int32)) hx hb dX11_sectionsToRead_2 (by decide) ?_
  refine lv_istore_n (lv' := [(2, .int (0 : Int32)), (1, .int (0 : Int32)), (0, .ref (b + 0))]) hx hb dX11_sectionsToRead_3 rfl hl (by decide) rfl (fun ls hl => ?_)
  exact wk_X11_sectionsToRead_4 F hr n _ _ _ _ _ _ h hW hS (lv_sub hl [2, 1, 0] rfl)
set_option maxHeartbeats 4000000 in
set_option maxRecDepth 100000 in
theorem c_X11_sectionsToRead {l : Launch} {G : Gt} {b : Nat} {n : Nat} {μ : Mm} {out : (Int32 × Mm)} (h : sh_X11_sectionsToRead n  μ = some out) : Met l yX11_sectionsToRead (wU (Cond.code yX11_sectionsToRead cX11_sectionsToRead 4 (some .int))) ({ frames := 5, cells := 0, slots := 0, locals := 121 } : Room) (PcW G b μ [.ref (b + 0)]) (QW G b out.2 (some (.int out.1))) 0 0 (fb b) :=
  met_of [.ref (b + 0)] (by decide) (Nat.le_of_ble_eq_true rfl) (fun F hr hW hl => wk_X11_sectionsToRead F hr h hW va_S.rf hl)
set_option maxHeartbeats 4000000 in
set_option maxRecDepth 100000 in
theorem k_X11_sectionsToRead {own : String} {nL : Nat} (F : FX G b own cc nL p s m args meth c) {n : Nat} {μ : Mm} {out : (Int32 × Mm)} (h : sh_X11_sectionsToRead n  μ = some out) {index : Nat} (hl : Cond.methodLink own index yX11_sectionsToRead ∈ TBG) (hR : 5 + 1 ≤ R.frames ∧ 8 + (4 + 11) + 121 ≤ R.locals ∧ cells ≤ R.cells ∧ slots ≤ R.slots) (hW : WH G b μ H) (hS : va_S (fb b) s.heap H locs) (hsz : ls.size = nL) (hrest : (rest.map fun v => v.category).sum ≤ 8) (hdg : decode cc pc = .ok (.invokevirtual index, 3))
    (kk : ∀ (H1 : Heap) (locs1 : List Loc), WH G b out.2 H1 → va_S (fb b) s.heap H1 locs1 → W p l e R s m args below meth c H1 locs1 cells slots Q (F0 m (pc + 3) ls (.int out.1 :: rest))) : W p l e R s m args below meth c H locs cells slots Q (F0 m pc ls (.ref (b + 0) :: rest)) :=
  f_callV (As := []) (ci := 11) (c_X11_sectionsToRead h) ⟨rfl, rfl⟩ rfl (ky_lt kyf_0 (by decide)) (wF_11 kyf_0) q_881 qp_26 q_1 q_882 rfl ⟨by decide +kernel, by decide +kernel, (show (parseMethodDescriptor yX11_sectionsToRead.desc).map (fun d => d.parameters.length) = some 0 by decide +kernel)⟩ F hl hR hW hS hsz hrest rfl hdg kk
set_option maxHeartbeats 4000000 in
set_option maxRecDepth 100000 in
theorem wk_J6_bitCount_0f7a4 {a0 : Int32} {μ : Mm} {out : Int32} (F : FX G b RJ6 cJ6_bitCount_0f7a4 1 p s m args meth c) (hr : meth.sig.returnType = some .int) (h : sh_J6_bitCount_0f7a4 a0 μ = some out) (hW : WH G b μ H) (hS : va_S (fb b) s.heap H locs) (hl : lv_has ls 1 [(0, .int a0)]) : W p l e ({ frames := 0, cells := 0, slots := 0, locals := 0 } : Room) s m args below meth c H locs 0 0 (MQ below (QW G b μ (some (.int out))) args s 0 0 (fb b)) (F0 m 0 ls []) := by
  have hx := F.1
  have hb := F.2.1
  unfold sh_J6_bitCount_0f7a4 at h
  refine lv_iload_n hx hb dJ6_bitCount_0f7a4_0 rfl (lv_at hl 0 rfl) ?_
  refine lv_iload_n hx hb dJ6_bitCount_0f7a4_1 rfl (lv_at hl 0 rfl) ?_
  refine lv_iconst (v := (1 : Int32)) hx hb dJ6_bitCount_0f7a4_2 (by decide) ?_
  refine lv_iushr hx hb dJ6_bitCount_0f7a4_3 rfl ?_
  refine lv_ldcw hx hb F.2.2.2.1 (F.2.2.2.2.1 _ q_939) dJ6_bitCount_0f7a4_4 ?_
  refine lv_iand hx hb dJ6_bitCount_0f7a4_7 ?_
  refine lv_isub hx hb dJ6_bitCount_0f7a4_8 ?_
  obtain ⟨v1, ev1⟩ : ∃ y, y = (a0 - ((a0.toUInt32 >>> ((1 : Int32).toUInt32 &&& Int32.toUInt32 31)).toInt32 &&& (1431655765 : Int32))) := ⟨_, rfl⟩
  have h := nm_at ev1 h
  rw [← ev1]
  refine lv_istore_n (lv' := [(0, .int v1)]) hx hb dJ6_bitCount_0f7a4_9 rfl hl (by decide) rfl (fun ls hl => ?_)
  refine lv_iload_n hx hb dJ6_bitCount_0f7a4_10 rfl (lv_at hl 0 rfl) ?_
  refine lv_ldcw hx hb F.2.2.2.1 (F.2.2.2.2.1 _ q_940) dJ6_bitCount_0f7a4_11 ?_
  refine lv_iand hx hb dJ6_bitCount_0f7a4_14 ?_
  refine lv_iload_n hx hb dJ6_bitCount_0f7a4_15 rfl (lv_at hl 0 rfl) ?_
  refine lv_iconst (v := (2 : Int32)) hx hb dJ6_bitCount_0f7a4_16 (by decide) ?_
  refine lv_iushr hx hb dJ6_bitCount_0f7a4_17 rfl ?_
  refine lv_ldcw hx hb F.2.2.2.1 (F.2.2.2.2.1 _ q_940) dJ6_bitCount_0f7a4_18 ?_
  refine lv_iand hx hb dJ6_bitCount_0f7a4_21 ?_
  refine lv_iadd hx hb dJ6_bitCount_0f7a4_22 ?_
  obtain ⟨v2, ev2⟩ : ∃ y, y = ((v1 &&& (858993459 : Int32)) + ((v1.toUInt32 >>> ((2 : Int32).toUInt32 &&& Int32.toUInt32 31)).toInt32 &&& (858993459 : Int32))) := ⟨_, rfl⟩
  have h := nm_at ev2 h
  rw [← ev2]
  refine lv_istore_n (lv' := [(0, .int v2)]) hx hb dJ6_bitCount_0f7a4_23 rfl hl (by decide) rfl (fun ls hl => ?_)
  refine lv_iload_n hx hb dJ6_bitCount_0f7a4_24 rfl (lv_at hl 0 rfl) ?_
  refine lv_iload_n hx hb dJ6_bitCount_0f7a4_25 rfl (lv_at hl 0 rfl) ?_
  refine lv_iconst (v := (4 : Int32)) hx hb dJ6_bitCount_0f7a4_26 (by decide) ?_
  refine lv_iushr hx hb dJ6_bitCount_0f7a4_27 rfl ?_
  refine lv_iadd hx hb dJ6_bitCount_0f7a4_28 ?_
  refine lv_ldcw hx hb F.2.2.2.1 (F.2.2.2.2.1 _ q_941) dJ6_bitCount_0f7a4_29 ?_
  refine lv_iand hx hb dJ6_bitCount_0f7a4_32 ?_
  obtain ⟨v3, ev3⟩ : ∃ y, y = ((v2 + (v2.toUInt32 >>> ((4 : Int32).toUInt32 &&& Int32.toUInt32 31)).toInt32) &&& (252645135 : Int32)) := ⟨_, rfl⟩
  have h := nm_at ev3 h
  rw [← ev3]
  refine lv_istore_n (lv' := [(0, .int v3)]) hx hb dJ6_bitCount_0f7a4_33 rfl hl (by decide) rfl (fun ls hl => ?_)
  refine lv_iload_n hx hb dJ6_bitCount_0f7a4_34 rfl (lv_at hl 0 rfl) ?_
  refine lv_iload_n hx hb dJ6_bitCount_0f7a4_35 rfl (lv_at hl 0 rfl) ?_
  refine lv_bipush (v := (8 : Int32)) hx hb dJ6_bitCount_0f7a4_36 (by decide) ?_
  refine lv_iushr hx hb dJ6_bitCount_0f7a4_38 rfl ?_
  refine lv_iadd hx hb dJ6_bitCount_0f7a4_39 ?_
  obtain ⟨v4, ev4⟩ : ∃ y, y = (v3 + (v3.toUInt32 >>> ((8 : Int32).toUInt32 &&& Int32.toUInt32 31)).toInt32) := ⟨_, rfl⟩
  have h := nm_at ev4 h
  rw [← ev4]
  refine lv_istore_n (lv' := [(0, .int v4)]) hx hb dJ6_bitCount_0f7a4_40 rfl hl (by decide) rfl (fun ls hl => ?_)
  refine lv_iload_n hx hb dJ6_bitCount_0f7a4_41 rfl (lv_at hl 0 rfl) ?_
  refine lv_iload_n hx hb dJ6_bitCount_0f7a4_42 rfl (lv_at hl 0 rfl) ?_
  refine lv_bipush (v := (16 : Int32)) hx hb dJ6_bitCount_0f7a4_43 (by decide) ?_
  refine lv_iushr hx hb dJ6_bitCount_0f7a4_45 rfl ?_
  refine lv_iadd hx hb dJ6_bitCount_0f7a4_46 ?_
  obtain ⟨v5, ev5⟩ : ∃ y, y = (v4 + (v4.toUInt32 >>> ((16 : Int32).toUInt32 &&& Int32.toUInt32 31)).toInt32) := ⟨_, rfl⟩
  have h := nm_at ev5 h
  rw [← ev5]
  refine lv_istore_n (lv' := [(0, .int v5)]) hx hb dJ6_bitCount_0f7a4_47 rfl hl (by decide) rfl (fun ls hl => ?_)
  refine lv_iload_n hx hb dJ6_bitCount_0f7a4_48 rfl (lv_at hl 0 rfl) ?_
  refine lv_bipush (v := (63 : Int32)) hx hb dJ6_bitCount_0f7a4_49 (by decide) ?_
  refine lv_iand hx hb dJ6_bitCount_0f7a4_51 ?_
  cases h
  exact r_int F hr hW hS dJ6_bitCount_0f7a4_52
set_option maxHeartbeats 4000000 in
set_option maxRecDepth 100000 in
theorem c_J6_bitCount_0f7a4 {l : Launch} {G : Gt} {b : Nat} {a0 : Int32} {μ : Mm} {out : Int32} (h : sh_J6_bitCount_0f7a4 a0 μ = some out) : Met l yJ6_bitCount_0f7a4 (wU (Cond.code yJ6_bitCount_0f7a4 cJ6_bitCount_0f7a4 1 (some .int))) ({ frames := 0, cells := 0, slots := 0, locals := 0 } : Room) (PcW G b μ [.int a0]) (QW G b μ (some (.int out))) 0 0 (fb b) :=
  met_of [.int a0] (by decide) (Nat.le_of_ble_eq_true rfl) (fun F hr hW hl => wk_J6_bitCount_0f7a4 F hr h hW va_S.rf hl)
set_option maxHeartbeats 4000000 in
set_option maxRecDepth 100000 in
theorem k_J6_bitCount_0f7a4 {own : String} {nL : Nat} (F : FX G b own cc nL p s m args meth c) {a0 : Int32} {μ : Mm} {out : Int32} (h : sh_J6_bitCount_0f7a4 a0 μ = some out) {index : Nat} (hl : Cond.methodLink own index yJ6_bitCount_0f7a4 ∈ TBG) (hR : 0 + 1 ≤ R.frames ∧ 8 + (1 + 11) + 0 ≤ R.locals ∧ cells ≤ R.cells ∧ slots ≤ R.slots) (hW : WH G b μ H) (hS : va_S (fb b) s.heap H locs) (hsz : ls.size = nL) (hrest : (rest.map fun v => v.category).sum ≤ 8) (hdg : decode cc pc = .ok (.invokestatic index, 3))
    (kk : ∀ (H1 : Heap) (locs1 : List Loc), WH G b μ H1 → va_S (fb b) s.heap H1 locs1 → W p l e R s m args below meth c H1 locs1 cells slots Q (F0 m (pc + 3) ls (.int out :: rest))) : W p l e R s m args below meth c H locs cells slots Q (F0 m pc ls (.int a0 :: rest)) :=
  f_callSx (As := [.int a0]) (c_J6_bitCount_0f7a4 h) ⟨rfl, rfl⟩ q_937 q_27 q_938 ⟨by decide +kernel, by decide +kernel, (show (parseMethodDescriptor yJ6_bitCount_0f7a4.desc).map (fun d => d.parameters.length) = some 1 by decide +kernel)⟩ F hl hR hW hS hsz hrest rfl hdg kk
set_option maxHeartbeats 4000000 in
set_option maxRecDepth 100000 in
theorem wk_X11_proof {n : Nat} {μ : Mm} {out : (Int32 × Mm)} (F : FX G b RX11 cX11_proof 2 p s m args meth c) (hr : meth.sig.returnType = some .int) (h : sh_X11_proof n  μ = some out) (hW : WH G b μ H) (hS : va_S (fb b) s.heap H locs) (hl : lv_has ls 2 [(0, .ref (b + 0))]) : W p l e ({ frames := 6, cells := 0, slots := 0, locals := 144 } : Room) s m args below meth c H locs 0 0 (MQ below (QW G b out.2 (some (.int out.1))) args s 0 0 (fb b)) (F0 m 0 ls []) := by
  have hx := F.1
  have hb := F.2.1
  unfold sh_X11_proof at h
  refine lv_aload_n hx hb dX11_proof_0 rfl (lv_at hl 0 rfl) ?_
  refine fl_get11 (v := .ref (b + 98)) kyf_0 F hW 12 (by decide) q_544 rfl rfl dX11_proof_1 ?_
  refine lv_aload_n hx hb dX11_proof_4 rfl (lv_at hl 0 rfl) ?_
  refine fl_get11 (v := .ref (b + 10)) kyf_0 F hW 5 (by decide) q_537 rfl rfl dX11_proof_5 ?_
  refine fl_get6 (v := .ref (b + 24)) kyf_10 F hW 1 (by decide) q_214 rfl rfl dX11_proof_8 ?_
  obtain ⟨r1, qr1, h⟩ := ob h
  refine k_X1_layAnew F ok_98 ok_24 qr1 q_405 ⟨Nat.le_of_ble_eq_true rfl, Nat.le_of_ble_eq_true rfl, Nat.le_of_ble_eq_true rfl, Nat.le_of_ble_eq_true rfl⟩ hW hS hl.1 (Nat.le_of_ble_eq_true rfl) dX11_proof_11 (fun H locs hW hS => ?_)
  refine lv_aload_n hx hb dX11_proof_14 rfl (lv_at hl 0 rfl) ?_
  obtain ⟨r2, qr2, h⟩ := ob h
  refine k_X11_sectionsToRead F qr2 q_879 ⟨Nat.le_of_ble_eq_true rfl, Nat.le_of_ble_eq_true rfl, Nat.le_of_ble_eq_true rfl, Nat.le_of_ble_eq_true rfl⟩ hW hS hl.1 (Nat.le_of_ble_eq_true rfl) dX11_proof_15 (fun H locs hW hS => ?_)
  obtain ⟨r3, qr3, h⟩ := ob h
  refine k_J6_bitCount_0f7a4 F qr3 q_936 ⟨Nat.le_of_ble_eq_true rfl, Nat.le_of_ble_eq_true rfl, Nat.le_of_ble_eq_true rfl, Nat.le_of_ble_eq_true rfl⟩ hW hS hl.1 (Nat.le_of_ble_eq_true rfl) dX11_proof_18 (fun H locs hW hS => ?_)
  refine lv_istore_n (lv' := [(1, .int r3), (0, .ref (b + 0))]) hx hb dX11_proof_21 rfl hl (by decide) rfl (fun ls hl => ?_)
  refine lv_aload_n hx hb dX11_proof_22 rfl (lv_at hl 1 rfl) ?_
  obtain ⟨r4, qr4, h⟩ := ob h
  refine k_X11_keepForUndo F qr4 q_761 ⟨Nat.le_of_ble_eq_true rfl, Nat.le_of_ble_eq_true rfl, Nat.le_of_ble_eq_true rfl, Nat.le_of_ble_eq_true rfl⟩ hW hS hl.1 (Nat.le_of_ble_eq_true rfl) dX11_proof_23 (fun H locs hW hS => ?_)
  refine lv_aload_n hx hb dX11_proof_26 rfl (lv_at hl 1 rfl) ?_
  refine fl_get11 (v := .ref (b + 10)) kyf_0 F hW 5 (by decide) q_537 rfl rfl dX11_proof_27 ?_
  obtain ⟨r5, qr5, h⟩ := ob h
  refine k_X6_keepProof F ok_10 qr5 q_942 ⟨Nat.le_of_ble_eq_true rfl, Nat.le_of_ble_eq_true rfl, Nat.le_of_ble_eq_true rfl, Nat.le_of_ble_eq_true rfl⟩ hW hS hl.1 (Nat.le_of_ble_eq_true rfl) dX11_proof_30 (fun H locs hW hS => ?_)
  refine lv_iload_n hx hb dX11_proof_33 rfl (lv_at hl 0 rfl) ?_
  cases h
  exact r_int F hr hW hS dX11_proof_34
set_option maxHeartbeats 4000000 in
set_option maxRecDepth 100000 in
theorem c_X11_proof {l : Launch} {G : Gt} {b : Nat} {n : Nat} {μ : Mm} {out : (Int32 × Mm)} (h : sh_X11_proof n  μ = some out) : Met l yX11_proof (wU (Cond.code yX11_proof cX11_proof 2 (some .int))) ({ frames := 6, cells := 0, slots := 0, locals := 144 } : Room) (PcW G b μ [.ref (b + 0)]) (QW G b out.2 (some (.int out.1))) 0 0 (fb b) :=
  met_of [.ref (b + 0)] (by decide) (Nat.le_of_ble_eq_true rfl) (fun F hr hW hl => wk_X11_proof F hr h hW va_S.rf hl)
set_option maxHeartbeats 4000000 in
set_option maxRecDepth 100000 in
theorem k_X11_proof {own : String} {nL : Nat} (F : FX G b own cc nL p s m args meth c) {n : Nat} {μ : Mm} {out : (Int32 × Mm)} (h : sh_X11_proof n  μ = some out) {index : Nat} (hl : Cond.methodLink own index yX11_proof ∈ TBG) (hR : 6 + 1 ≤ R.frames ∧ 8 + (2 + 11) + 144 ≤ R.locals ∧ cells ≤ R.cells ∧ slots ≤ R.slots) (hW : WH G b μ H) (hS : va_S (fb b) s.heap H locs) (hsz : ls.size = nL) (hrest : (rest.map fun v => v.category).sum ≤ 8) (hdg : decode cc pc = .ok (.invokevirtual index, 3))
    (kk : ∀ (H1 : Heap) (locs1 : List Loc), WH G b out.2 H1 → va_S (fb b) s.heap H1 locs1 → W p l e R s m args below meth c H1 locs1 cells slots Q (F0 m (pc + 3) ls (.int out.1 :: rest))) : W p l e R s m args below meth c H locs cells slots Q (F0 m pc ls (.ref (b + 0) :: rest)) :=
  f_callV (As := []) (ci := 11) (c_X11_proof h) ⟨rfl, rfl⟩ rfl (ky_lt kyf_0 (by decide)) (wF_11 kyf_0) q_876 q_877 q_1 q_878 rfl ⟨by decide +kernel, by decide +kernel, (show (parseMethodDescriptor yX11_proof.desc).map (fun d => d.parameters.length) = some 0 by decide +kernel)⟩ F hl hR hW hS hsz hrest rfl hdg kk
set_option maxHeartbeats 4000000 in
set_option maxRecDepth 100000 in
theorem wk_X11_toRead {n : Nat} {μ : Mm} {out : (Int32 × Mm)} (F : FX G b RX11 cX11_toRead 1 p s m args meth c) (hr : meth.sig.returnType = some .int) (h : sh_X11_toRead n  μ = some out) (hW : WH G b μ H) (hS : va_S (fb b) s.heap H locs) (hl : lv_has ls 1 [(0, .ref (b + 0))]) : W p l e ({ frames := 6, cells := 0, slots := 0, locals := 144 } : Room) s m args below meth c H locs 0 0 (MQ below (QW G b out.2 (some (.int out.1))) args s 0 0 (fb b)) (F0 m 0 ls []) := by
  have hx := F.1
  have hb := F.2.1
  unfold sh_X11_toRead at h
  refine lv_aload_n hx hb dX11_toRead_0 rfl (lv_at hl 0 rfl) ?_
  refine fl_get11 (v := .ref (b + 98)) kyf_0 F hW 12 (by decide) q_544 rfl rfl dX11_toRead_1 ?_
  refine lv_aload_n hx hb dX11_toRead_4 rfl (lv_at hl 0 rfl) ?_
  refine fl_get11 (v := .ref (b + 10)) kyf_0 F hW 5 (by decide) q_537 rfl rfl dX11_toRead_5 ?_
  refine fl_get6 (v := .ref (b + 24)) kyf_10 F hW 1 (by decide) q_214 rfl rfl dX11_toRead_8 ?_
  obtain ⟨r1, qr1, h⟩ := ob h
  refine k_X1_layAnew F ok_98 ok_24 qr1 q_405 ⟨Nat.le_of_ble_eq_true rfl, Nat.le_of_ble_eq_true rfl, Nat.le_of_ble_eq_true rfl, Nat.le_of_ble_eq_true rfl⟩ hW hS hl.1 (Nat.le_of_ble_eq_true rfl) dX11_toRead_11 (fun H locs hW hS => ?_)
  refine lv_aload_n hx hb dX11_toRead_14 rfl (lv_at hl 0 rfl) ?_
  obtain ⟨r2, qr2, h⟩ := ob h
  refine k_X11_sectionsToRead F qr2 q_879 ⟨Nat.le_of_ble_eq_true rfl, Nat.le_of_ble_eq_true rfl, Nat.le_of_ble_eq_true rfl, Nat.le_of_ble_eq_true rfl⟩ hW hS hl.1 (Nat.le_of_ble_eq_true rfl) dX11_toRead_15 (fun H locs hW hS => ?_)
  cases h
  exact r_int F hr hW hS dX11_toRead_18
set_option maxHeartbeats 4000000 in
set_option maxRecDepth 100000 in
theorem c_X11_toRead {l : Launch} {G : Gt} {b : Nat} {n : Nat} {μ : Mm} {out : (Int32 × Mm)} (h : sh_X11_toRead n  μ = some out) : Met l yX11_toRead (wU (Cond.code yX11_toRead cX11_toRead 1 (some .int))) ({ frames := 6, cells := 0, slots := 0, locals := 144 } : Room) (PcW G b μ [.ref (b + 0)]) (QW G b out.2 (some (.int out.1))) 0 0 (fb b) :=
  met_of [.ref (b + 0)] (by decide) (Nat.le_of_ble_eq_true rfl) (fun F hr hW hl => wk_X11_toRead F hr h hW va_S.rf hl)
set_option maxHeartbeats 4000000 in
set_option maxRecDepth 100000 in
theorem k_X11_toRead {own : String} {nL : Nat} (F : FX G b own cc nL p s m args meth c) {n : Nat} {μ : Mm} {out : (Int32 × Mm)} (h : sh_X11_toRead n  μ = some out) {index : Nat} (hl : Cond.methodLink own index yX11_toRead ∈ TBG) (hR : 6 + 1 ≤ R.frames ∧ 8 + (1 + 11) + 144 ≤ R.locals ∧ cells ≤ R.cells ∧ slots ≤ R.slots) (hW : WH G b μ H) (hS : va_S (fb b) s.heap H locs) (hsz : ls.size = nL) (hrest : (rest.map fun v => v.category).sum ≤ 8) (hdg : decode cc pc = .ok (.invokevirtual index, 3))
    (kk : ∀ (H1 : Heap) (locs1 : List Loc), WH G b out.2 H1 → va_S (fb b) s.heap H1 locs1 → W p l e R s m args below meth c H1 locs1 cells slots Q (F0 m (pc + 3) ls (.int out.1 :: rest))) : W p l e R s m args below meth c H locs cells slots Q (F0 m pc ls (.ref (b + 0) :: rest)) :=
  f_callV (As := []) (ci := 11) (c_X11_toRead h) ⟨rfl, rfl⟩ rfl (ky_lt kyf_0 (by decide)) (wF_11 kyf_0) q_948 q_949 q_1 q_950 rfl ⟨by decide +kernel, by decide +kernel, (show (parseMethodDescriptor yX11_toRead.desc).map (fun d => d.parameters.length) = some 0 by decide +kernel)⟩ F hl hR hW hS hsz hrest rfl hdg kk
set_option maxHeartbeats 4000000 in
set_option maxRecDepth 100000 in
theorem wk_X11_changedLines_87 {n : Nat} {out : (Int32 × Mm)} (F : FX G b RX11 cX11_changedLines 4 p s m args meth c) (hr : meth.sig.returnType = some .int) : ∀ (f : Nat) (x1 : Int32) (x2 : Int32) (x3 : Int32) (μ : Mm) (H : Heap) (locs : List Loc) (ls : Array Slot), sh_X11_changedLines_87 n f x1 x2 x3 μ = some out → WH G b μ H → va_S (fb b) s.heap H locs → lv_has ls 4 [(0, .ref (b + 0)), (1, .int x1), (2, .int x2), (3, .int x3)] → W p l e ({ frames := 6, cells := 0, slots := 0, locals := 143 } : Room) s m args below meth c H locs 0 0 (MQ below (QW G b out.2 (some (.int out.1))) args s 0 0 (fb b)) (F0 m 87 ls []) := by
  have hx := F.1
  have hb := F.2.1
  intro f
  induction f with
  | zero =>
    intro _ _ _ _ _ _ _ h
    rw [sh_X11_changedLines_87] at h
    cases h
  | succ f ih =>
    intro x1 x2 x3 μ H locs ls h hW hS hl
    rw [sh_X11_changedLines_87] at h
    have hk87 := ih
    refine lv_iload_n hx hb dX11_changedLines_87 rfl (lv_at hl 3 rfl) ?_
    refine lv_iload_n hx hb dX11_changedLines_88 rfl (lv_at hl 1 rfl) ?_
    refine lv_icmp_ge (tgt := 159) hx hb dX11_changedLines_89 (by decide) (fun cc => ?_) (fun cc => ?_)
    · replace h := (if_pos cc).symm.trans h
      refine lv_iload_n hx hb dX11_changedLines_159 rfl (lv_at hl 2 rfl) ?_
      cases h
      exact r_int F hr hW hS dX11_changedLines_160
    · replace h := (if_neg cc).symm.trans h
      refine lv_aload_n hx hb dX11_changedLines_92 rfl (lv_at hl 0 rfl) ?_
      refine fl_get11 (v := .ref (b + 38)) kyf_0 F hW 9 (by decide) q_541 rfl rfl dX11_changedLines_93 ?_
      refine lv_aload_n hx hb dX11_changedLines_96 rfl (lv_at hl 0 rfl) ?_
      refine fl_get11 (v := .ref (b + 140)) kyf_0 F hW 13 (by decide) q_545 rfl rfl dX11_changedLines_97 ?_
      refine lv_aload_n hx hb dX11_changedLines_100 rfl (lv_at hl 0 rfl) ?_
      refine fl_get11 (v := .ref (b + 10)) kyf_0 F hW 5 (by decide) q_537 rfl rfl dX11_changedLines_101 ?_
      refine fl_get6 (v := .ref (b + 11)) kyf_10 F hW 0 (by decide) q_212 rfl rfl dX11_changedLines_104 ?_
      refine lv_iload_n hx hb dX11_changedLines_107 rfl (lv_at hl 3 rfl) ?_
      refine lv_iload_n hx hb dX11_changedLines_108 rfl (lv_at hl 3 rfl) ?_
      refine lv_iconst (v := (1 : Int32)) hx hb dX11_changedLines_109 (by decide) ?_
      refine lv_iadd hx hb dX11_changedLines_110 ?_
      obtain ⟨r4, qr4, h⟩ := ob h
      refine k_X1_typeLines F ok_38 ok_140 ok_11 qr4 q_885 ⟨Nat.le_of_ble_eq_true rfl, Nat.le_of_ble_eq_true rfl, Nat.le_of_ble_eq_true rfl, Nat.le_of_ble_eq_true rfl⟩ hW hS hl.1 (Nat.le_of_ble_eq_true rfl) dX11_changedLines_111 (fun H locs hW hS => ?_)
      refine lv_aload_n hx hb dX11_changedLines_114 rfl (lv_at hl 0 rfl) ?_
      refine fl_get11 (v := .ref (b + 98)) kyf_0 F hW 12 (by decide) q_544 rfl rfl dX11_changedLines_115 ?_
      refine lv_aload_n hx hb dX11_changedLines_118 rfl (lv_at hl 0 rfl) ?_
      refine fl_get11 (v := .ref (b + 142)) kyf_0 F hW 14 (by decide) q_546 rfl rfl dX11_changedLines_119 ?_
      refine lv_aload_n hx hb dX11_changedLines_122 rfl (lv_at hl 0 rfl) ?_
      refine fl_get11 (v := .ref (b + 10)) kyf_0 F hW 5 (by decide) q_537 rfl rfl dX11_changedLines_123 ?_
      refine fl_get6 (v := .ref (b + 24)) kyf_10 F hW 1 (by decide) q_214 rfl rfl dX11_changedLines_126 ?_
      refine lv_iload_n hx hb dX11_changedLines_129 rfl (lv_at hl 3 rfl) ?_
      refine lv_iload_n hx hb dX11_changedLines_130 rfl (lv_at hl 3 rfl) ?_
      refine lv_iconst (v := (1 : Int32)) hx hb dX11_changedLines_131 (by decide) ?_
      refine lv_iadd hx hb dX11_changedLines_132 ?_
      obtain ⟨r5, qr5, h⟩ := ob h
      refine k_X1_typeLines F ok_98 ok_142 ok_24 qr5 q_885 ⟨Nat.le_of_ble_eq_true rfl, Nat.le_of_ble_eq_true rfl, Nat.le_of_ble_eq_true rfl, Nat.le_of_ble_eq_true rfl⟩ hW hS hl.1 (Nat.le_of_ble_eq_true rfl) dX11_changedLines_133 (fun H locs hW hS => ?_)
      refine lv_aload_n hx hb dX11_changedLines_136 rfl (lv_at hl 0 rfl) ?_
      refine fl_get11 (v := .ref (b + 140)) kyf_0 F hW 13 (by decide) q_545 rfl rfl dX11_changedLines_137 ?_
      refine lv_aload_n hx hb dX11_changedLines_140 rfl (lv_at hl 0 rfl) ?_
      refine fl_get11 (v := .ref (b + 142)) kyf_0 F hW 14 (by decide) q_546 rfl rfl dX11_changedLines_141 ?_
      obtain ⟨r6, qr6, h⟩ := ob h
      refine k_X8_isLike F ok_140 ok_142 qr6 q_932 ⟨Nat.le_of_ble_eq_true rfl, Nat.le_of_ble_eq_true rfl, Nat.le_of_ble_eq_true rfl, Nat.le_of_ble_eq_true rfl⟩ hW hS hl.1 (Nat.le_of_ble_eq_true rfl) dX11_changedLines_144 (fun H locs hW hS => ?_)
      refine lv_if_ne (tgt := 153) hx hb dX11_changedLines_147 (by decide) (fun cc => ?_) (fun cc => ?_)
      · replace h := (if_neg cc).symm.trans h
        refine lv_iinc (v := (x3 + (1 : Int32))) (lv' := [(3, .int (x3 + (1 : Int32))), (0, .ref (b + 0)), (1, .int x1), (2, .int x2)]) hx hb dX11_changedLines_153 hl (k := 3) rfl rfl (by decide) rfl (fun ls hl => ?_)
        refine lv_goto (tgt := 87) hx hb dX11_changedLines_156 (by decide) ?_
        exact hk87 _ _ _ _ _ _ _ h hW hS (lv_sub hl [1, 2, 3, 0] rfl)
      · replace h := (if_pos cc).symm.trans h
        refine lv_iinc (v := (x2 + (1 : Int32))) (lv' := [(2, .int (x2 + (1 : Int32))), (0, .ref (b + 0)), (1, .int x1), (3, .int x3)]) hx hb dX11_changedLines_150 hl (k := 2) rfl rfl (by decide) rfl (fun ls hl => ?_)
        refine lv_iinc (v := (x3 + (1 : Int32))) (lv' := [(3, .int (x3 + (1 : Int32))), (2, .int (x2 + (1 : Int32))), (0, .ref (b + 0)), (1, .int x1)]) hx hb dX11_changedLines_153 hl (k := 3) rfl rfl (by decide) rfl (fun ls hl => ?_)
        refine lv_goto (tgt := 87) hx hb dX11_changedLines_156 (by decide) ?_
        exact hk87 _ _ _ _ _ _ _ h hW hS (lv_sub hl [2, 3, 1, 0] rfl)
set_option maxHeartbeats 4000000 in
set_option maxRecDepth 100000 in
theorem wk_X11_changedLines {n : Nat} {μ : Mm} {out : (Int32 × Mm)} (F : FX G b RX11 cX11_changedLines 4 p s m args meth c) (hr : meth.sig.returnType = some .int) (h : sh_X11_changedLines n  μ = some out) (hW : WH G b μ H) (hS : va_S (fb b) s.heap H locs) (hl : lv_has ls 4 [(0, .ref (b + 0))]) : W p l e ({ frames := 6, cells := 0, slots := 0, locals := 143 } : Room) s m args below meth c H locs 0 0 (MQ below (QW G b out.2 (some (.int out.1))) args s 0 0 (fb b)) (F0 m 0 ls []) := by
  have hx := F.1
  have hb := F.2.1
  unfold sh_X11_changedLines at h
  refine lv_aload_n hx hb dX11_changedLines_0 rfl (lv_at hl 0 rfl) ?_
  refine fl_get11 (v := .ref (b + 10)) kyf_0 F hW 5 (by decide) q_537 rfl rfl dX11_changedLines_1 ?_
  refine fl_get6 (v := .int (μ.1 10 2)) kyf_10 F hW 2 (by decide) q_216 rfl rfl dX11_changedLines_4 ?_
  refine lv_if_ne (tgt := 21) hx hb dX11_changedLines_7 (by decide) (fun cc => ?_) (fun cc => ?_)
  · replace h := (if_neg cc).symm.trans h
    refine lv_aload_n hx hb dX11_changedLines_21 rfl (lv_at hl 0 rfl) ?_
    refine fl_get11 (v := .ref (b + 98)) kyf_0 F hW 12 (by decide) q_544 rfl rfl dX11_changedLines_22 ?_
    refine lv_aload_n hx hb dX11_changedLines_25 rfl (lv_at hl 0 rfl) ?_
    refine fl_get11 (v := .ref (b + 10)) kyf_0 F hW 5 (by decide) q_537 rfl rfl dX11_changedLines_26 ?_
    refine fl_get6 (v := .ref (b + 24)) kyf_10 F hW 1 (by decide) q_214 rfl rfl dX11_changedLines_29 ?_
    obtain ⟨r1, qr1, h⟩ := ob h
    refine k_X1_layAnew F ok_98 ok_24 qr1 q_405 ⟨Nat.le_of_ble_eq_true rfl, Nat.le_of_ble_eq_true rfl, Nat.le_of_ble_eq_true rfl, Nat.le_of_ble_eq_true rfl⟩ hW hS hl.1 (Nat.le_of_ble_eq_true rfl) dX11_changedLines_32 (fun H locs hW hS => ?_)
    refine lv_aload_n hx hb dX11_changedLines_35 rfl (lv_at hl 0 rfl) ?_
    refine fl_get11 (v := .ref (b + 38)) kyf_0 F hW 9 (by decide) q_541 rfl rfl dX11_changedLines_36 ?_
    refine fl_get1 (v := .ref (b + 61)) kyf_38 F hW 2 (by decide) q_365 rfl rfl dX11_changedLines_39 ?_
    refine fl_get7 (v := .int (r1.1 61 2)) kyf_61 F hW 2 (by decide) q_312 rfl rfl dX11_changedLines_42 ?_
    refine lv_aload_n hx hb dX11_changedLines_45 rfl (lv_at hl 0 rfl) ?_
    refine fl_get11 (v := .ref (b + 98)) kyf_0 F hW 12 (by decide) q_544 rfl rfl dX11_changedLines_46 ?_
    refine fl_get1 (v := .ref (b + 121)) kyf_98 F hW 2 (by decide) q_365 rfl rfl dX11_changedLines_49 ?_
    refine fl_get7 (v := .int (r1.1 121 2)) kyf_121 F hW 2 (by decide) q_312 rfl rfl dX11_changedLines_52 ?_
    refine fl_min F hl.1 q_787 q_465 q_3 mm_min (Nat.le_of_ble_eq_true rfl) (Nat.le_of_ble_eq_true rfl) (Nat.zero_le _) (Nat.zero_le _) dX11_changedLines_55 ?_
    obtain ⟨v2, ev2⟩ : ∃ y, y = (if (r1.1 121 2) < (r1.1 61 2) then (r1.1 121 2) else (r1.1 61 2)) := ⟨_, rfl⟩
    have h := nm_at ev2 h
    rw [← ev2]
    refine lv_istore_n (lv' := [(1, .int v2), (0, .ref (b + 0))]) hx hb dX11_changedLines_58 rfl hl (by decide) rfl (fun ls hl => ?_)
    refine lv_aload_n hx hb dX11_changedLines_59 rfl (lv_at hl 1 rfl) ?_
    refine fl_get11 (v := .ref (b + 38)) kyf_0 F hW 9 (by decide) q_541 rfl rfl dX11_changedLines_60 ?_
    refine fl_get1 (v := .ref (b + 61)) kyf_38 F hW 2 (by decide) q_365 rfl rfl dX11_changedLines_63 ?_
    refine fl_get7 (v := .int (r1.1 61 2)) kyf_61 F hW 2 (by decide) q_312 rfl rfl dX11_changedLines_66 ?_
    refine lv_aload_n hx hb dX11_changedLines_69 rfl (lv_at hl 1 rfl) ?_
    refine fl_get11 (v := .ref (b + 98)) kyf_0 F hW 12 (by decide) q_544 rfl rfl dX11_changedLines_70 ?_
    refine fl_get1 (v := .ref (b + 121)) kyf_98 F hW 2 (by decide) q_365 rfl rfl dX11_changedLines_73 ?_
    refine fl_get7 (v := .int (r1.1 121 2)) kyf_121 F hW 2 (by decide) q_312 rfl rfl dX11_changedLines_76 ?_
    refine fl_max F hl.1 q_955 q_43 q_3 mm_max (Nat.le_of_ble_eq_true rfl) (Nat.le_of_ble_eq_true rfl) (Nat.zero_le _) (Nat.zero_le _) dX11_changedLines_79 ?_
    refine lv_iload_n hx hb dX11_changedLines_82 rfl (lv_at hl 0 rfl) ?_
    refine lv_isub hx hb dX11_changedLines_83 ?_
    obtain ⟨v3, ev3⟩ : ∃ y, y = ((if (r1.1 61 2) < (r1.1 121 2) then (r1.1 121 2) else (r1.1 61 2)) - v2) := ⟨_, rfl⟩
    have h := nm_at ev3 h
    rw [← ev3]
    refine lv_istore_n (lv' := [(2, .int v3), (1, .int v2), (0, .ref (b + 0))]) hx hb dX11_changedLines_84 rfl hl (by decide) rfl (fun ls hl => ?_)
    refine lv_iconst (v := (0 : Int32)) hx hb dX11_changedLines_85 (by decide) ?_
    refine lv_istore_n (lv' := [(3, .int (0 : Int32)), (2, .int v3), (1, .int v2), (0, .ref (b + 0))]) hx hb dX11_changedLines_86 rfl hl (by decide) rfl (fun ls hl => ?_)
    exact wk_X11_changedLines_87 F hr n _ _ _ _ _ _ _ h hW hS (lv_sub hl [3, 2, 1, 0] rfl)
  · replace h := (if_pos cc).symm.trans h
    refine lv_aload_n hx hb dX11_changedLines_10 rfl (lv_at hl 0 rfl) ?_
    refine fl_get11 (v := .ref (b + 38)) kyf_0 F hW 9 (by decide) q_541 rfl rfl dX11_changedLines_11 ?_
    refine fl_get1 (v := .ref (b + 61)) kyf_38 F hW 2 (by decide) q_365 rfl rfl dX11_changedLines_14 ?_
    refine fl_get7 (v := .int (μ.1 61 2)) kyf_61 F hW 2 (by decide) q_312 rfl rfl dX11_changedLines_17 ?_
    cases h
    exact r_int F hr hW hS dX11_changedLines_20
set_option maxHeartbeats 4000000 in
set_option maxRecDepth 100000 in
theorem c_X11_changedLines {l : Launch} {G : Gt} {b : Nat} {n : Nat} {μ : Mm} {out : (Int32 × Mm)} (h : sh_X11_changedLines n  μ = some out) : Met l yX11_changedLines (wU (Cond.code yX11_changedLines cX11_changedLines 4 (some .int))) ({ frames := 6, cells := 0, slots := 0, locals := 143 } : Room) (PcW G b μ [.ref (b + 0)]) (QW G b out.2 (some (.int out.1))) 0 0 (fb b) :=
  met_of [.ref (b + 0)] (by decide) (Nat.le_of_ble_eq_true rfl) (fun F hr hW hl => wk_X11_changedLines F hr h hW va_S.rf hl)
set_option maxHeartbeats 4000000 in
set_option maxRecDepth 100000 in
theorem k_X11_changedLines {own : String} {nL : Nat} (F : FX G b own cc nL p s m args meth c) {n : Nat} {μ : Mm} {out : (Int32 × Mm)} (h : sh_X11_changedLines n  μ = some out) {index : Nat} (hl : Cond.methodLink own index yX11_changedLines ∈ TBG) (hR : 6 + 1 ≤ R.frames ∧ 8 + (4 + 11) + 143 ≤ R.locals ∧ cells ≤ R.cells ∧ slots ≤ R.slots) (hW : WH G b μ H) (hS : va_S (fb b) s.heap H locs) (hsz : ls.size = nL) (hrest : (rest.map fun v => v.category).sum ≤ 8) (hdg : decode cc pc = .ok (.invokevirtual index, 3))
    (kk : ∀ (H1 : Heap) (locs1 : List Loc), WH G b out.2 H1 → va_S (fb b) s.heap H1 locs1 → W p l e R s m args below meth c H1 locs1 cells slots Q (F0 m (pc + 3) ls (.int out.1 :: rest))) : W p l e R s m args below meth c H locs cells slots Q (F0 m pc ls (.ref (b + 0) :: rest)) :=
  f_callV (As := []) (ci := 11) (c_X11_changedLines h) ⟨rfl, rfl⟩ rfl (ky_lt kyf_0 (by decide)) (wF_11 kyf_0) q_952 q_953 q_1 q_954 rfl ⟨by decide +kernel, by decide +kernel, (show (parseMethodDescriptor yX11_changedLines.desc).map (fun d => d.parameters.length) = some 0 by decide +kernel)⟩ F hl hR hW hS hsz hrest rfl hdg kk
set_option maxHeartbeats 4000000 in
set_option maxRecDepth 100000 in
theorem wk_X11_startTrial {n : Nat} {μ : Mm} {out : Mm} (F : FX G b RX11 cX11_startTrial 1 p s m args meth c) (hr : meth.sig.returnType = none) (h : sh_X11_startTrial n  μ = some out) (hW : WH G b μ H) (hS : va_S (fb b) s.heap H locs) (hl : lv_has ls 1 [(0, .ref (b + 0))]) : W p l e ({ frames := 4, cells := 0, slots := 0, locals := 93 } : Room) s m args below meth c H locs 0 0 (MQ below (QW G b out none) args s 0 0 (fb b)) (F0 m 0 ls []) := by
  have hx := F.1
  have hb := F.2.1
  unfold sh_X11_startTrial at h
  refine lv_aload_n hx hb dX11_startTrial_0 rfl (lv_at hl 0 rfl) ?_
  refine fl_get11 (v := .ref (b + 85)) kyf_0 F hW 11 (by decide) q_543 rfl rfl dX11_startTrial_1 ?_
  refine lv_aload_n hx hb dX11_startTrial_4 rfl (lv_at hl 0 rfl) ?_
  refine fl_get11 (v := .ref (b + 10)) kyf_0 F hW 5 (by decide) q_537 rfl rfl dX11_startTrial_5 ?_
  refine fl_get6 (v := .ref (b + 11)) kyf_10 F hW 0 (by decide) q_212 rfl rfl dX11_startTrial_8 ?_
  obtain ⟨r1, qr1, h⟩ := ob h
  refine k_X0_take F ok_85 ok_11 qr1 q_788 ⟨Nat.le_of_ble_eq_true rfl, Nat.le_of_ble_eq_true rfl, Nat.le_of_ble_eq_true rfl, Nat.le_of_ble_eq_true rfl⟩ hW hS hl.1 (Nat.le_of_ble_eq_true rfl) dX11_startTrial_11 (fun H locs hW hS => ?_)
  refine lv_aload_n hx hb dX11_startTrial_14 rfl (lv_at hl 0 rfl) ?_
  refine fl_get11 (v := .ref (b + 98)) kyf_0 F hW 12 (by decide) q_544 rfl rfl dX11_startTrial_15 ?_
  refine fl_get1 (v := .ref (b + 99)) kyf_98 F hW 0 (by decide) q_361 rfl rfl dX11_startTrial_18 ?_
  refine lv_aload_n hx hb dX11_startTrial_21 rfl (lv_at hl 0 rfl) ?_
  refine fl_get11 (v := .ref (b + 85)) kyf_0 F hW 11 (by decide) q_543 rfl rfl dX11_startTrial_22 ?_
  obtain ⟨r2, qr2, h⟩ := ob h
  refine k_X2_measure F ok_99 ok_85 qr2 q_964 ⟨Nat.le_of_ble_eq_true rfl, Nat.le_of_ble_eq_true rfl, Nat.le_of_ble_eq_true rfl, Nat.le_of_ble_eq_true rfl⟩ hW hS hl.1 (Nat.le_of_ble_eq_true rfl) dX11_startTrial_25 (fun H locs hW hS => ?_)
  cases h
  exact r_void F hr hW hS dX11_startTrial_28
set_option maxHeartbeats 4000000 in
set_option maxRecDepth 100000 in
theorem c_X11_startTrial {l : Launch} {G : Gt} {b : Nat} {n : Nat} {μ : Mm} {out : Mm} (h : sh_X11_startTrial n  μ = some out) : Met l yX11_startTrial (wU (Cond.code yX11_startTrial cX11_startTrial 1 none)) ({ frames := 4, cells := 0, slots := 0, locals := 93 } : Room) (PcW G b μ [.ref (b + 0)]) (QW G b out none) 0 0 (fb b) :=
  met_of [.ref (b + 0)] (by decide) (Nat.le_of_ble_eq_true rfl) (fun F hr hW hl => wk_X11_startTrial F hr h hW va_S.rf hl)
set_option maxHeartbeats 4000000 in
set_option maxRecDepth 100000 in
theorem k_X11_startTrial {own : String} {nL : Nat} (F : FX G b own cc nL p s m args meth c) {n : Nat} {μ : Mm} {out : Mm} (h : sh_X11_startTrial n  μ = some out) {index : Nat} (hl : Cond.methodLink own index yX11_startTrial ∈ TBG) (hR : 4 + 1 ≤ R.frames ∧ 8 + (1 + 11) + 93 ≤ R.locals ∧ cells ≤ R.cells ∧ slots ≤ R.slots) (hW : WH G b μ H) (hS : va_S (fb b) s.heap H locs) (hsz : ls.size = nL) (hrest : (rest.map fun v => v.category).sum ≤ 8) (hdg : decode cc pc = .ok (.invokevirtual index, 3))
    (kk : ∀ (H1 : Heap) (locs1 : List Loc), WH G b out H1 → va_S (fb b) s.heap H1 locs1 → W p l e R s m args below meth c H1 locs1 cells slots Q (F0 m (pc + 3) ls (rest))) : W p l e R s m args below meth c H locs cells slots Q (F0 m pc ls (.ref (b + 0) :: rest)) :=
  f_callV (As := []) (ci := 11) (c_X11_startTrial h) ⟨rfl, rfl⟩ rfl (ky_lt kyf_0 (by decide)) (wF_11 kyf_0) q_962 qp_30 q_1 q_963 rfl ⟨by decide +kernel, by decide +kernel, (show (parseMethodDescriptor yX11_startTrial.desc).map (fun d => d.parameters.length) = some 0 by decide +kernel)⟩ F hl hR hW hS hsz hrest rfl hdg kk
set_option maxHeartbeats 4000000 in
set_option maxRecDepth 100000 in
theorem wk_X11_slack_26 {n : Nat} {a1 : Int32} {out : ((Nat × Mm) ⊕ (Int32 × Mm))} (F : FX G b RX11 cX11_slack 4 p s m args meth c) (hr : meth.sig.returnType = some .int) (hlT : l.stackTraces = false) (hnt : ∀ x ∈ c.exceptionTable.toList, False) : ∀ (f : Nat) (x2 : Int32) (x3 : Int32) (μ : Mm) (H : Heap) (locs : List Loc) (ls : Array Slot), sh_X11_slack_26 n a1 f x2 x3 μ = some out → WH G b μ H → va_S (fb b) s.heap H locs → lv_has ls 4 [(0, .ref (b + 0)), (1, .int a1), (2, .int x2), (3, .int x3)] → W p l e ({ frames := 7, cells := 1, slots := 6, locals := 122 } : Room) s m args below meth c H locs 1 6 (vx_MQ below (QN G b (Sum.elim (fun _ => none) (fun (v : (Int32 × Mm)) => some (v.2, (some (.int v.1)))) out)) (XN G b (Sum.elim (fun (q : Nat × Mm) => some q) (fun _ => none) out)) args s 1 6 (fb b)) (F0 m 26 ls []) := by
  have hx := F.1
  have hb := F.2.1
  intro f
  induction f with
  | zero =>
    intro _ _ _ _ _ _ h
    rw [sh_X11_slack_26] at h
    cases h
  | succ f ih =>
    intro x2 x3 μ H locs ls h hW hS hl
    rw [sh_X11_slack_26] at h
    have hk26 := ih
    refine lv_iload_n hx hb dX11_slack_26 rfl (lv_at hl 3 rfl) ?_
    refine lv_bipush (v := (99 : Int32)) hx hb dX11_slack_27 (by decide) ?_
    refine lv_icmp_gt (tgt := 97) hx hb dX11_slack_29 (by decide) (fun cc => ?_) (fun cc => ?_)
    · replace h := (if_pos cc).symm.trans h
      refine lv_bipush (v := (99 : Int32)) hx hb dX11_slack_97 (by decide) ?_
      cases h
      exact x_int F hr (Nat.le_of_ble_eq_true rfl) (Nat.le_of_ble_eq_true rfl) hW hS dX11_slack_99
    · replace h := (if_neg cc).symm.trans h
      refine lv_aload_n hx hb dX11_slack_32 rfl (lv_at hl 0 rfl) ?_
      refine fl_get11 (v := .ref (b + 85)) kyf_0 F hW 11 (by decide) q_543 rfl rfl dX11_slack_33 ?_
      refine fl_get0 (v := .ref (b + 90)) kyf_85 F hW 5 (by decide) q_178 rfl rfl dX11_slack_36 ?_
      refine lv_iload_n hx hb dX11_slack_39 rfl (lv_at hl 1 rfl) ?_
      refine lv_iload_n hx hb dX11_slack_40 rfl (lv_at hl 2 rfl) ?_
      refine lv_iload_n hx hb dX11_slack_41 rfl (lv_at hl 3 rfl) ?_
      refine lv_iadd hx hb dX11_slack_42 ?_
      obtain ⟨r5, qr5, h⟩ := ob h
      refine k_X5_put F ok_90 qr5 q_966 ⟨Nat.le_of_ble_eq_true rfl, Nat.le_of_ble_eq_true rfl, Nat.le_of_ble_eq_true rfl, Nat.le_of_ble_eq_true rfl⟩ hW hS hl.1 (Nat.le_of_ble_eq_true rfl) dX11_slack_43 (fun H locs hW hS => ?_)
      refine lv_aload_n hx hb dX11_slack_46 rfl (lv_at hl 0 rfl) ?_
      refine fl_get11 (v := .ref (b + 98)) kyf_0 F hW 12 (by decide) q_544 rfl rfl dX11_slack_47 ?_
      refine lv_aload_n hx hb dX11_slack_50 rfl (lv_at hl 0 rfl) ?_
      refine fl_get11 (v := .ref (b + 85)) kyf_0 F hW 11 (by decide) q_543 rfl rfl dX11_slack_51 ?_
      obtain ⟨r6, qr6, h⟩ := ob h
      refine k_X1_lay F ok_98 ok_85 qr6 q_967 ⟨Nat.le_of_ble_eq_true rfl, Nat.le_of_ble_eq_true rfl, Nat.le_of_ble_eq_true rfl, Nat.le_of_ble_eq_true rfl⟩ hW hS hl.1 (Nat.le_of_ble_eq_true rfl) dX11_slack_54 (fun H locs hW hS => ?_)
      refine lv_aload_n hx hb dX11_slack_57 rfl (lv_at hl 0 rfl) ?_
      refine fl_get11 (v := .ref (b + 98)) kyf_0 F hW 12 (by decide) q_544 rfl rfl dX11_slack_58 ?_
      refine fl_get1 (v := .ref (b + 112)) kyf_98 F hW 1 (by decide) q_363 rfl rfl dX11_slack_61 ?_
      refine lv_aload_n hx hb dX11_slack_64 rfl (lv_at hl 0 rfl) ?_
      refine fl_get11 (v := .ref (b + 38)) kyf_0 F hW 9 (by decide) q_541 rfl rfl dX11_slack_65 ?_
      refine fl_get1 (v := .ref (b + 52)) kyf_38 F hW 1 (by decide) q_363 rfl rfl dX11_slack_68 ?_
      refine lv_aload_n hx hb dX11_slack_71 rfl (lv_at hl 0 rfl) ?_
      refine fl_get11 (v := .ref (b + 10)) kyf_0 F hW 5 (by decide) q_537 rfl rfl dX11_slack_72 ?_
      refine fl_get6 (v := .ref (b + 11)) kyf_10 F hW 0 (by decide) q_212 rfl rfl dX11_slack_75 ?_
      refine fl_get0 (v := .int (r6.1 11 2)) kyf_11 F hW 2 (by decide) q_165 rfl rfl dX11_slack_78 ?_
      obtain ⟨r7, qr7, h⟩ := ob h
      refine k_X3_hasNumbersOf F ok_112 ok_52 qr7 q_1379 ⟨Nat.le_of_ble_eq_true rfl, Nat.le_of_ble_eq_true rfl, Nat.le_of_ble_eq_true rfl, Nat.le_of_ble_eq_true rfl⟩ hW hS hl.1 (Nat.le_of_ble_eq_true rfl) dX11_slack_81 (fun H locs hW hS => ?_)
      refine lv_if_ne (tgt := 91) hx hb dX11_slack_84 (by decide) (fun cc => ?_) (fun cc => ?_)
      · replace h := (if_neg cc).symm.trans h
        refine lv_iinc (v := (x3 + (1 : Int32))) (lv' := [(3, .int (x3 + (1 : Int32))), (0, .ref (b + 0)), (1, .int a1), (2, .int x2)]) hx hb dX11_slack_91 hl (k := 3) rfl rfl (by decide) rfl (fun ls hl => ?_)
        refine lv_goto (tgt := 26) hx hb dX11_slack_94 (by decide) ?_
        exact hk26 _ _ _ _ _ _ h hW hS (lv_sub hl [1, 2, 3, 0] rfl)
      · replace h := (if_pos cc).symm.trans h
        refine lv_iload_n hx hb dX11_slack_87 rfl (lv_at hl 3 rfl) ?_
        refine lv_iconst (v := (1 : Int32)) hx hb dX11_slack_88 (by decide) ?_
        refine lv_isub hx hb dX11_slack_89 ?_
        cases h
        exact x_int F hr (Nat.le_of_ble_eq_true rfl) (Nat.le_of_ble_eq_true rfl) hW hS dX11_slack_90
set_option maxHeartbeats 4000000 in
set_option maxRecDepth 100000 in
theorem wk_X11_slack {n : Nat} {a1 : Int32} {μ : Mm} {out : ((Nat × Mm) ⊕ (Int32 × Mm))} (F : FX G b RX11 cX11_slack 4 p s m args meth c) (hr : meth.sig.returnType = some .int) (hlT : l.stackTraces = false) (hnt : ∀ x ∈ c.exceptionTable.toList, False) (h : sh_X11_slack n a1 μ = some out) (hW : WH G b μ H) (hS : va_S (fb b) s.heap H locs) (hl : lv_has ls 4 [(0, .ref (b + 0)), (1, .int a1)]) : W p l e ({ frames := 7, cells := 1, slots := 6, locals := 122 } : Room) s m args below meth c H locs 0 0 (vx_MQ below (QN G b (Sum.elim (fun _ => none) (fun (v : (Int32 × Mm)) => some (v.2, (some (.int v.1)))) out)) (XN G b (Sum.elim (fun (q : Nat × Mm) => some q) (fun _ => none) out)) args s 1 6 (fb b)) (F0 m 0 ls []) := by
  have hx := F.1
  have hb := F.2.1
  unfold sh_X11_slack at h
  refine lv_aload_n hx hb dX11_slack_0 rfl (lv_at hl 0 rfl) ?_
  refine lv_iload_n hx hb dX11_slack_1 rfl (lv_at hl 1 rfl) ?_
  obtain ⟨r1, qr1, h⟩ := ob h
  refine k_X11_checkSection F hlT qr1 q_1104 ⟨Nat.le_of_ble_eq_true rfl, Nat.le_of_ble_eq_true rfl, Nat.le_of_ble_eq_true rfl, Nat.le_of_ble_eq_true rfl⟩ hW hS hl.1 (Nat.le_of_ble_eq_true rfl) dX11_slack_2 (fun ec he ce q9 H locs hW hS hc1 hc2 hc3 => ?_) (fun v2 he H locs hW hS => ?_)
  · subst he
    cases h
    exact x_out F hnt (Nat.le_of_ble_eq_true rfl) (Nat.le_of_ble_eq_true rfl) hW hS hc1 hc2 hc3
  subst he
  replace h := (Sum.elim_inr _ _ _).symm.trans h
  refine lv_aload_n hx hb dX11_slack_5 rfl (lv_at hl 0 rfl) ?_
  obtain ⟨r3, qr3, h⟩ := ob h
  refine k_X11_startTrial F qr3 q_960 ⟨Nat.le_of_ble_eq_true rfl, Nat.le_of_ble_eq_true rfl, Nat.le_of_ble_eq_true rfl, Nat.le_of_ble_eq_true rfl⟩ hW hS hl.1 (Nat.le_of_ble_eq_true rfl) dX11_slack_6 (fun H locs hW hS => ?_)
  refine lv_aload_n hx hb dX11_slack_9 rfl (lv_at hl 0 rfl) ?_
  refine fl_get11 (v := .ref (b + 10)) kyf_0 F hW 5 (by decide) q_537 rfl rfl dX11_slack_10 ?_
  refine fl_get6 (v := .ref (b + 11)) kyf_10 F hW 0 (by decide) q_212 rfl rfl dX11_slack_13 ?_
  refine fl_get0 (v := .ref (b + 16)) kyf_11 F hW 5 (by decide) q_178 rfl rfl dX11_slack_16 ?_
  refine lv_iload_n hx hb dX11_slack_19 rfl (lv_at hl 1 rfl) ?_
  obtain ⟨r4, qr4, h⟩ := ob h
  refine k_X5_at F ok_16 qr4 q_883 ⟨Nat.le_of_ble_eq_true rfl, Nat.le_of_ble_eq_true rfl, Nat.le_of_ble_eq_true rfl, Nat.le_of_ble_eq_true rfl⟩ hW hS hl.1 (Nat.le_of_ble_eq_true rfl) dX11_slack_20 (fun H locs hW hS => ?_)
  refine lv_istore_n (lv' := [(2, .int r4), (0, .ref (b + 0)), (1, .int a1)]) hx hb dX11_slack_23 rfl hl (by decide) rfl (fun ls hl => ?_)
  refine lv_iconst (v := (1 : Int32)) hx hb dX11_slack_24 (by decide) ?_
  refine lv_istore_n (lv' := [(3, .int (1 : Int32)), (2, .int r4), (0, .ref (b + 0)), (1, .int a1)]) hx hb dX11_slack_25 rfl hl (by decide) rfl (fun ls hl => ?_)
  exact wk_X11_slack_26 F hr hlT hnt n _ _ _ _ _ _ h hW hS (lv_sub hl [2, 3, 1, 0] rfl)
set_option maxHeartbeats 4000000 in
set_option maxRecDepth 100000 in
theorem c_X11_slack {l : Launch} (hlT : l.stackTraces = false) {G : Gt} {b : Nat} {n : Nat} {a1 : Int32} {μ : Mm} {out : ((Nat × Mm) ⊕ (Int32 × Mm))} (h : sh_X11_slack n a1 μ = some out) : vx_Met l yX11_slack (wU (Cond.code yX11_slack cX11_slack 4 (some .int))) ({ frames := 7, cells := 1, slots := 6, locals := 122 } : Room) (PcW G b μ [.ref (b + 0), .int a1]) (QN G b (Sum.elim (fun _ => none) (fun (v : (Int32 × Mm)) => some (v.2, (some (.int v.1)))) out)) (XN G b (Sum.elim (fun (q : Nat × Mm) => some q) (fun _ => none) out)) 1 6 (fb b) :=
  xmet_of [.ref (b + 0), .int a1] (by decide) (Nat.le_of_ble_eq_true rfl) (fun F hr hnt hW hl => wk_X11_slack F hr hlT hnt h hW va_S.rf hl)
set_option maxHeartbeats 4000000 in
set_option maxRecDepth 100000 in
theorem k_X11_slack {own : String} {nL : Nat} (F : FX G b own cc nL p s m args meth c) (hlT : l.stackTraces = false) {n : Nat} {a1 : Int32} {μ : Mm} {out : ((Nat × Mm) ⊕ (Int32 × Mm))} (h : sh_X11_slack n a1 μ = some out) {index : Nat} (hl : Cond.methodLink own index yX11_slack ∈ TBG) (hR : 7 + 1 ≤ R.frames ∧ 8 + (4 + 11) + 122 ≤ R.locals ∧ cells + 1 ≤ R.cells ∧ slots + 6 ≤ R.slots) (hW : WH G b μ H) (hS : va_S (fb b) s.heap H locs) (hsz : ls.size = nL) (hrest : (rest.map fun v => v.category).sum ≤ 8) (hdg : decode cc pc = .ok (.invokevirtual index, 3))
    (kx : ∀ (q : Nat × Mm), out = .inl q → ∀ (ce : Cell) (q9 : Addr) (H1 : Heap) (locs1 : List Loc), WH G b q.2 H1 → va_S (fb b) s.heap H1 locs1 → H1[q9]? = some ce → ce.vm = .none → s.vm.findClass (exN q.1) = some ce.cls → vx_W p l e R s m args below meth c H1 locs1 (cells + 1) (slots + 6) Q (F0 m pc ls rest) q9)
    (kk : ∀ (v : (Int32 × Mm)), out = .inr v → ∀ (H1 : Heap) (locs1 : List Loc), WH G b v.2 H1 → va_S (fb b) s.heap H1 locs1 → W p l e R s m args below meth c H1 locs1 (cells + 1) (slots + 6) Q (F0 m (pc + 3) ls (.int v.1 :: rest))) : W p l e R s m args below meth c H locs cells slots Q (F0 m pc ls (.int a1 :: .ref (b + 0) :: rest)) := by
  cases out with
  | inl q => exact fx_callV (As := [.int a1]) (ci := 11) (c_X11_slack hlT h) ⟨rfl, rfl⟩ rfl (ky_lt kyf_0 (by decide)) (wF_11 kyf_0) q_1376 q_1377 q_1 q_1378 rfl ⟨by decide +kernel, by decide +kernel, (show (parseMethodDescriptor yX11_slack.desc).map (fun d => d.parameters.length) = some 1 by decide +kernel)⟩ F hl hR hW hS hsz hrest rfl hdg (fun z hz => by obtain rfl := Option.some.inj hz; exact kx _ rfl) (fun z hz => nomatch (show (none : Option (Mm × Option Value)) = some z from hz))
  | inr v => exact fx_callV (As := [.int a1]) (ci := 11) (c_X11_slack hlT h) ⟨rfl, rfl⟩ rfl (ky_lt kyf_0 (by decide)) (wF_11 kyf_0) q_1376 q_1377 q_1 q_1378 rfl ⟨by decide +kernel, by decide +kernel, (show (parseMethodDescriptor yX11_slack.desc).map (fun d => d.parameters.length) = some 1 by decide +kernel)⟩ F hl hR hW hS hsz hrest rfl hdg (fun z hz => nomatch (show (none : Option (Nat × Mm)) = some z from hz)) (fun z hz => by obtain rfl := Option.some.inj hz; exact kk _ rfl)
set_option maxHeartbeats 4000000 in
set_option maxRecDepth 100000 in
theorem wk_X11_pagesIf {n : Nat} {a1 : Int32} {a2 : Int32} {μ : Mm} {out : ((Nat × Mm) ⊕ (Int32 × Mm))} (F : FX G b RX11 cX11_pagesIf 3 p s m args meth c) (hr : meth.sig.returnType = some .int) (hlT : l.stackTraces = false) (hnt : ∀ x ∈ c.exceptionTable.toList, False) (h : sh_X11_pagesIf n a1 a2 μ = some out) (hW : WH G b μ H) (hS : va_S (fb b) s.heap H locs) (hl : lv_has ls 3 [(0, .ref (b + 0)), (1, .int a1), (2, .int a2)]) : W p l e ({ frames := 7, cells := 2, slots := 12, locals := 122 } : Room) s m args below meth c H locs 0 0 (vx_MQ below (QN G b (Sum.elim (fun _ => none) (fun (v : (Int32 × Mm)) => some (v.2, (some (.int v.1)))) out)) (XN G b (Sum.elim (fun (q : Nat × Mm) => some q) (fun _ => none) out)) args s 2 12 (fb b)) (F0 m 0 ls []) := by
  have hx := F.1
  have hb := F.2.1
  unfold sh_X11_pagesIf at h
  refine lv_aload_n hx hb dX11_pagesIf_0 rfl (lv_at hl 0 rfl) ?_
  refine lv_iload_n hx hb dX11_pagesIf_1 rfl (lv_at hl 1 rfl) ?_
  obtain ⟨r1, qr1, h⟩ := ob h
  refine k_X11_checkSection F hlT qr1 q_1104 ⟨Nat.le_of_ble_eq_true rfl, Nat.le_of_ble_eq_true rfl, Nat.le_of_ble_eq_true rfl, Nat.le_of_ble_eq_true rfl⟩ hW hS hl.1 (Nat.le_of_ble_eq_true rfl) dX11_pagesIf_2 (fun ec he ce q9 H locs hW hS hc1 hc2 hc3 => ?_) (fun v2 he H locs hW hS => ?_)
  · subst he
    cases h
    exact x_out F hnt (Nat.le_of_ble_eq_true rfl) (Nat.le_of_ble_eq_true rfl) hW hS hc1 hc2 hc3
  subst he
  replace h := (Sum.elim_inr _ _ _).symm.trans h
  refine lv_aload_n hx hb dX11_pagesIf_5 rfl (lv_at hl 0 rfl) ?_
  refine lv_iload_n hx hb dX11_pagesIf_6 rfl (lv_at hl 2 rfl) ?_
  obtain ⟨r3, qr3, h⟩ := ob h
  refine k_X11_checkLength F hlT qr3 q_1285 ⟨Nat.le_of_ble_eq_true rfl, Nat.le_of_ble_eq_true rfl, Nat.le_of_ble_eq_true rfl, Nat.le_of_ble_eq_true rfl⟩ hW hS hl.1 (Nat.le_of_ble_eq_true rfl) dX11_pagesIf_7 (fun ec he ce q9 H locs hW hS hc1 hc2 hc3 => ?_) (fun v4 he H locs hW hS => ?_)
  · subst he
    cases h
    exact x_out F hnt (Nat.le_of_ble_eq_true rfl) (Nat.le_of_ble_eq_true rfl) hW hS hc1 hc2 hc3
  subst he
  replace h := (Sum.elim_inr _ _ _).symm.trans h
  refine lv_aload_n hx hb dX11_pagesIf_10 rfl (lv_at hl 0 rfl) ?_
  obtain ⟨r5, qr5, h⟩ := ob h
  refine k_X11_startTrial F qr5 q_960 ⟨Nat.le_of_ble_eq_true rfl, Nat.le_of_ble_eq_true rfl, Nat.le_of_ble_eq_true rfl, Nat.le_of_ble_eq_true rfl⟩ hW hS hl.1 (Nat.le_of_ble_eq_true rfl) dX11_pagesIf_11 (fun H locs hW hS => ?_)
  refine lv_aload_n hx hb dX11_pagesIf_14 rfl (lv_at hl 0 rfl) ?_
  refine fl_get11 (v := .ref (b + 85)) kyf_0 F hW 11 (by decide) q_543 rfl rfl dX11_pagesIf_15 ?_
  refine fl_get0 (v := .ref (b + 90)) kyf_85 F hW 5 (by decide) q_178 rfl rfl dX11_pagesIf_18 ?_
  refine lv_iload_n hx hb dX11_pagesIf_21 rfl (lv_at hl 1 rfl) ?_
  refine lv_iload_n hx hb dX11_pagesIf_22 rfl (lv_at hl 2 rfl) ?_
  obtain ⟨r6, qr6, h⟩ := ob h
  refine k_X5_put F ok_90 qr6 q_966 ⟨Nat.le_of_ble_eq_true rfl, Nat.le_of_ble_eq_true rfl, Nat.le_of_ble_eq_true rfl, Nat.le_of_ble_eq_true rfl⟩ hW hS hl.1 (Nat.le_of_ble_eq_true rfl) dX11_pagesIf_23 (fun H locs hW hS => ?_)
  refine lv_aload_n hx hb dX11_pagesIf_26 rfl (lv_at hl 0 rfl) ?_
  refine fl_get11 (v := .ref (b + 98)) kyf_0 F hW 12 (by decide) q_544 rfl rfl dX11_pagesIf_27 ?_
  refine lv_aload_n hx hb dX11_pagesIf_30 rfl (lv_at hl 0 rfl) ?_
  refine fl_get11 (v := .ref (b + 85)) kyf_0 F hW 11 (by decide) q_543 rfl rfl dX11_pagesIf_31 ?_
  obtain ⟨r7, qr7, h⟩ := ob h
  refine k_X1_lay F ok_98 ok_85 qr7 q_967 ⟨Nat.le_of_ble_eq_true rfl, Nat.le_of_ble_eq_true rfl, Nat.le_of_ble_eq_true rfl, Nat.le_of_ble_eq_true rfl⟩ hW hS hl.1 (Nat.le_of_ble_eq_true rfl) dX11_pagesIf_34 (fun H locs hW hS => ?_)
  refine lv_aload_n hx hb dX11_pagesIf_37 rfl (lv_at hl 0 rfl) ?_
  refine fl_get11 (v := .ref (b + 98)) kyf_0 F hW 12 (by decide) q_544 rfl rfl dX11_pagesIf_38 ?_
  refine fl_get1 (v := .ref (b + 112)) kyf_98 F hW 1 (by decide) q_363 rfl rfl dX11_pagesIf_41 ?_
  refine fl_get3 (v := .int (r7.1 112 5)) kyf_112 F hW 5 (by decide) q_284 rfl rfl dX11_pagesIf_44 ?_
  cases h
  exact x_int F hr (Nat.le_of_ble_eq_true rfl) (Nat.le_of_ble_eq_true rfl) hW hS dX11_pagesIf_47
set_option maxHeartbeats 4000000 in
set_option maxRecDepth 100000 in
theorem c_X11_pagesIf {l : Launch} (hlT : l.stackTraces = false) {G : Gt} {b : Nat} {n : Nat} {a1 : Int32} {a2 : Int32} {μ : Mm} {out : ((Nat × Mm) ⊕ (Int32 × Mm))} (h : sh_X11_pagesIf n a1 a2 μ = some out) : vx_Met l yX11_pagesIf (wU (Cond.code yX11_pagesIf cX11_pagesIf 3 (some .int))) ({ frames := 7, cells := 2, slots := 12, locals := 122 } : Room) (PcW G b μ [.ref (b + 0), .int a1, .int a2]) (QN G b (Sum.elim (fun _ => none) (fun (v : (Int32 × Mm)) => some (v.2, (some (.int v.1)))) out)) (XN G b (Sum.elim (fun (q : Nat × Mm) => some q) (fun _ => none) out)) 2 12 (fb b) :=
  xmet_of [.ref (b + 0), .int a1, .int a2] (by decide) (Nat.le_of_ble_eq_true rfl) (fun F hr hnt hW hl => wk_X11_pagesIf F hr hlT hnt h hW va_S.rf hl)
set_option maxHeartbeats 4000000 in
set_option maxRecDepth 100000 in
theorem k_X11_pagesIf {own : String} {nL : Nat} (F : FX G b own cc nL p s m args meth c) (hlT : l.stackTraces = false) {n : Nat} {a1 : Int32} {a2 : Int32} {μ : Mm} {out : ((Nat × Mm) ⊕ (Int32 × Mm))} (h : sh_X11_pagesIf n a1 a2 μ = some out) {index : Nat} (hl : Cond.methodLink own index yX11_pagesIf ∈ TBG) (hR : 7 + 1 ≤ R.frames ∧ 8 + (3 + 11) + 122 ≤ R.locals ∧ cells + 2 ≤ R.cells ∧ slots + 12 ≤ R.slots) (hW : WH G b μ H) (hS : va_S (fb b) s.heap H locs) (hsz : ls.size = nL) (hrest : (rest.map fun v => v.category).sum ≤ 8) (hdg : decode cc pc = .ok (.invokevirtual index, 3))
    (kx : ∀ (q : Nat × Mm), out = .inl q → ∀ (ce : Cell) (q9 : Addr) (H1 : Heap) (locs1 : List Loc), WH G b q.2 H1 → va_S (fb b) s.heap H1 locs1 → H1[q9]? = some ce → ce.vm = .none → s.vm.findClass (exN q.1) = some ce.cls → vx_W p l e R s m args below meth c H1 locs1 (cells + 2) (slots + 12) Q (F0 m pc ls rest) q9)
    (kk : ∀ (v : (Int32 × Mm)), out = .inr v → ∀ (H1 : Heap) (locs1 : List Loc), WH G b v.2 H1 → va_S (fb b) s.heap H1 locs1 → W p l e R s m args below meth c H1 locs1 (cells + 2) (slots + 12) Q (F0 m (pc + 3) ls (.int v.1 :: rest))) : W p l e R s m args below meth c H locs cells slots Q (F0 m pc ls (.int a2 :: .int a1 :: .ref (b + 0) :: rest)) := by
  cases out with
  | inl q => exact fx_callV (As := [.int a1, .int a2]) (ci := 11) (c_X11_pagesIf hlT h) ⟨rfl, rfl⟩ rfl (ky_lt kyf_0 (by decide)) (wF_11 kyf_0) q_1387 q_1388 q_1 q_1389 rfl ⟨by decide +kernel, by decide +kernel, (show (parseMethodDescriptor yX11_pagesIf.desc).map (fun d => d.parameters.length) = some 2 by decide +kernel)⟩ F hl hR hW hS hsz hrest rfl hdg (fun z hz => by obtain rfl := Option.some.inj hz; exact kx _ rfl) (fun z hz => nomatch (show (none : Option (Mm × Option Value)) = some z from hz))
  | inr v => exact fx_callV (As := [.int a1, .int a2]) (ci := 11) (c_X11_pagesIf hlT h) ⟨rfl, rfl⟩ rfl (ky_lt kyf_0 (by decide)) (wF_11 kyf_0) q_1387 q_1388 q_1 q_1389 rfl ⟨by decide +kernel, by decide +kernel, (show (parseMethodDescriptor yX11_pagesIf.desc).map (fun d => d.parameters.length) = some 2 by decide +kernel)⟩ F hl hR hW hS hsz hrest rfl hdg (fun z hz => nomatch (show (none : Option (Nat × Mm)) = some z from hz)) (fun z hz => by obtain rfl := Option.some.inj hz; exact kk _ rfl)
set_option maxHeartbeats 4000000 in
set_option maxRecDepth 100000 in
theorem wk_X11_leastWidth_11 {n : Nat} {a1 : Int32} {μ : Mm} {out : ((Nat × Mm) ⊕ (Int32 × Mm))} (F : FX G b RX11 cX11_leastWidth 3 p s m args meth c) (hr : meth.sig.returnType = some .int) (hlT : l.stackTraces = false) (hnt : ∀ x ∈ c.exceptionTable.toList, False) (h : sh_X11_leastWidth_11 n a1 μ = some out) (hW : WH G b μ H) (hS : va_S (fb b) s.heap H locs) (hl : lv_has ls 3 []) : W p l e ({ frames := 6, cells := 1, slots := 6, locals := 122 } : Room) s m args below meth c H locs 0 0 (vx_MQ below (QN G b (Sum.elim (fun _ => none) (fun (v : (Int32 × Mm)) => some (v.2, (some (.int v.1)))) out)) (XN G b (Sum.elim (fun (q : Nat × Mm) => some q) (fun _ => none) out)) args s 1 6 (fb b)) (F0 m 11 ls []) := by
  have hx := F.1
  have hb := F.2.1
  unfold sh_X11_leastWidth_11 at h
  cases h
  exact x_throwW (ec := 1) F hlT hnt q_1064 q_19 (is := 409) (text := "no such number of pages") (t := 34) (by decide +kernel) (by decide +kernel) (hat_1 F.2.2.2.2.1 F.2.2.2.2.2.2.1) hgd_1 hl.1 dX11_leastWidth_11 dX11_leastWidth_14 dX11_leastWidth_15 dX11_leastWidth_18 dX11_leastWidth_21 ⟨Nat.le_of_ble_eq_true rfl, Nat.le_of_ble_eq_true rfl, Nat.le_of_ble_eq_true rfl, Nat.le_of_ble_eq_true rfl⟩ (Nat.le_of_ble_eq_true rfl) (Nat.le_of_ble_eq_true rfl) hW hS
set_option maxHeartbeats 4000000 in
set_option maxRecDepth 100000 in
theorem wk_X11_leastWidth_29 {n : Nat} {a1 : Int32} {out : ((Nat × Mm) ⊕ (Int32 × Mm))} (F : FX G b RX11 cX11_leastWidth 3 p s m args meth c) (hr : meth.sig.returnType = some .int) (hlT : l.stackTraces = false) (hnt : ∀ x ∈ c.exceptionTable.toList, False) : ∀ (f : Nat) (x2 : Int32) (μ : Mm) (H : Heap) (locs : List Loc) (ls : Array Slot), sh_X11_leastWidth_29 n a1 f x2 μ = some out → WH G b μ H → va_S (fb b) s.heap H locs → lv_has ls 3 [(0, .ref (b + 0)), (1, .int a1), (2, .int x2)] → W p l e ({ frames := 6, cells := 1, slots := 6, locals := 122 } : Room) s m args below meth c H locs 0 0 (vx_MQ below (QN G b (Sum.elim (fun _ => none) (fun (v : (Int32 × Mm)) => some (v.2, (some (.int v.1)))) out)) (XN G b (Sum.elim (fun (q : Nat × Mm) => some q) (fun _ => none) out)) args s 1 6 (fb b)) (F0 m 29 ls []) := by
  have hx := F.1
  have hb := F.2.1
  intro f
  induction f with
  | zero =>
    intro _ _ _ _ _ h
    rw [sh_X11_leastWidth_29] at h
    cases h
  | succ f ih =>
    intro x2 μ H locs ls h hW hS hl
    rw [sh_X11_leastWidth_29] at h
    have hk29 := ih
    refine lv_iload_n hx hb dX11_leastWidth_29 rfl (lv_at hl 2 rfl) ?_
    refine lv_bipush (v := (120 : Int32)) hx hb dX11_leastWidth_30 (by decide) ?_
    refine lv_icmp_gt (tgt := 77) hx hb dX11_leastWidth_32 (by decide) (fun cc => ?_) (fun cc => ?_)
    · replace h := (if_pos cc).symm.trans h
      refine lv_iconst (v := (-1 : Int32)) hx hb dX11_leastWidth_77 (by decide) ?_
      cases h
      exact x_int F hr (Nat.le_of_ble_eq_true rfl) (Nat.le_of_ble_eq_true rfl) hW hS dX11_leastWidth_78
    · replace h := (if_neg cc).symm.trans h
      refine lv_aload_n hx hb dX11_leastWidth_35 rfl (lv_at hl 0 rfl) ?_
      refine fl_get11 (v := .ref (b + 85)) kyf_0 F hW 11 (by decide) q_543 rfl rfl dX11_leastWidth_36 ?_
      refine fl_get0 (v := .ref (b + 86)) kyf_85 F hW 0 (by decide) q_152 rfl rfl dX11_leastWidth_39 ?_
      refine lv_iconst (v := (0 : Int32)) hx hb dX11_leastWidth_42 (by decide) ?_
      refine lv_iload_n hx hb dX11_leastWidth_43 rfl (lv_at hl 2 rfl) ?_
      obtain ⟨r2, qr2, h⟩ := ob h
      refine k_X5_put F ok_86 qr2 q_966 ⟨Nat.le_of_ble_eq_true rfl, Nat.le_of_ble_eq_true rfl, Nat.le_of_ble_eq_true rfl, Nat.le_of_ble_eq_true rfl⟩ hW hS hl.1 (Nat.le_of_ble_eq_true rfl) dX11_leastWidth_44 (fun H locs hW hS => ?_)
      refine lv_aload_n hx hb dX11_leastWidth_47 rfl (lv_at hl 0 rfl) ?_
      refine fl_get11 (v := .ref (b + 98)) kyf_0 F hW 12 (by decide) q_544 rfl rfl dX11_leastWidth_48 ?_
      refine lv_aload_n hx hb dX11_leastWidth_51 rfl (lv_at hl 0 rfl) ?_
      refine fl_get11 (v := .ref (b + 85)) kyf_0 F hW 11 (by decide) q_543 rfl rfl dX11_leastWidth_52 ?_
      obtain ⟨r3, qr3, h⟩ := ob h
      refine k_X1_lay F ok_98 ok_85 qr3 q_967 ⟨Nat.le_of_ble_eq_true rfl, Nat.le_of_ble_eq_true rfl, Nat.le_of_ble_eq_true rfl, Nat.le_of_ble_eq_true rfl⟩ hW hS hl.1 (Nat.le_of_ble_eq_true rfl) dX11_leastWidth_55 (fun H locs hW hS => ?_)
      refine lv_aload_n hx hb dX11_leastWidth_58 rfl (lv_at hl 0 rfl) ?_
      refine fl_get11 (v := .ref (b + 98)) kyf_0 F hW 12 (by decide) q_544 rfl rfl dX11_leastWidth_59 ?_
      refine fl_get1 (v := .int (r3.1 98 3)) kyf_98 F hW 3 (by decide) q_367 rfl rfl dX11_leastWidth_62 ?_
      refine lv_iload_n hx hb dX11_leastWidth_65 rfl (lv_at hl 1 rfl) ?_
      refine lv_icmp_gt (tgt := 71) hx hb dX11_leastWidth_66 (by decide) (fun cc => ?_) (fun cc => ?_)
      · replace h := (if_pos cc).symm.trans h
        refine lv_iinc (v := (x2 + (1 : Int32))) (lv' := [(2, .int (x2 + (1 : Int32))), (0, .ref (b + 0)), (1, .int a1)]) hx hb dX11_leastWidth_71 hl (k := 2) rfl rfl (by decide) rfl (fun ls hl => ?_)
        refine lv_goto (tgt := 29) hx hb dX11_leastWidth_74 (by decide) ?_
        exact hk29 _ _ _ _ _ h hW hS (lv_sub hl [1, 2, 0] rfl)
      · replace h := (if_neg cc).symm.trans h
        refine lv_iload_n hx hb dX11_leastWidth_69 rfl (lv_at hl 2 rfl) ?_
        cases h
        exact x_int F hr (Nat.le_of_ble_eq_true rfl) (Nat.le_of_ble_eq_true rfl) hW hS dX11_leastWidth_70
set_option maxHeartbeats 4000000 in
set_option maxRecDepth 100000 in
theorem wk_X11_leastWidth {n : Nat} {a1 : Int32} {μ : Mm} {out : ((Nat × Mm) ⊕ (Int32 × Mm))} (F : FX G b RX11 cX11_leastWidth 3 p s m args meth c) (hr : meth.sig.returnType = some .int) (hlT : l.stackTraces = false) (hnt : ∀ x ∈ c.exceptionTable.toList, False) (h : sh_X11_leastWidth n a1 μ = some out) (hW : WH G b μ H) (hS : va_S (fb b) s.heap H locs) (hl : lv_has ls 3 [(0, .ref (b + 0)), (1, .int a1)]) : W p l e ({ frames := 6, cells := 1, slots := 6, locals := 122 } : Room) s m args below meth c H locs 0 0 (vx_MQ below (QN G b (Sum.elim (fun _ => none) (fun (v : (Int32 × Mm)) => some (v.2, (some (.int v.1)))) out)) (XN G b (Sum.elim (fun (q : Nat × Mm) => some q) (fun _ => none) out)) args s 1 6 (fb b)) (F0 m 0 ls []) := by
  have hx := F.1
  have hb := F.2.1
  unfold sh_X11_leastWidth at h
  refine lv_iload_n hx hb dX11_leastWidth_0 rfl (lv_at hl 1 rfl) ?_
  refine lv_iconst (v := (1 : Int32)) hx hb dX11_leastWidth_1 (by decide) ?_
  refine lv_icmp_lt (tgt := 11) hx hb dX11_leastWidth_2 (by decide) (fun cc => ?_) (fun cc => ?_)
  · replace h := (if_pos cc).symm.trans h
    exact wk_X11_leastWidth_11 F hr hlT hnt h hW hS (lv_sub hl [] rfl)
  · replace h := (if_neg cc).symm.trans h
    refine lv_iload_n hx hb dX11_leastWidth_5 rfl (lv_at hl 1 rfl) ?_
    refine lv_bipush (v := (20 : Int32)) hx hb dX11_leastWidth_6 (by decide) ?_
    refine lv_icmp_le (tgt := 22) hx hb dX11_leastWidth_8 (by decide) (fun cc => ?_) (fun cc => ?_)
    · replace h := (if_pos cc).symm.trans h
      refine lv_aload_n hx hb dX11_leastWidth_22 rfl (lv_at hl 0 rfl) ?_
      obtain ⟨r1, qr1, h⟩ := ob h
      refine k_X11_startTrial F qr1 q_960 ⟨Nat.le_of_ble_eq_true rfl, Nat.le_of_ble_eq_true rfl, Nat.le_of_ble_eq_true rfl, Nat.le_of_ble_eq_true rfl⟩ hW hS hl.1 (Nat.le_of_ble_eq_true rfl) dX11_leastWidth_23 (fun H locs hW hS => ?_)
      refine lv_bipush (v := (20 : Int32)) hx hb dX11_leastWidth_26 (by decide) ?_
      refine lv_istore_n (lv' := [(2, .int (20 : Int32)), (0, .ref (b + 0)), (1, .int a1)]) hx hb dX11_leastWidth_28 rfl hl (by decide) rfl (fun ls hl => ?_)
      exact wk_X11_leastWidth_29 F hr hlT hnt n _ _ _ _ _ h hW hS (lv_sub hl [1, 2, 0] rfl)
    · replace h := (if_neg cc).symm.trans h
      exact wk_X11_leastWidth_11 F hr hlT hnt h hW hS (lv_sub hl [] rfl)
set_option maxHeartbeats 4000000 in
set_option maxRecDepth 100000 in
theorem c_X11_leastWidth {l : Launch} (hlT : l.stackTraces = false) {G : Gt} {b : Nat} {n : Nat} {a1 : Int32} {μ : Mm} {out : ((Nat × Mm) ⊕ (Int32 × Mm))} (h : sh_X11_leastWidth n a1 μ = some out) : vx_Met l yX11_leastWidth (wU (Cond.code yX11_leastWidth cX11_leastWidth 3 (some .int))) ({ frames := 6, cells := 1, slots := 6, locals := 122 } : Room) (PcW G b μ [.ref (b + 0), .int a1]) (QN G b (Sum.elim (fun _ => none) (fun (v : (Int32 × Mm)) => some (v.2, (some (.int v.1)))) out)) (XN G b (Sum.elim (fun (q : Nat × Mm) => some q) (fun _ => none) out)) 1 6 (fb b) :=
  xmet_of [.ref (b + 0), .int a1] (by decide) (Nat.le_of_ble_eq_true rfl) (fun F hr hnt hW hl => wk_X11_leastWidth F hr hlT hnt h hW va_S.rf hl)
set_option maxHeartbeats 4000000 in
set_option maxRecDepth 100000 in
theorem k_X11_leastWidth {own : String} {nL : Nat} (F : FX G b own cc nL p s m args meth c) (hlT : l.stackTraces = false) {n : Nat} {a1 : Int32} {μ : Mm} {out : ((Nat × Mm) ⊕ (Int32 × Mm))} (h : sh_X11_leastWidth n a1 μ = some out) {index : Nat} (hl : Cond.methodLink own index yX11_leastWidth ∈ TBG) (hR : 6 + 1 ≤ R.frames ∧ 8 + (3 + 11) + 122 ≤ R.locals ∧ cells + 1 ≤ R.cells ∧ slots + 6 ≤ R.slots) (hW : WH G b μ H) (hS : va_S (fb b) s.heap H locs) (hsz : ls.size = nL) (hrest : (rest.map fun v => v.category).sum ≤ 8) (hdg : decode cc pc = .ok (.invokevirtual index, 3))
    (kx : ∀ (q : Nat × Mm), out = .inl q → ∀ (ce : Cell) (q9 : Addr) (H1 : Heap) (locs1 : List Loc), WH G b q.2 H1 → va_S (fb b) s.heap H1 locs1 → H1[q9]? = some ce → ce.vm = .none → s.vm.findClass (exN q.1) = some ce.cls → vx_W p l e R s m args below meth c H1 locs1 (cells + 1) (slots + 6) Q (F0 m pc ls rest) q9)
    (kk : ∀ (v : (Int32 × Mm)), out = .inr v → ∀ (H1 : Heap) (locs1 : List Loc), WH G b v.2 H1 → va_S (fb b) s.heap H1 locs1 → W p l e R s m args below meth c H1 locs1 (cells + 1) (slots + 6) Q (F0 m (pc + 3) ls (.int v.1 :: rest))) : W p l e R s m args below meth c H locs cells slots Q (F0 m pc ls (.int a1 :: .ref (b + 0) :: rest)) := by
  cases out with
  | inl q => exact fx_callV (As := [.int a1]) (ci := 11) (c_X11_leastWidth hlT h) ⟨rfl, rfl⟩ rfl (ky_lt kyf_0 (by decide)) (wF_11 kyf_0) q_1394 q_1395 q_1 q_1396 rfl ⟨by decide +kernel, by decide +kernel, (show (parseMethodDescriptor yX11_leastWidth.desc).map (fun d => d.parameters.length) = some 1 by decide +kernel)⟩ F hl hR hW hS hsz hrest rfl hdg (fun z hz => by obtain rfl := Option.some.inj hz; exact kx _ rfl) (fun z hz => nomatch (show (none : Option (Mm × Option Value)) = some z from hz))
  | inr v => exact fx_callV (As := [.int a1]) (ci := 11) (c_X11_leastWidth hlT h) ⟨rfl, rfl⟩ rfl (ky_lt kyf_0 (by decide)) (wF_11 kyf_0) q_1394 q_1395 q_1 q_1396 rfl ⟨by decide +kernel, by decide +kernel, (show (parseMethodDescriptor yX11_leastWidth.desc).map (fun d => d.parameters.length) = some 1 by decide +kernel)⟩ F hl hR hW hS hsz hrest rfl hdg (fun z hz => nomatch (show (none : Option (Nat × Mm)) = some z from hz)) (fun z hz => by obtain rfl := Option.some.inj hz; exact kk _ rfl)
set_option maxHeartbeats 4000000 in
set_option maxRecDepth 100000 in
theorem wk_X11_bestWidth_92 {n : Nat} {k19 : (Int32 → Int32 → Int32 → Int32 → Mm → Option (Int32 × Mm))} {x4 : Int32} {x5 : Int32} {x6 : Int32} {μ : Mm} {out : (Int32 × Mm)} (F : FX G b RX11 cX11_bestWidth 7 p s m args meth c) (hr : meth.sig.returnType = some .int) (hk19 : ∀ (x1 : Int32) (x2 : Int32) (x3 : Int32) (x4 : Int32) (μ : Mm) (H : Heap) (locs : List Loc) (ls : Array Slot), k19 x1 x2 x3 x4 μ = some out → WH G b μ H → va_S (fb b) s.heap H locs → lv_has ls 7 [(0, .ref (b + 0)), (1, .int x1), (2, .int x2), (3, .int x3), (4, .int x4)] → W p l e ({ frames := 5, cells := 0, slots := 0, locals := 122 } : Room) s m args below meth c H locs 0 0 (MQ below (QW G b out.2 (some (.int out.1))) args s 0 0 (fb b)) (F0 m 19 ls [])) (h : sh_X11_bestWidth_92 n k19 x4 x5 x6 μ = some out) (hW : WH G b μ H) (hS : va_S (fb b) s.heap H locs) (hl : lv_has ls 7 [(0, .ref (b + 0)), (4, .int x4), (5, .int x5), (6, .int x6)]) : W p l e ({ frames := 5, cells := 0, slots := 0, locals := 122 } : Room) s m args below meth c H locs 0 0 (MQ below (QW G b out.2 (some (.int out.1))) args s 0 0 (fb b)) (F0 m 92 ls []) := by
  have hx := F.1
  have hb := F.2.1
  unfold sh_X11_bestWidth_92 at h
  refine lv_iload hx hb dX11_bestWidth_92 (lv_at hl 1 rfl) ?_
  refine lv_istore_n (lv' := [(1, .int x4), (0, .ref (b + 0)), (4, .int x4), (5, .int x5), (6, .int x6)]) hx hb dX11_bestWidth_94 rfl hl (by decide) rfl (fun ls hl => ?_)
  refine lv_iload hx hb dX11_bestWidth_95 (lv_at hl 3 rfl) ?_
  refine lv_istore_n (lv' := [(2, .int x5), (1, .int x4), (0, .ref (b + 0)), (4, .int x4), (5, .int x5), (6, .int x6)]) hx hb dX11_bestWidth_97 rfl hl (by decide) rfl (fun ls hl => ?_)
  refine lv_iload hx hb dX11_bestWidth_98 (lv_at hl 5 rfl) ?_
  refine lv_istore_n (lv' := [(3, .int x6), (2, .int x5), (1, .int x4), (0, .ref (b + 0)), (4, .int x4), (5, .int x5), (6, .int x6)]) hx hb dX11_bestWidth_100 rfl hl (by decide) rfl (fun ls hl => ?_)
  refine lv_iinc (v := (x4 + (1 : Int32))) (lv' := [(4, .int (x4 + (1 : Int32))), (3, .int x6), (2, .int x5), (1, .int x4), (0, .ref (b + 0)), (5, .int x5), (6, .int x6)]) hx hb dX11_bestWidth_101 hl (k := 4) rfl rfl (by decide) rfl (fun ls hl => ?_)
  refine lv_goto (tgt := 19) hx hb dX11_bestWidth_104 (by decide) ?_
  exact hk19 _ _ _ _ _ _ _ _ h hW hS (lv_sub hl [4, 3, 2, 1, 0] rfl)
set_option maxHeartbeats 4000000 in
set_option maxRecDepth 100000 in
theorem wk_X11_bestWidth_19 {n : Nat} {out : (Int32 × Mm)} (F : FX G b RX11 cX11_bestWidth 7 p s m args meth c) (hr : meth.sig.returnType = some .int) : ∀ (f : Nat) (x1 : Int32) (x2 : Int32) (x3 : Int32) (x4 : Int32) (μ : Mm) (H : Heap) (locs : List Loc) (ls : Array Slot), sh_X11_bestWidth_19 n f x1 x2 x3 x4 μ = some out → WH G b μ H → va_S (fb b) s.heap H locs → lv_has ls 7 [(0, .ref (b + 0)), (1, .int x1), (2, .int x2), (3, .int x3), (4, .int x4)] → W p l e ({ frames := 5, cells := 0, slots := 0, locals := 122 } : Room) s m args below meth c H locs 0 0 (MQ below (QW G b out.2 (some (.int out.1))) args s 0 0 (fb b)) (F0 m 19 ls []) := by
  have hx := F.1
  have hb := F.2.1
  intro f
  induction f with
  | zero =>
    intro _ _ _ _ _ _ _ _ h
    rw [sh_X11_bestWidth_19] at h
    cases h
  | succ f ih =>
    intro x1 x2 x3 x4 μ H locs ls h hW hS hl
    rw [sh_X11_bestWidth_19] at h
    have hk19 := ih
    refine lv_iload hx hb dX11_bestWidth_19 (lv_at hl 4 rfl) ?_
    refine lv_bipush (v := (120 : Int32)) hx hb dX11_bestWidth_21 (by decide) ?_
    refine lv_icmp_gt (tgt := 107) hx hb dX11_bestWidth_23 (by decide) (fun cc => ?_) (fun cc => ?_)
    · replace h := (if_pos cc).symm.trans h
      refine lv_iload_n hx hb dX11_bestWidth_107 rfl (lv_at hl 1 rfl) ?_
      cases h
      exact r_int F hr hW hS dX11_bestWidth_108
    · replace h := (if_neg cc).symm.trans h
      refine lv_aload_n hx hb dX11_bestWidth_26 rfl (lv_at hl 0 rfl) ?_
      refine fl_get11 (v := .ref (b + 85)) kyf_0 F hW 11 (by decide) q_543 rfl rfl dX11_bestWidth_27 ?_
      refine fl_get0 (v := .ref (b + 86)) kyf_85 F hW 0 (by decide) q_152 rfl rfl dX11_bestWidth_30 ?_
      refine lv_iconst (v := (0 : Int32)) hx hb dX11_bestWidth_33 (by decide) ?_
      refine lv_iload hx hb dX11_bestWidth_34 (lv_at hl 4 rfl) ?_
      obtain ⟨r2, qr2, h⟩ := ob h
      refine k_X5_put F ok_86 qr2 q_966 ⟨Nat.le_of_ble_eq_true rfl, Nat.le_of_ble_eq_true rfl, Nat.le_of_ble_eq_true rfl, Nat.le_of_ble_eq_true rfl⟩ hW hS hl.1 (Nat.le_of_ble_eq_true rfl) dX11_bestWidth_36 (fun H locs hW hS => ?_)
      refine lv_aload_n hx hb dX11_bestWidth_39 rfl (lv_at hl 0 rfl) ?_
      refine fl_get11 (v := .ref (b + 98)) kyf_0 F hW 12 (by decide) q_544 rfl rfl dX11_bestWidth_40 ?_
      refine lv_aload_n hx hb dX11_bestWidth_43 rfl (lv_at hl 0 rfl) ?_
      refine fl_get11 (v := .ref (b + 85)) kyf_0 F hW 11 (by decide) q_543 rfl rfl dX11_bestWidth_44 ?_
      obtain ⟨r3, qr3, h⟩ := ob h
      refine k_X1_lay F ok_98 ok_85 qr3 q_967 ⟨Nat.le_of_ble_eq_true rfl, Nat.le_of_ble_eq_true rfl, Nat.le_of_ble_eq_true rfl, Nat.le_of_ble_eq_true rfl⟩ hW hS hl.1 (Nat.le_of_ble_eq_true rfl) dX11_bestWidth_47 (fun H locs hW hS => ?_)
      refine lv_aload_n hx hb dX11_bestWidth_50 rfl (lv_at hl 0 rfl) ?_
      refine fl_get11 (v := .ref (b + 98)) kyf_0 F hW 12 (by decide) q_544 rfl rfl dX11_bestWidth_51 ?_
      refine fl_get1 (v := .ref (b + 121)) kyf_98 F hW 2 (by decide) q_365 rfl rfl dX11_bestWidth_54 ?_
      obtain ⟨r4, qr4, h⟩ := ob h
      refine k_X7_linesBeyondLimit F ok_121 qr4 q_805 ⟨Nat.le_of_ble_eq_true rfl, Nat.le_of_ble_eq_true rfl, Nat.le_of_ble_eq_true rfl, Nat.le_of_ble_eq_true rfl⟩ hW hS hl.1 (Nat.le_of_ble_eq_true rfl) dX11_bestWidth_57 (fun H locs hW hS => ?_)
      refine lv_istore (lv' := [(5, .int r4), (0, .ref (b + 0)), (1, .int x1), (2, .int x2), (3, .int x3), (4, .int x4)]) hx hb dX11_bestWidth_60 hl (by decide) rfl (fun ls hl => ?_)
      refine lv_aload_n hx hb dX11_bestWidth_62 rfl (lv_at hl 1 rfl) ?_
      refine fl_get11 (v := .ref (b + 98)) kyf_0 F hW 12 (by decide) q_544 rfl rfl dX11_bestWidth_63 ?_
      refine fl_get1 (v := .ref (b + 121)) kyf_98 F hW 2 (by decide) q_365 rfl rfl dX11_bestWidth_66 ?_
      refine fl_get7 (v := .int (r3.1 121 2)) kyf_121 F hW 2 (by decide) q_312 rfl rfl dX11_bestWidth_69 ?_
      obtain ⟨v5, ev5⟩ : ∃ y, y = (r3.1 121 2) := ⟨_, rfl⟩
      have h := nm_at ev5 h
      rw [← ev5]
      refine lv_istore (lv' := [(6, .int v5), (5, .int r4), (0, .ref (b + 0)), (1, .int x1), (2, .int x2), (3, .int x3), (4, .int x4)]) hx hb dX11_bestWidth_72 hl (by decide) rfl (fun ls hl => ?_)
      refine lv_iload hx hb dX11_bestWidth_74 (lv_at hl 1 rfl) ?_
      refine lv_iload_n hx hb dX11_bestWidth_76 rfl (lv_at hl 4 rfl) ?_
      refine lv_icmp_lt (tgt := 92) hx hb dX11_bestWidth_77 (by decide) (fun cc => ?_) (fun cc => ?_)
      · replace h := (if_pos cc).symm.trans h
        exact wk_X11_bestWidth_92 F hr hk19 h hW hS (lv_sub hl [2, 6, 1, 0] rfl)
      · replace h := (if_neg cc).symm.trans h
        refine lv_iload hx hb dX11_bestWidth_80 (lv_at hl 1 rfl) ?_
        refine lv_iload_n hx hb dX11_bestWidth_82 rfl (lv_at hl 4 rfl) ?_
        refine lv_icmp_ne (tgt := 101) hx hb dX11_bestWidth_83 (by decide) (fun cc => ?_) (fun cc => ?_)
        · replace h := (if_neg cc).symm.trans h
          refine lv_iinc (v := (x4 + (1 : Int32))) (lv' := [(4, .int (x4 + (1 : Int32))), (6, .int v5), (5, .int r4), (0, .ref (b + 0)), (1, .int x1), (2, .int x2), (3, .int x3)]) hx hb dX11_bestWidth_101 hl (k := 6) rfl rfl (by decide) rfl (fun ls hl => ?_)
          refine lv_goto (tgt := 19) hx hb dX11_bestWidth_104 (by decide) ?_
          exact hk19 _ _ _ _ _ _ _ _ h hW hS (lv_sub hl [3, 4, 5, 6, 0] rfl)
        · replace h := (if_pos cc).symm.trans h
          refine lv_iload hx hb dX11_bestWidth_86 (lv_at hl 0 rfl) ?_
          refine lv_iload_n hx hb dX11_bestWidth_88 rfl (lv_at hl 5 rfl) ?_
          refine lv_icmp_ge (tgt := 101) hx hb dX11_bestWidth_89 (by decide) (fun cc => ?_) (fun cc => ?_)
          · replace h := (if_pos cc).symm.trans h
            refine lv_iinc (v := (x4 + (1 : Int32))) (lv' := [(4, .int (x4 + (1 : Int32))), (6, .int v5), (5, .int r4), (0, .ref (b + 0)), (1, .int x1), (2, .int x2), (3, .int x3)]) hx hb dX11_bestWidth_101 hl (k := 6) rfl rfl (by decide) rfl (fun ls hl => ?_)
            refine lv_goto (tgt := 19) hx hb dX11_bestWidth_104 (by decide) ?_
            exact hk19 _ _ _ _ _ _ _ _ h hW hS (lv_sub hl [3, 4, 5, 6, 0] rfl)
          · replace h := (if_neg cc).symm.trans h
            exact wk_X11_bestWidth_92 F hr hk19 h hW hS (lv_sub hl [2, 6, 1, 0] rfl)
set_option maxHeartbeats 4000000 in
set_option maxRecDepth 100000 in
theorem wk_X11_bestWidth {n : Nat} {μ : Mm} {out : (Int32 × Mm)} (F : FX G b RX11 cX11_bestWidth 7 p s m args meth c) (hr : meth.sig.returnType = some .int) (h : sh_X11_bestWidth n  μ = some out) (hW : WH G b μ H) (hS : va_S (fb b) s.heap H locs) (hl : lv_has ls 7 [(0, .ref (b + 0))]) : W p l e ({ frames := 5, cells := 0, slots := 0, locals := 122 } : Room) s m args below meth c H locs 0 0 (MQ below (QW G b out.2 (some (.int out.1))) args s 0 0 (fb b)) (F0 m 0 ls []) := by
  have hx := F.1
  have hb := F.2.1
  unfold sh_X11_bestWidth at h
  refine lv_aload_n hx hb dX11_bestWidth_0 rfl (lv_at hl 0 rfl) ?_
  obtain ⟨r1, qr1, h⟩ := ob h
  refine k_X11_startTrial F qr1 q_960 ⟨Nat.le_of_ble_eq_true rfl, Nat.le_of_ble_eq_true rfl, Nat.le_of_ble_eq_true rfl, Nat.le_of_ble_eq_true rfl⟩ hW hS hl.1 (Nat.le_of_ble_eq_true rfl) dX11_bestWidth_1 (fun H locs hW hS => ?_)
  refine lv_bipush (v := (20 : Int32)) hx hb dX11_bestWidth_4 (by decide) ?_
  refine lv_istore_n (lv' := [(1, .int (20 : Int32)), (0, .ref (b + 0))]) hx hb dX11_bestWidth_6 rfl hl (by decide) rfl (fun ls hl => ?_)
  refine lv_sipush (v := (193 : Int32)) hx hb dX11_bestWidth_7 (by decide) ?_
  refine lv_istore_n (lv' := [(2, .int (193 : Int32)), (1, .int (20 : Int32)), (0, .ref (b + 0))]) hx hb dX11_bestWidth_10 rfl hl (by decide) rfl (fun ls hl => ?_)
  refine lv_sipush (v := (193 : Int32)) hx hb dX11_bestWidth_11 (by decide) ?_
  refine lv_istore_n (lv' := [(3, .int (193 : Int32)), (2, .int (193 : Int32)), (1, .int (20 : Int32)), (0, .ref (b + 0))]) hx hb dX11_bestWidth_14 rfl hl (by decide) rfl (fun ls hl => ?_)
  refine lv_bipush (v := (20 : Int32)) hx hb dX11_bestWidth_15 (by decide) ?_
  refine lv_istore (lv' := [(4, .int (20 : Int32)), (3, .int (193 : Int32)), (2, .int (193 : Int32)), (1, .int (20 : Int32)), (0, .ref (b + 0))]) hx hb dX11_bestWidth_17 hl (by decide) rfl (fun ls hl => ?_)
  exact wk_X11_bestWidth_19 F hr n _ _ _ _ _ _ _ _ h hW hS (lv_sub hl [4, 3, 2, 1, 0] rfl)
set_option maxHeartbeats 4000000 in
set_option maxRecDepth 100000 in
theorem c_X11_bestWidth {l : Launch} {G : Gt} {b : Nat} {n : Nat} {μ : Mm} {out : (Int32 × Mm)} (h : sh_X11_bestWidth n  μ = some out) : Met l yX11_bestWidth (wU (Cond.code yX11_bestWidth cX11_bestWidth 7 (some .int))) ({ frames := 5, cells := 0, slots := 0, locals := 122 } : Room) (PcW G b μ [.ref (b + 0)]) (QW G b out.2 (some (.int out.1))) 0 0 (fb b) :=
  met_of [.ref (b + 0)] (by decide) (Nat.le_of_ble_eq_true rfl) (fun F hr hW hl => wk_X11_bestWidth F hr h hW va_S.rf hl)
set_option maxHeartbeats 4000000 in
set_option maxRecDepth 100000 in
theorem k_X11_bestWidth {own : String} {nL : Nat} (F : FX G b own cc nL p s m args meth c) {n : Nat} {μ : Mm} {out : (Int32 × Mm)} (h : sh_X11_bestWidth n  μ = some out) {index : Nat} (hl : Cond.methodLink own index yX11_bestWidth ∈ TBG) (hR : 5 + 1 ≤ R.frames ∧ 8 + (7 + 11) + 122 ≤ R.locals ∧ cells ≤ R.cells ∧ slots ≤ R.slots) (hW : WH G b μ H) (hS : va_S (fb b) s.heap H locs) (hsz : ls.size = nL) (hrest : (rest.map fun v => v.category).sum ≤ 8) (hdg : decode cc pc = .ok (.invokevirtual index, 3))
    (kk : ∀ (H1 : Heap) (locs1 : List Loc), WH G b out.2 H1 → va_S (fb b) s.heap H1 locs1 → W p l e R s m args below meth c H1 locs1 cells slots Q (F0 m (pc + 3) ls (.int out.1 :: rest))) : W p l e R s m args below meth c H locs cells slots Q (F0 m pc ls (.ref (b + 0) :: rest)) :=
  f_callV (As := []) (ci := 11) (c_X11_bestWidth h) ⟨rfl, rfl⟩ rfl (ky_lt kyf_0 (by decide)) (wF_11 kyf_0) q_957 q_958 q_1 q_959 rfl ⟨by decide +kernel, by decide +kernel, (show (parseMethodDescriptor yX11_bestWidth.desc).map (fun d => d.parameters.length) = some 0 by decide +kernel)⟩ F hl hR hW hS hsz hrest rfl hdg kk
set_option maxHeartbeats 4000000 in
set_option maxRecDepth 100000 in
theorem wk_X11_checkPlace {a1 : Int32} {μ : Mm} {out : (Nat ⊕ Unit)} (F : FX G b RX11 cX11_checkPlace 2 p s m args meth c) (hr : meth.sig.returnType = none) (hlT : l.stackTraces = false) (hnt : ∀ x ∈ c.exceptionTable.toList, False) (h : sh_X11_checkPlace a1 μ = some out) (hW : WH G b μ H) (hS : va_S (fb b) s.heap H locs) (hl : lv_has ls 2 [(0, .ref (b + 0)), (1, .int a1)]) : W p l e ({ frames := 6, cells := 1, slots := 6, locals := 90 } : Room) s m args below meth c H locs 0 0 (vx_MQ below (QN G b (Sum.elim (fun _ => none) (fun (v : Unit) => some (μ, none)) out)) (XN G b (Sum.elim (fun (q : Nat) => some (q, μ)) (fun _ => none) out)) args s 1 6 (fb b)) (F0 m 0 ls []) := by
  have hx := F.1
  have hb := F.2.1
  unfold sh_X11_checkPlace at h
  refine lv_iload_n hx hb dX11_checkPlace_0 rfl (lv_at hl 1 rfl) ?_
  refine lv_if_ge (tgt := 15) hx hb dX11_checkPlace_1 (by decide) (fun cc => ?_) (fun cc => ?_)
  · replace h := (if_pos cc).symm.trans h
    cases h
    exact x_void F hr (Nat.le_of_ble_eq_true rfl) (Nat.le_of_ble_eq_true rfl) hW hS dX11_checkPlace_15
  · replace h := (if_neg cc).symm.trans h
    cases h
    exact x_throwW (ec := 1) F hlT hnt q_1064 q_19 (is := 456) (text := "no such place") (t := 35) (by decide +kernel) (by decide +kernel) (hat_1 F.2.2.2.2.1 F.2.2.2.2.2.2.1) hgd_1 hl.1 dX11_checkPlace_4 dX11_checkPlace_7 dX11_checkPlace_8 dX11_checkPlace_11 dX11_checkPlace_14 ⟨Nat.le_of_ble_eq_true rfl, Nat.le_of_ble_eq_true rfl, Nat.le_of_ble_eq_true rfl, Nat.le_of_ble_eq_true rfl⟩ (Nat.le_of_ble_eq_true rfl) (Nat.le_of_ble_eq_true rfl) hW hS
set_option maxHeartbeats 4000000 in
set_option maxRecDepth 100000 in
theorem c_X11_checkPlace {l : Launch} (hlT : l.stackTraces = false) {G : Gt} {b : Nat} {a1 : Int32} {μ : Mm} {out : (Nat ⊕ Unit)} (h : sh_X11_checkPlace a1 μ = some out) : vx_Met l yX11_checkPlace (wU (Cond.code yX11_checkPlace cX11_checkPlace 2 none)) ({ frames := 6, cells := 1, slots := 6, locals := 90 } : Room) (PcW G b μ [.ref (b + 0), .int a1]) (QN G b (Sum.elim (fun _ => none) (fun (v : Unit) => some (μ, none)) out)) (XN G b (Sum.elim (fun (q : Nat) => some (q, μ)) (fun _ => none) out)) 1 6 (fb b) :=
  xmet_of [.ref (b + 0), .int a1] (by decide) (Nat.le_of_ble_eq_true rfl) (fun F hr hnt hW hl => wk_X11_checkPlace F hr hlT hnt h hW va_S.rf hl)
set_option maxHeartbeats 4000000 in
set_option maxRecDepth 100000 in
theorem k_X11_checkPlace {own : String} {nL : Nat} (F : FX G b own cc nL p s m args meth c) (hlT : l.stackTraces = false) {a1 : Int32} {μ : Mm} {out : (Nat ⊕ Unit)} (h : sh_X11_checkPlace a1 μ = some out) {index : Nat} (hl : Cond.methodLink own index yX11_checkPlace ∈ TBG) (hR : 6 + 1 ≤ R.frames ∧ 8 + (2 + 11) + 90 ≤ R.locals ∧ cells + 1 ≤ R.cells ∧ slots + 6 ≤ R.slots) (hW : WH G b μ H) (hS : va_S (fb b) s.heap H locs) (hsz : ls.size = nL) (hrest : (rest.map fun v => v.category).sum ≤ 8) (hdg : decode cc pc = .ok (.invokevirtual index, 3))
    (kx : ∀ (q : Nat), out = .inl q → ∀ (ce : Cell) (q9 : Addr) (H1 : Heap) (locs1 : List Loc), WH G b μ H1 → va_S (fb b) s.heap H1 locs1 → H1[q9]? = some ce → ce.vm = .none → s.vm.findClass (exN q) = some ce.cls → vx_W p l e R s m args below meth c H1 locs1 (cells + 1) (slots + 6) Q (F0 m pc ls rest) q9)
    (kk : ∀ (v : Unit), out = .inr v → ∀ (H1 : Heap) (locs1 : List Loc), WH G b μ H1 → va_S (fb b) s.heap H1 locs1 → W p l e R s m args below meth c H1 locs1 (cells + 1) (slots + 6) Q (F0 m (pc + 3) ls (rest))) : W p l e R s m args below meth c H locs cells slots Q (F0 m pc ls (.int a1 :: .ref (b + 0) :: rest)) := by
  cases out with
  | inl q => exact fx_callV (As := [.int a1]) (ci := 11) (c_X11_checkPlace hlT h) ⟨rfl, rfl⟩ rfl (ky_lt kyf_0 (by decide)) (wF_11 kyf_0) q_1407 qp_39 q_1 q_1408 rfl ⟨by decide +kernel, by decide +kernel, (show (parseMethodDescriptor yX11_checkPlace.desc).map (fun d => d.parameters.length) = some 1 by decide +kernel)⟩ F hl hR hW hS hsz hrest rfl hdg (fun z hz => by obtain rfl := Option.some.inj hz; exact kx _ rfl) (fun z hz => nomatch (show (none : Option (Mm × Option Value)) = some z from hz))
  | inr v => exact fx_callV (As := [.int a1]) (ci := 11) (c_X11_checkPlace hlT h) ⟨rfl, rfl⟩ rfl (ky_lt kyf_0 (by decide)) (wF_11 kyf_0) q_1407 qp_39 q_1 q_1408 rfl ⟨by decide +kernel, by decide +kernel, (show (parseMethodDescriptor yX11_checkPlace.desc).map (fun d => d.parameters.length) = some 1 by decide +kernel)⟩ F hl hR hW hS hsz hrest rfl hdg (fun z hz => nomatch (show (none : Option (Nat × Mm)) = some z from hz)) (fun z hz => by obtain rfl := Option.some.inj hz; exact kk _ rfl)
set_option maxHeartbeats 4000000 in
set_option maxRecDepth 100000 in
theorem wk_X11_pagesBefore_103 {n : Nat} {a1 : Int32} {μ : Mm} {k27 : (Int32 → Int32 → Int32 → Option Int32)} {x2 : Int32} {x3 : Int32} {x4 : Int32} {x5 : Int32} {s0 : Int32} {out : Int32} (F : FX G b RX11 cX11_pagesBefore 7 p s m args meth c) (hr : meth.sig.returnType = some .int) (hk27 : ∀ (x2 : Int32) (x3 : Int32) (x4 : Int32) (H : Heap) (locs : List Loc) (ls : Array Slot), k27 x2 x3 x4 = some out → WH G b μ H → va_S (fb b) s.heap H locs → lv_has ls 7 [(0, .ref (b + 0)), (1, .int a1), (2, .int x2), (3, .int x3), (4, .int x4)] → W p l e ({ frames := 2, cells := 0, slots := 0, locals := 45 } : Room) s m args below meth c H locs 0 0 (MQ below (QW G b μ (some (.int out))) args s 0 0 (fb b)) (F0 m 27 ls [])) (h : sh_X11_pagesBefore_103 n a1 μ k27 x2 x3 x4 x5 s0 = some out) (hW : WH G b μ H) (hS : va_S (fb b) s.heap H locs) (hl : lv_has ls 7 [(0, .ref (b + 0)), (1, .int a1), (2, .int x2), (3, .int x3), (4, .int x4), (5, .int x5)]) : W p l e ({ frames := 2, cells := 0, slots := 0, locals := 45 } : Room) s m args below meth c H locs 0 0 (MQ below (QW G b μ (some (.int out))) args s 0 0 (fb b)) (F0 m 103 ls [.int s0]) := by
  have hx := F.1
  have hb := F.2.1
  unfold sh_X11_pagesBefore_103 at h
  refine lv_istore (lv' := [(6, .int s0), (0, .ref (b + 0)), (1, .int a1), (2, .int x2), (3, .int x3), (4, .int x4), (5, .int x5)]) hx hb dX11_pagesBefore_103 hl (by decide) rfl (fun ls hl => ?_)
  refine lv_aload_n hx hb dX11_pagesBefore_105 rfl (lv_at hl 1 rfl) ?_
  refine fl_get11 (v := .ref (b + 38)) kyf_0 F hW 9 (by decide) q_541 rfl rfl dX11_pagesBefore_106 ?_
  refine fl_get1 (v := .ref (b + 52)) kyf_38 F hW 1 (by decide) q_363 rfl rfl dX11_pagesBefore_109 ?_
  refine lv_iload hx hb dX11_pagesBefore_112 (lv_at hl 5 rfl) ?_
  obtain ⟨r5, qr5, h⟩ := ob h
  refine k_X3_isFirstOnPage F ok_52 qr5 q_1410 ⟨Nat.le_of_ble_eq_true rfl, Nat.le_of_ble_eq_true rfl, Nat.le_of_ble_eq_true rfl, Nat.le_of_ble_eq_true rfl⟩ hW hS hl.1 (Nat.le_of_ble_eq_true rfl) dX11_pagesBefore_114 (fun H locs hW hS => ?_)
  refine lv_if_eq (tgt := 140) hx hb dX11_pagesBefore_117 (by decide) (fun cc => ?_) (fun cc => ?_)
  · replace h := (if_pos cc).symm.trans h
    refine lv_iinc (v := (x4 + (1 : Int32))) (lv' := [(4, .int (x4 + (1 : Int32))), (6, .int s0), (0, .ref (b + 0)), (1, .int a1), (2, .int x2), (3, .int x3), (5, .int x5)]) hx hb dX11_pagesBefore_140 hl (k := 5) rfl rfl (by decide) rfl (fun ls hl => ?_)
    refine lv_goto (tgt := 27) hx hb dX11_pagesBefore_143 (by decide) ?_
    exact hk27 _ _ _ _ _ _ h hW hS (lv_sub hl [2, 3, 4, 5, 0] rfl)
  · replace h := (if_neg cc).symm.trans h
    refine lv_iload hx hb dX11_pagesBefore_120 (lv_at hl 6 rfl) ?_
    refine lv_iload_n hx hb dX11_pagesBefore_122 rfl (lv_at hl 4 rfl) ?_
    refine lv_icmp_gt (tgt := 137) hx hb dX11_pagesBefore_123 (by decide) (fun cc => ?_) (fun cc => ?_)
    · replace h := (if_pos cc).symm.trans h
      refine lv_iinc (v := (x2 + (1 : Int32))) (lv' := [(2, .int (x2 + (1 : Int32))), (6, .int s0), (0, .ref (b + 0)), (1, .int a1), (3, .int x3), (4, .int x4), (5, .int x5)]) hx hb dX11_pagesBefore_137 hl (k := 3) rfl rfl (by decide) rfl (fun ls hl => ?_)
      refine lv_iinc (v := (x4 + (1 : Int32))) (lv' := [(4, .int (x4 + (1 : Int32))), (2, .int (x2 + (1 : Int32))), (6, .int s0), (0, .ref (b + 0)), (1, .int a1), (3, .int x3), (5, .int x5)]) hx hb dX11_pagesBefore_140 hl (k := 5) rfl rfl (by decide) rfl (fun ls hl => ?_)
      refine lv_goto (tgt := 27) hx hb dX11_pagesBefore_143 (by decide) ?_
      exact hk27 _ _ _ _ _ _ h hW hS (lv_sub hl [3, 4, 1, 5, 0] rfl)
    · replace h := (if_neg cc).symm.trans h
      refine lv_iload hx hb dX11_pagesBefore_126 (lv_at hl 6 rfl) ?_
      refine lv_iload_n hx hb dX11_pagesBefore_128 rfl (lv_at hl 4 rfl) ?_
      refine lv_icmp_ne (tgt := 140) hx hb dX11_pagesBefore_129 (by decide) (fun cc => ?_) (fun cc => ?_)
      · replace h := (if_neg cc).symm.trans h
        refine lv_iinc (v := (x4 + (1 : Int32))) (lv' := [(4, .int (x4 + (1 : Int32))), (6, .int s0), (0, .ref (b + 0)), (1, .int a1), (2, .int x2), (3, .int x3), (5, .int x5)]) hx hb dX11_pagesBefore_140 hl (k := 5) rfl rfl (by decide) rfl (fun ls hl => ?_)
        refine lv_goto (tgt := 27) hx hb dX11_pagesBefore_143 (by decide) ?_
        exact hk27 _ _ _ _ _ _ h hW hS (lv_sub hl [2, 3, 4, 5, 0] rfl)
      · replace h := (if_pos cc).symm.trans h
        refine lv_iload hx hb dX11_pagesBefore_132 (lv_at hl 0 rfl) ?_
        refine lv_if_eq (tgt := 140) hx hb dX11_pagesBefore_134 (by decide) (fun cc => ?_) (fun cc => ?_)
        · replace h := (if_pos cc).symm.trans h
          refine lv_iinc (v := (x4 + (1 : Int32))) (lv' := [(4, .int (x4 + (1 : Int32))), (6, .int s0), (0, .ref (b + 0)), (1, .int a1), (2, .int x2), (3, .int x3), (5, .int x5)]) hx hb dX11_pagesBefore_140 hl (k := 5) rfl rfl (by decide) rfl (fun ls hl => ?_)
          refine lv_goto (tgt := 27) hx hb dX11_pagesBefore_143 (by decide) ?_
          exact hk27 _ _ _ _ _ _ h hW hS (lv_sub hl [2, 3, 4, 5, 0] rfl)
        · replace h := (if_neg cc).symm.trans h
          refine lv_iinc (v := (x2 + (1 : Int32))) (lv' := [(2, .int (x2 + (1 : Int32))), (6, .int s0), (0, .ref (b + 0)), (1, .int a1), (3, .int x3), (4, .int x4), (5, .int x5)]) hx hb dX11_pagesBefore_137 hl (k := 3) rfl rfl (by decide) rfl (fun ls hl => ?_)
          refine lv_iinc (v := (x4 + (1 : Int32))) (lv' := [(4, .int (x4 + (1 : Int32))), (2, .int (x2 + (1 : Int32))), (6, .int s0), (0, .ref (b + 0)), (1, .int a1), (3, .int x3), (5, .int x5)]) hx hb dX11_pagesBefore_140 hl (k := 5) rfl rfl (by decide) rfl (fun ls hl => ?_)
          refine lv_goto (tgt := 27) hx hb dX11_pagesBefore_143 (by decide) ?_
          exact hk27 _ _ _ _ _ _ h hW hS (lv_sub hl [3, 4, 1, 5, 0] rfl)
set_option maxHeartbeats 4000000 in
set_option maxRecDepth 100000 in
theorem wk_X11_pagesBefore_27 {n : Nat} {a1 : Int32} {μ : Mm} {out : Int32} (F : FX G b RX11 cX11_pagesBefore 7 p s m args meth c) (hr : meth.sig.returnType = some .int) : ∀ (f : Nat) (x2 : Int32) (x3 : Int32) (x4 : Int32) (H : Heap) (locs : List Loc) (ls : Array Slot), sh_X11_pagesBefore_27 n a1 μ f x2 x3 x4 = some out → WH G b μ H → va_S (fb b) s.heap H locs → lv_has ls 7 [(0, .ref (b + 0)), (1, .int a1), (2, .int x2), (3, .int x3), (4, .int x4)] → W p l e ({ frames := 2, cells := 0, slots := 0, locals := 45 } : Room) s m args below meth c H locs 0 0 (MQ below (QW G b μ (some (.int out))) args s 0 0 (fb b)) (F0 m 27 ls []) := by
  have hx := F.1
  have hb := F.2.1
  intro f
  induction f with
  | zero =>
    intro _ _ _ _ _ _ h
    rw [sh_X11_pagesBefore_27] at h
    cases h
  | succ f ih =>
    intro x2 x3 x4  H locs ls h hW hS hl
    rw [sh_X11_pagesBefore_27] at h
    have hk27 := ih
    refine lv_iload hx hb dX11_pagesBefore_27 (lv_at hl 4 rfl) ?_
    refine lv_aload_n hx hb dX11_pagesBefore_29 rfl (lv_at hl 0 rfl) ?_
    refine fl_get11 (v := .ref (b + 10)) kyf_0 F hW 5 (by decide) q_537 rfl rfl dX11_pagesBefore_30 ?_
    refine fl_get6 (v := .ref (b + 11)) kyf_10 F hW 0 (by decide) q_212 rfl rfl dX11_pagesBefore_33 ?_
    refine fl_get0 (v := .int (μ.1 11 2)) kyf_11 F hW 2 (by decide) q_165 rfl rfl dX11_pagesBefore_36 ?_
    refine lv_icmp_ge (tgt := 146) hx hb dX11_pagesBefore_39 (by decide) (fun cc => ?_) (fun cc => ?_)
    · replace h := (if_pos cc).symm.trans h
      refine lv_iload_n hx hb dX11_pagesBefore_146 rfl (lv_at hl 2 rfl) ?_
      cases h
      exact r_int F hr hW hS dX11_pagesBefore_147
    · replace h := (if_neg cc).symm.trans h
      refine lv_aload_n hx hb dX11_pagesBefore_42 rfl (lv_at hl 0 rfl) ?_
      refine fl_get11 (v := .ref (b + 38)) kyf_0 F hW 9 (by decide) q_541 rfl rfl dX11_pagesBefore_43 ?_
      refine fl_get1 (v := .ref (b + 52)) kyf_38 F hW 1 (by decide) q_363 rfl rfl dX11_pagesBefore_46 ?_
      refine lv_iload hx hb dX11_pagesBefore_49 (lv_at hl 4 rfl) ?_
      refine lv_aload_n hx hb dX11_pagesBefore_51 rfl (lv_at hl 0 rfl) ?_
      refine fl_get11 (v := .ref (b + 10)) kyf_0 F hW 5 (by decide) q_537 rfl rfl dX11_pagesBefore_52 ?_
      refine fl_get6 (v := .ref (b + 11)) kyf_10 F hW 0 (by decide) q_212 rfl rfl dX11_pagesBefore_55 ?_
      refine fl_get0 (v := .int (μ.1 11 2)) kyf_11 F hW 2 (by decide) q_165 rfl rfl dX11_pagesBefore_58 ?_
      obtain ⟨r2, qr2, h⟩ := ob h
      refine k_X3_beginners F ok_52 qr2 q_1418 ⟨Nat.le_of_ble_eq_true rfl, Nat.le_of_ble_eq_true rfl, Nat.le_of_ble_eq_true rfl, Nat.le_of_ble_eq_true rfl⟩ hW hS hl.1 (Nat.le_of_ble_eq_true rfl) dX11_pagesBefore_61 (fun H locs hW hS => ?_)
      refine lv_istore (lv' := [(5, .int r2), (0, .ref (b + 0)), (1, .int a1), (2, .int x2), (3, .int x3), (4, .int x4)]) hx hb dX11_pagesBefore_64 hl (by decide) rfl (fun ls hl => ?_)
      refine lv_aload_n hx hb dX11_pagesBefore_66 rfl (lv_at hl 1 rfl) ?_
      refine fl_get11 (v := .ref (b + 38)) kyf_0 F hW 9 (by decide) q_541 rfl rfl dX11_pagesBefore_67 ?_
      refine fl_get1 (v := .ref (b + 52)) kyf_38 F hW 1 (by decide) q_363 rfl rfl dX11_pagesBefore_70 ?_
      refine fl_get3 (v := .ref (b + 55)) kyf_52 F hW 1 (by decide) q_275 rfl rfl dX11_pagesBefore_73 ?_
      refine lv_iload hx hb dX11_pagesBefore_76 (lv_at hl 5 rfl) ?_
      obtain ⟨r3, qr3, h⟩ := ob h
      refine k_X5_at F ok_55 qr3 q_883 ⟨Nat.le_of_ble_eq_true rfl, Nat.le_of_ble_eq_true rfl, Nat.le_of_ble_eq_true rfl, Nat.le_of_ble_eq_true rfl⟩ hW hS hl.1 (Nat.le_of_ble_eq_true rfl) dX11_pagesBefore_78 (fun H locs hW hS => ?_)
      refine lv_aload_n hx hb dX11_pagesBefore_81 rfl (lv_at hl 1 rfl) ?_
      refine fl_get11 (v := .ref (b + 38)) kyf_0 F hW 9 (by decide) q_541 rfl rfl dX11_pagesBefore_82 ?_
      refine fl_get1 (v := .ref (b + 52)) kyf_38 F hW 1 (by decide) q_363 rfl rfl dX11_pagesBefore_85 ?_
      refine fl_get3 (v := .ref (b + 55)) kyf_52 F hW 1 (by decide) q_275 rfl rfl dX11_pagesBefore_88 ?_
      refine lv_iload_n hx hb dX11_pagesBefore_91 rfl (lv_at hl 2 rfl) ?_
      obtain ⟨r4, qr4, h⟩ := ob h
      refine k_X5_at F ok_55 qr4 q_883 ⟨Nat.le_of_ble_eq_true rfl, Nat.le_of_ble_eq_true rfl, Nat.le_of_ble_eq_true rfl, Nat.le_of_ble_eq_true rfl⟩ hW hS hl.1 (Nat.le_of_ble_eq_true rfl) dX11_pagesBefore_92 (fun H locs hW hS => ?_)
      refine lv_icmp_ge (tgt := 102) hx hb dX11_pagesBefore_95 (by decide) (fun cc => ?_) (fun cc => ?_)
      · replace h := (if_pos cc).symm.trans h
        refine lv_iconst (v := (0 : Int32)) hx hb dX11_pagesBefore_102 (by decide) ?_
        exact wk_X11_pagesBefore_103 F hr hk27 h hW hS (lv_sub hl [1, 2, 3, 4, 5, 0] rfl)
      · replace h := (if_neg cc).symm.trans h
        refine lv_iconst (v := (1 : Int32)) hx hb dX11_pagesBefore_98 (by decide) ?_
        refine lv_goto (tgt := 103) hx hb dX11_pagesBefore_99 (by decide) ?_
        exact wk_X11_pagesBefore_103 F hr hk27 h hW hS (lv_sub hl [1, 2, 3, 4, 5, 0] rfl)
set_option maxHeartbeats 4000000 in
set_option maxRecDepth 100000 in
theorem wk_X11_pagesBefore {n : Nat} {a1 : Int32} {μ : Mm} {out : Int32} (F : FX G b RX11 cX11_pagesBefore 7 p s m args meth c) (hr : meth.sig.returnType = some .int) (h : sh_X11_pagesBefore n a1 μ = some out) (hW : WH G b μ H) (hS : va_S (fb b) s.heap H locs) (hl : lv_has ls 7 [(0, .ref (b + 0)), (1, .int a1)]) : W p l e ({ frames := 2, cells := 0, slots := 0, locals := 45 } : Room) s m args below meth c H locs 0 0 (MQ below (QW G b μ (some (.int out))) args s 0 0 (fb b)) (F0 m 0 ls []) := by
  have hx := F.1
  have hb := F.2.1
  unfold sh_X11_pagesBefore at h
  refine lv_iconst (v := (0 : Int32)) hx hb dX11_pagesBefore_0 (by decide) ?_
  refine lv_istore_n (lv' := [(2, .int (0 : Int32)), (0, .ref (b + 0)), (1, .int a1)]) hx hb dX11_pagesBefore_1 rfl hl (by decide) rfl (fun ls hl => ?_)
  refine lv_aload_n hx hb dX11_pagesBefore_2 rfl (lv_at hl 1 rfl) ?_
  refine fl_get11 (v := .ref (b + 38)) kyf_0 F hW 9 (by decide) q_541 rfl rfl dX11_pagesBefore_3 ?_
  refine fl_get1 (v := .ref (b + 52)) kyf_38 F hW 1 (by decide) q_363 rfl rfl dX11_pagesBefore_6 ?_
  refine lv_iload_n hx hb dX11_pagesBefore_9 rfl (lv_at hl 2 rfl) ?_
  refine lv_aload_n hx hb dX11_pagesBefore_10 rfl (lv_at hl 1 rfl) ?_
  refine fl_get11 (v := .ref (b + 10)) kyf_0 F hW 5 (by decide) q_537 rfl rfl dX11_pagesBefore_11 ?_
  refine fl_get6 (v := .ref (b + 11)) kyf_10 F hW 0 (by decide) q_212 rfl rfl dX11_pagesBefore_14 ?_
  refine fl_get0 (v := .int (μ.1 11 2)) kyf_11 F hW 2 (by decide) q_165 rfl rfl dX11_pagesBefore_17 ?_
  obtain ⟨r1, qr1, h⟩ := ob h
  refine k_X3_beginners F ok_52 qr1 q_1418 ⟨Nat.le_of_ble_eq_true rfl, Nat.le_of_ble_eq_true rfl, Nat.le_of_ble_eq_true rfl, Nat.le_of_ble_eq_true rfl⟩ hW hS hl.1 (Nat.le_of_ble_eq_true rfl) dX11_pagesBefore_20 (fun H locs hW hS => ?_)
  refine lv_istore_n (lv' := [(3, .int r1), (2, .int (0 : Int32)), (0, .ref (b + 0)), (1, .int a1)]) hx hb dX11_pagesBefore_23 rfl hl (by decide) rfl (fun ls hl => ?_)
  refine lv_iconst (v := (0 : Int32)) hx hb dX11_pagesBefore_24 (by decide) ?_
  refine lv_istore (lv' := [(4, .int (0 : Int32)), (3, .int r1), (2, .int (0 : Int32)), (0, .ref (b + 0)), (1, .int a1)]) hx hb dX11_pagesBefore_25 hl (by decide) rfl (fun ls hl => ?_)
  exact wk_X11_pagesBefore_27 F hr n _ _ _ _ _ _ h hW hS (lv_sub hl [3, 4, 2, 1, 0] rfl)
set_option maxHeartbeats 4000000 in
set_option maxRecDepth 100000 in
theorem c_X11_pagesBefore {l : Launch} {G : Gt} {b : Nat} {n : Nat} {a1 : Int32} {μ : Mm} {out : Int32} (h : sh_X11_pagesBefore n a1 μ = some out) : Met l yX11_pagesBefore (wU (Cond.code yX11_pagesBefore cX11_pagesBefore 7 (some .int))) ({ frames := 2, cells := 0, slots := 0, locals := 45 } : Room) (PcW G b μ [.ref (b + 0), .int a1]) (QW G b μ (some (.int out))) 0 0 (fb b) :=
  met_of [.ref (b + 0), .int a1] (by decide) (Nat.le_of_ble_eq_true rfl) (fun F hr hW hl => wk_X11_pagesBefore F hr h hW va_S.rf hl)
set_option maxHeartbeats 4000000 in
set_option maxRecDepth 100000 in
theorem k_X11_pagesBefore {own : String} {nL : Nat} (F : FX G b own cc nL p s m args meth c) {n : Nat} {a1 : Int32} {μ : Mm} {out : Int32} (h : sh_X11_pagesBefore n a1 μ = some out) {index : Nat} (hl : Cond.methodLink own index yX11_pagesBefore ∈ TBG) (hR : 2 + 1 ≤ R.frames ∧ 8 + (7 + 11) + 45 ≤ R.locals ∧ cells ≤ R.cells ∧ slots ≤ R.slots) (hW : WH G b μ H) (hS : va_S (fb b) s.heap H locs) (hsz : ls.size = nL) (hrest : (rest.map fun v => v.category).sum ≤ 8) (hdg : decode cc pc = .ok (.invokevirtual index, 3))
    (kk : ∀ (H1 : Heap) (locs1 : List Loc), WH G b μ H1 → va_S (fb b) s.heap H1 locs1 → W p l e R s m args below meth c H1 locs1 cells slots Q (F0 m (pc + 3) ls (.int out :: rest))) : W p l e R s m args below meth c H locs cells slots Q (F0 m pc ls (.int a1 :: .ref (b + 0) :: rest)) :=
  f_callV (As := [.int a1]) (ci := 11) (c_X11_pagesBefore h) ⟨rfl, rfl⟩ rfl (ky_lt kyf_0 (by decide)) (wF_11 kyf_0) q_1416 qp_40 q_1 q_1417 rfl ⟨by decide +kernel, by decide +kernel, (show (parseMethodDescriptor yX11_pagesBefore.desc).map (fun d => d.parameters.length) = some 1 by decide +kernel)⟩ F hl hR hW hS hsz hrest rfl hdg kk
set_option maxHeartbeats 4000000 in
set_option maxRecDepth 100000 in
theorem wk_X11_crowded_7 {n : Nat} {a1 : Int32} {μ : Mm} {out : (Nat ⊕ Int32)} (F : FX G b RX11 cX11_crowded 3 p s m args meth c) (hr : meth.sig.returnType = some .int) (hlT : l.stackTraces = false) (hnt : ∀ x ∈ c.exceptionTable.toList, False) : ∀ (f : Nat) (x2 : Int32) (H : Heap) (locs : List Loc) (ls : Array Slot), sh_X11_crowded_7 n a1 μ f x2 = some out → WH G b μ H → va_S (fb b) s.heap H locs → lv_has ls 3 [(0, .ref (b + 0)), (1, .int a1), (2, .int x2)] → W p l e ({ frames := 7, cells := 1, slots := 6, locals := 111 } : Room) s m args below meth c H locs 1 6 (vx_MQ below (QN G b (Sum.elim (fun _ => none) (fun (v : Int32) => some (μ, (some (.int v)))) out)) (XN G b (Sum.elim (fun (q : Nat) => some (q, μ)) (fun _ => none) out)) args s 1 6 (fb b)) (F0 m 7 ls []) := by
  have hx := F.1
  have hb := F.2.1
  intro f
  induction f with
  | zero =>
    intro _ _ _ _ h
    rw [sh_X11_crowded_7] at h
    cases h
  | succ f ih =>
    intro x2  H locs ls h hW hS hl
    rw [sh_X11_crowded_7] at h
    have hk7 := ih
    refine lv_iload_n hx hb dX11_crowded_7 rfl (lv_at hl 2 rfl) ?_
    refine lv_aload_n hx hb dX11_crowded_8 rfl (lv_at hl 0 rfl) ?_
    refine fl_get11 (v := .ref (b + 10)) kyf_0 F hW 5 (by decide) q_537 rfl rfl dX11_crowded_9 ?_
    refine fl_get6 (v := .ref (b + 11)) kyf_10 F hW 0 (by decide) q_212 rfl rfl dX11_crowded_12 ?_
    refine fl_get0 (v := .int (μ.1 11 2)) kyf_11 F hW 2 (by decide) q_165 rfl rfl dX11_crowded_15 ?_
    refine lv_icmp_ge (tgt := 65) hx hb dX11_crowded_18 (by decide) (fun cc => ?_) (fun cc => ?_)
    · replace h := (if_pos cc).symm.trans h
      refine lv_iconst (v := (-1 : Int32)) hx hb dX11_crowded_65 (by decide) ?_
      cases h
      exact x_int F hr (Nat.le_of_ble_eq_true rfl) (Nat.le_of_ble_eq_true rfl) hW hS dX11_crowded_66
    · replace h := (if_neg cc).symm.trans h
      refine lv_aload_n hx hb dX11_crowded_21 rfl (lv_at hl 0 rfl) ?_
      refine fl_get11 (v := .ref (b + 38)) kyf_0 F hW 9 (by decide) q_541 rfl rfl dX11_crowded_22 ?_
      refine fl_get1 (v := .ref (b + 52)) kyf_38 F hW 1 (by decide) q_363 rfl rfl dX11_crowded_25 ?_
      refine lv_iload_n hx hb dX11_crowded_28 rfl (lv_at hl 2 rfl) ?_
      obtain ⟨r3, qr3, h⟩ := ob h
      refine k_X3_isFirstOnPage F ok_52 qr3 q_1410 ⟨Nat.le_of_ble_eq_true rfl, Nat.le_of_ble_eq_true rfl, Nat.le_of_ble_eq_true rfl, Nat.le_of_ble_eq_true rfl⟩ hW hS hl.1 (Nat.le_of_ble_eq_true rfl) dX11_crowded_29 (fun H locs hW hS => ?_)
      refine lv_if_eq (tgt := 59) hx hb dX11_crowded_32 (by decide) (fun cc => ?_) (fun cc => ?_)
      · replace h := (if_pos cc).symm.trans h
        refine lv_iinc (v := (x2 + (1 : Int32))) (lv' := [(2, .int (x2 + (1 : Int32))), (0, .ref (b + 0)), (1, .int a1)]) hx hb dX11_crowded_59 hl (k := 2) rfl rfl (by decide) rfl (fun ls hl => ?_)
        refine lv_goto (tgt := 7) hx hb dX11_crowded_62 (by decide) ?_
        exact hk7 _ _ _ _ h hW hS (lv_sub hl [1, 2, 0] rfl)
      · replace h := (if_neg cc).symm.trans h
        refine lv_aload_n hx hb dX11_crowded_35 rfl (lv_at hl 0 rfl) ?_
        refine lv_iload_n hx hb dX11_crowded_36 rfl (lv_at hl 2 rfl) ?_
        obtain ⟨r4, qr4, h⟩ := ob h
        refine k_X11_pagesBefore F qr4 q_1414 ⟨Nat.le_of_ble_eq_true rfl, Nat.le_of_ble_eq_true rfl, Nat.le_of_ble_eq_true rfl, Nat.le_of_ble_eq_true rfl⟩ hW hS hl.1 (Nat.le_of_ble_eq_true rfl) dX11_crowded_37 (fun H locs hW hS => ?_)
        refine lv_iload_n hx hb dX11_crowded_40 rfl (lv_at hl 1 rfl) ?_
        refine lv_icmp_ne (tgt := 59) hx hb dX11_crowded_41 (by decide) (fun cc => ?_) (fun cc => ?_)
        · replace h := (if_neg cc).symm.trans h
          refine lv_iinc (v := (x2 + (1 : Int32))) (lv' := [(2, .int (x2 + (1 : Int32))), (0, .ref (b + 0)), (1, .int a1)]) hx hb dX11_crowded_59 hl (k := 2) rfl rfl (by decide) rfl (fun ls hl => ?_)
          refine lv_goto (tgt := 7) hx hb dX11_crowded_62 (by decide) ?_
          exact hk7 _ _ _ _ h hW hS (lv_sub hl [1, 2, 0] rfl)
        · replace h := (if_pos cc).symm.trans h
          refine lv_aload_n hx hb dX11_crowded_44 rfl (lv_at hl 0 rfl) ?_
          refine fl_get11 (v := .ref (b + 38)) kyf_0 F hW 9 (by decide) q_541 rfl rfl dX11_crowded_45 ?_
          refine fl_get1 (v := .ref (b + 52)) kyf_38 F hW 1 (by decide) q_363 rfl rfl dX11_crowded_48 ?_
          refine fl_get3 (v := .ref (b + 55)) kyf_52 F hW 1 (by decide) q_275 rfl rfl dX11_crowded_51 ?_
          refine lv_iload_n hx hb dX11_crowded_54 rfl (lv_at hl 2 rfl) ?_
          obtain ⟨r5, qr5, h⟩ := ob h
          refine k_X5_at F ok_55 qr5 q_883 ⟨Nat.le_of_ble_eq_true rfl, Nat.le_of_ble_eq_true rfl, Nat.le_of_ble_eq_true rfl, Nat.le_of_ble_eq_true rfl⟩ hW hS hl.1 (Nat.le_of_ble_eq_true rfl) dX11_crowded_55 (fun H locs hW hS => ?_)
          cases h
          exact x_int F hr (Nat.le_of_ble_eq_true rfl) (Nat.le_of_ble_eq_true rfl) hW hS dX11_crowded_58
set_option maxHeartbeats 4000000 in
set_option maxRecDepth 100000 in
theorem wk_X11_crowded {n : Nat} {a1 : Int32} {μ : Mm} {out : (Nat ⊕ Int32)} (F : FX G b RX11 cX11_crowded 3 p s m args meth c) (hr : meth.sig.returnType = some .int) (hlT : l.stackTraces = false) (hnt : ∀ x ∈ c.exceptionTable.toList, False) (h : sh_X11_crowded n a1 μ = some out) (hW : WH G b μ H) (hS : va_S (fb b) s.heap H locs) (hl : lv_has ls 3 [(0, .ref (b + 0)), (1, .int a1)]) : W p l e ({ frames := 7, cells := 1, slots := 6, locals := 111 } : Room) s m args below meth c H locs 0 0 (vx_MQ below (QN G b (Sum.elim (fun _ => none) (fun (v : Int32) => some (μ, (some (.int v)))) out)) (XN G b (Sum.elim (fun (q : Nat) => some (q, μ)) (fun _ => none) out)) args s 1 6 (fb b)) (F0 m 0 ls []) := by
  have hx := F.1
  have hb := F.2.1
  unfold sh_X11_crowded at h
  refine lv_aload_n hx hb dX11_crowded_0 rfl (lv_at hl 0 rfl) ?_
  refine lv_iload_n hx hb dX11_crowded_1 rfl (lv_at hl 1 rfl) ?_
  obtain ⟨r1, qr1, h⟩ := ob h
  refine k_X11_checkPlace F hlT qr1 q_1405 ⟨Nat.le_of_ble_eq_true rfl, Nat.le_of_ble_eq_true rfl, Nat.le_of_ble_eq_true rfl, Nat.le_of_ble_eq_true rfl⟩ hW hS hl.1 (Nat.le_of_ble_eq_true rfl) dX11_crowded_2 (fun ec he ce q9 H locs hW hS hc1 hc2 hc3 => ?_) (fun v2 he H locs hW hS => ?_)
  · subst he
    cases h
    exact x_out F hnt (Nat.le_of_ble_eq_true rfl) (Nat.le_of_ble_eq_true rfl) hW hS hc1 hc2 hc3
  subst he
  replace h := (Sum.elim_inr _ _ _).symm.trans h
  refine lv_iconst (v := (0 : Int32)) hx hb dX11_crowded_5 (by decide) ?_
  refine lv_istore_n (lv' := [(2, .int (0 : Int32)), (0, .ref (b + 0)), (1, .int a1)]) hx hb dX11_crowded_6 rfl hl (by decide) rfl (fun ls hl => ?_)
  exact wk_X11_crowded_7 F hr hlT hnt n _ _ _ _ h hW hS (lv_sub hl [1, 2, 0] rfl)
set_option maxHeartbeats 4000000 in
set_option maxRecDepth 100000 in
theorem c_X11_crowded {l : Launch} (hlT : l.stackTraces = false) {G : Gt} {b : Nat} {n : Nat} {a1 : Int32} {μ : Mm} {out : (Nat ⊕ Int32)} (h : sh_X11_crowded n a1 μ = some out) : vx_Met l yX11_crowded (wU (Cond.code yX11_crowded cX11_crowded 3 (some .int))) ({ frames := 7, cells := 1, slots := 6, locals := 111 } : Room) (PcW G b μ [.ref (b + 0), .int a1]) (QN G b (Sum.elim (fun _ => none) (fun (v : Int32) => some (μ, (some (.int v)))) out)) (XN G b (Sum.elim (fun (q : Nat) => some (q, μ)) (fun _ => none) out)) 1 6 (fb b) :=
  xmet_of [.ref (b + 0), .int a1] (by decide) (Nat.le_of_ble_eq_true rfl) (fun F hr hnt hW hl => wk_X11_crowded F hr hlT hnt h hW va_S.rf hl)
set_option maxHeartbeats 4000000 in
set_option maxRecDepth 100000 in
theorem k_X11_crowded {own : String} {nL : Nat} (F : FX G b own cc nL p s m args meth c) (hlT : l.stackTraces = false) {n : Nat} {a1 : Int32} {μ : Mm} {out : (Nat ⊕ Int32)} (h : sh_X11_crowded n a1 μ = some out) {index : Nat} (hl : Cond.methodLink own index yX11_crowded ∈ TBG) (hR : 7 + 1 ≤ R.frames ∧ 8 + (3 + 11) + 111 ≤ R.locals ∧ cells + 1 ≤ R.cells ∧ slots + 6 ≤ R.slots) (hW : WH G b μ H) (hS : va_S (fb b) s.heap H locs) (hsz : ls.size = nL) (hrest : (rest.map fun v => v.category).sum ≤ 8) (hdg : decode cc pc = .ok (.invokevirtual index, 3))
    (kx : ∀ (q : Nat), out = .inl q → ∀ (ce : Cell) (q9 : Addr) (H1 : Heap) (locs1 : List Loc), WH G b μ H1 → va_S (fb b) s.heap H1 locs1 → H1[q9]? = some ce → ce.vm = .none → s.vm.findClass (exN q) = some ce.cls → vx_W p l e R s m args below meth c H1 locs1 (cells + 1) (slots + 6) Q (F0 m pc ls rest) q9)
    (kk : ∀ (v : Int32), out = .inr v → ∀ (H1 : Heap) (locs1 : List Loc), WH G b μ H1 → va_S (fb b) s.heap H1 locs1 → W p l e R s m args below meth c H1 locs1 (cells + 1) (slots + 6) Q (F0 m (pc + 3) ls (.int v :: rest))) : W p l e R s m args below meth c H locs cells slots Q (F0 m pc ls (.int a1 :: .ref (b + 0) :: rest)) := by
  cases out with
  | inl q => exact fx_callV (As := [.int a1]) (ci := 11) (c_X11_crowded hlT h) ⟨rfl, rfl⟩ rfl (ky_lt kyf_0 (by decide)) (wF_11 kyf_0) q_1402 q_1403 q_1 q_1404 rfl ⟨by decide +kernel, by decide +kernel, (show (parseMethodDescriptor yX11_crowded.desc).map (fun d => d.parameters.length) = some 1 by decide +kernel)⟩ F hl hR hW hS hsz hrest rfl hdg (fun z hz => by obtain rfl := Option.some.inj hz; exact kx _ rfl) (fun z hz => nomatch (show (none : Option (Mm × Option Value)) = some z from hz))
  | inr v => exact fx_callV (As := [.int a1]) (ci := 11) (c_X11_crowded hlT h) ⟨rfl, rfl⟩ rfl (ky_lt kyf_0 (by decide)) (wF_11 kyf_0) q_1402 q_1403 q_1 q_1404 rfl ⟨by decide +kernel, by decide +kernel, (show (parseMethodDescriptor yX11_crowded.desc).map (fun d => d.parameters.length) = some 1 by decide +kernel)⟩ F hl hR hW hS hsz hrest rfl hdg (fun z hz => nomatch (show (none : Option (Nat × Mm)) = some z from hz)) (fun z hz => by obtain rfl := Option.some.inj hz; exact kk _ rfl)
set_option maxHeartbeats 4000000 in
set_option maxRecDepth 100000 in
theorem wk_X11_titlesBefore_20 {n : Nat} {a1 : Int32} {μ : Mm} {out : Int32} (F : FX G b RX11 cX11_titlesBefore 6 p s m args meth c) (hr : meth.sig.returnType = some .int) : ∀ (f : Nat) (x2 : Int32) (x3 : Int32) (x4 : Int32) (H : Heap) (locs : List Loc) (ls : Array Slot), sh_X11_titlesBefore_20 n a1 μ f x2 x3 x4 = some out → WH G b μ H → va_S (fb b) s.heap H locs → lv_has ls 6 [(0, .ref (b + 0)), (1, .int a1), (2, .int x2), (3, .int x3), (4, .int x4)] → W p l e ({ frames := 1, cells := 0, slots := 0, locals := 21 } : Room) s m args below meth c H locs 0 0 (MQ below (QW G b μ (some (.int out))) args s 0 0 (fb b)) (F0 m 20 ls []) := by
  have hx := F.1
  have hb := F.2.1
  intro f
  induction f with
  | zero =>
    intro _ _ _ _ _ _ h
    rw [sh_X11_titlesBefore_20] at h
    cases h
  | succ f ih =>
    intro x2 x3 x4  H locs ls h hW hS hl
    rw [sh_X11_titlesBefore_20] at h
    have hk20 := ih
    refine lv_iload hx hb dX11_titlesBefore_20 (lv_at hl 4 rfl) ?_
    refine lv_aload_n hx hb dX11_titlesBefore_22 rfl (lv_at hl 0 rfl) ?_
    refine fl_get11 (v := .ref (b + 10)) kyf_0 F hW 5 (by decide) q_537 rfl rfl dX11_titlesBefore_23 ?_
    refine fl_get6 (v := .ref (b + 11)) kyf_10 F hW 0 (by decide) q_212 rfl rfl dX11_titlesBefore_26 ?_
    refine fl_get0 (v := .int (μ.1 11 2)) kyf_11 F hW 2 (by decide) q_165 rfl rfl dX11_titlesBefore_29 ?_
    refine lv_icmp_ge (tgt := 79) hx hb dX11_titlesBefore_32 (by decide) (fun cc => ?_) (fun cc => ?_)
    · replace h := (if_pos cc).symm.trans h
      refine lv_iload_n hx hb dX11_titlesBefore_79 rfl (lv_at hl 2 rfl) ?_
      cases h
      exact r_int F hr hW hS dX11_titlesBefore_80
    · replace h := (if_neg cc).symm.trans h
      refine lv_aload_n hx hb dX11_titlesBefore_35 rfl (lv_at hl 0 rfl) ?_
      refine fl_get11 (v := .ref (b + 38)) kyf_0 F hW 9 (by decide) q_541 rfl rfl dX11_titlesBefore_36 ?_
      refine fl_get1 (v := .ref (b + 39)) kyf_38 F hW 0 (by decide) q_361 rfl rfl dX11_titlesBefore_39 ?_
      refine fl_get2 (v := .ref (b + 50)) kyf_39 F hW 5 (by decide) q_249 rfl rfl dX11_titlesBefore_42 ?_
      refine lv_iload hx hb dX11_titlesBefore_45 (lv_at hl 4 rfl) ?_
      obtain ⟨r2, qr2, h⟩ := ob h
      refine k_X5_at F ok_50 qr2 q_883 ⟨Nat.le_of_ble_eq_true rfl, Nat.le_of_ble_eq_true rfl, Nat.le_of_ble_eq_true rfl, Nat.le_of_ble_eq_true rfl⟩ hW hS hl.1 (Nat.le_of_ble_eq_true rfl) dX11_titlesBefore_47 (fun H locs hW hS => ?_)
      refine lv_istore (lv' := [(5, .int r2), (0, .ref (b + 0)), (1, .int a1), (2, .int x2), (3, .int x3), (4, .int x4)]) hx hb dX11_titlesBefore_50 hl (by decide) rfl (fun ls hl => ?_)
      refine lv_iload hx hb dX11_titlesBefore_52 (lv_at hl 0 rfl) ?_
      refine lv_iload_n hx hb dX11_titlesBefore_54 rfl (lv_at hl 4 rfl) ?_
      refine lv_icmp_gt (tgt := 70) hx hb dX11_titlesBefore_55 (by decide) (fun cc => ?_) (fun cc => ?_)
      · replace h := (if_pos cc).symm.trans h
        refine lv_iinc (v := (x2 + (1 : Int32))) (lv' := [(2, .int (x2 + (1 : Int32))), (5, .int r2), (0, .ref (b + 0)), (1, .int a1), (3, .int x3), (4, .int x4)]) hx hb dX11_titlesBefore_70 hl (k := 3) rfl rfl (by decide) rfl (fun ls hl => ?_)
        refine lv_iinc (v := (x4 + (1 : Int32))) (lv' := [(4, .int (x4 + (1 : Int32))), (2, .int (x2 + (1 : Int32))), (5, .int r2), (0, .ref (b + 0)), (1, .int a1), (3, .int x3)]) hx hb dX11_titlesBefore_73 hl (k := 5) rfl rfl (by decide) rfl (fun ls hl => ?_)
        refine lv_goto (tgt := 20) hx hb dX11_titlesBefore_76 (by decide) ?_
        exact hk20 _ _ _ _ _ _ h hW hS (lv_sub hl [3, 4, 1, 5, 0] rfl)
      · replace h := (if_neg cc).symm.trans h
        refine lv_iload hx hb dX11_titlesBefore_58 (lv_at hl 0 rfl) ?_
        refine lv_iload_n hx hb dX11_titlesBefore_60 rfl (lv_at hl 4 rfl) ?_
        refine lv_icmp_ne (tgt := 73) hx hb dX11_titlesBefore_61 (by decide) (fun cc => ?_) (fun cc => ?_)
        · replace h := (if_neg cc).symm.trans h
          refine lv_iinc (v := (x4 + (1 : Int32))) (lv' := [(4, .int (x4 + (1 : Int32))), (5, .int r2), (0, .ref (b + 0)), (1, .int a1), (2, .int x2), (3, .int x3)]) hx hb dX11_titlesBefore_73 hl (k := 5) rfl rfl (by decide) rfl (fun ls hl => ?_)
          refine lv_goto (tgt := 20) hx hb dX11_titlesBefore_76 (by decide) ?_
          exact hk20 _ _ _ _ _ _ h hW hS (lv_sub hl [2, 3, 4, 5, 0] rfl)
        · replace h := (if_pos cc).symm.trans h
          refine lv_iload hx hb dX11_titlesBefore_64 (lv_at hl 5 rfl) ?_
          refine lv_iload_n hx hb dX11_titlesBefore_66 rfl (lv_at hl 2 rfl) ?_
          refine lv_icmp_ge (tgt := 73) hx hb dX11_titlesBefore_67 (by decide) (fun cc => ?_) (fun cc => ?_)
          · replace h := (if_pos cc).symm.trans h
            refine lv_iinc (v := (x4 + (1 : Int32))) (lv' := [(4, .int (x4 + (1 : Int32))), (5, .int r2), (0, .ref (b + 0)), (1, .int a1), (2, .int x2), (3, .int x3)]) hx hb dX11_titlesBefore_73 hl (k := 5) rfl rfl (by decide) rfl (fun ls hl => ?_)
            refine lv_goto (tgt := 20) hx hb dX11_titlesBefore_76 (by decide) ?_
            exact hk20 _ _ _ _ _ _ h hW hS (lv_sub hl [2, 3, 4, 5, 0] rfl)
          · replace h := (if_neg cc).symm.trans h
            refine lv_iinc (v := (x2 + (1 : Int32))) (lv' := [(2, .int (x2 + (1 : Int32))), (5, .int r2), (0, .ref (b + 0)), (1, .int a1), (3, .int x3), (4, .int x4)]) hx hb dX11_titlesBefore_70 hl (k := 3) rfl rfl (by decide) rfl (fun ls hl => ?_)
            refine lv_iinc (v := (x4 + (1 : Int32))) (lv' := [(4, .int (x4 + (1 : Int32))), (2, .int (x2 + (1 : Int32))), (5, .int r2), (0, .ref (b + 0)), (1, .int a1), (3, .int x3)]) hx hb dX11_titlesBefore_73 hl (k := 5) rfl rfl (by decide) rfl (fun ls hl => ?_)
            refine lv_goto (tgt := 20) hx hb dX11_titlesBefore_76 (by decide) ?_
            exact hk20 _ _ _ _ _ _ h hW hS (lv_sub hl [3, 4, 1, 5, 0] rfl)
set_option maxHeartbeats 4000000 in
set_option maxRecDepth 100000 in
theorem wk_X11_titlesBefore {n : Nat} {a1 : Int32} {μ : Mm} {out : Int32} (F : FX G b RX11 cX11_titlesBefore 6 p s m args meth c) (hr : meth.sig.returnType = some .int) (h : sh_X11_titlesBefore n a1 μ = some out) (hW : WH G b μ H) (hS : va_S (fb b) s.heap H locs) (hl : lv_has ls 6 [(0, .ref (b + 0)), (1, .int a1)]) : W p l e ({ frames := 1, cells := 0, slots := 0, locals := 21 } : Room) s m args below meth c H locs 0 0 (MQ below (QW G b μ (some (.int out))) args s 0 0 (fb b)) (F0 m 0 ls []) := by
  have hx := F.1
  have hb := F.2.1
  unfold sh_X11_titlesBefore at h
  refine lv_iconst (v := (0 : Int32)) hx hb dX11_titlesBefore_0 (by decide) ?_
  refine lv_istore_n (lv' := [(2, .int (0 : Int32)), (0, .ref (b + 0)), (1, .int a1)]) hx hb dX11_titlesBefore_1 rfl hl (by decide) rfl (fun ls hl => ?_)
  refine lv_aload_n hx hb dX11_titlesBefore_2 rfl (lv_at hl 1 rfl) ?_
  refine fl_get11 (v := .ref (b + 38)) kyf_0 F hW 9 (by decide) q_541 rfl rfl dX11_titlesBefore_3 ?_
  refine fl_get1 (v := .ref (b + 39)) kyf_38 F hW 0 (by decide) q_361 rfl rfl dX11_titlesBefore_6 ?_
  refine fl_get2 (v := .ref (b + 50)) kyf_39 F hW 5 (by decide) q_249 rfl rfl dX11_titlesBefore_9 ?_
  refine lv_iload_n hx hb dX11_titlesBefore_12 rfl (lv_at hl 2 rfl) ?_
  obtain ⟨r1, qr1, h⟩ := ob h
  refine k_X5_at F ok_50 qr1 q_883 ⟨Nat.le_of_ble_eq_true rfl, Nat.le_of_ble_eq_true rfl, Nat.le_of_ble_eq_true rfl, Nat.le_of_ble_eq_true rfl⟩ hW hS hl.1 (Nat.le_of_ble_eq_true rfl) dX11_titlesBefore_13 (fun H locs hW hS => ?_)
  refine lv_istore_n (lv' := [(3, .int r1), (2, .int (0 : Int32)), (0, .ref (b + 0)), (1, .int a1)]) hx hb dX11_titlesBefore_16 rfl hl (by decide) rfl (fun ls hl => ?_)
  refine lv_iconst (v := (0 : Int32)) hx hb dX11_titlesBefore_17 (by decide) ?_
  refine lv_istore (lv' := [(4, .int (0 : Int32)), (3, .int r1), (2, .int (0 : Int32)), (0, .ref (b + 0)), (1, .int a1)]) hx hb dX11_titlesBefore_18 hl (by decide) rfl (fun ls hl => ?_)
  exact wk_X11_titlesBefore_20 F hr n _ _ _ _ _ _ h hW hS (lv_sub hl [3, 4, 2, 1, 0] rfl)
set_option maxHeartbeats 4000000 in
set_option maxRecDepth 100000 in
theorem c_X11_titlesBefore {l : Launch} {G : Gt} {b : Nat} {n : Nat} {a1 : Int32} {μ : Mm} {out : Int32} (h : sh_X11_titlesBefore n a1 μ = some out) : Met l yX11_titlesBefore (wU (Cond.code yX11_titlesBefore cX11_titlesBefore 6 (some .int))) ({ frames := 1, cells := 0, slots := 0, locals := 21 } : Room) (PcW G b μ [.ref (b + 0), .int a1]) (QW G b μ (some (.int out))) 0 0 (fb b) :=
  met_of [.ref (b + 0), .int a1] (by decide) (Nat.le_of_ble_eq_true rfl) (fun F hr hW hl => wk_X11_titlesBefore F hr h hW va_S.rf hl)
set_option maxHeartbeats 4000000 in
set_option maxRecDepth 100000 in
theorem k_X11_titlesBefore {own : String} {nL : Nat} (F : FX G b own cc nL p s m args meth c) {n : Nat} {a1 : Int32} {μ : Mm} {out : Int32} (h : sh_X11_titlesBefore n a1 μ = some out) {index : Nat} (hl : Cond.methodLink own index yX11_titlesBefore ∈ TBG) (hR : 1 + 1 ≤ R.frames ∧ 8 + (6 + 11) + 21 ≤ R.locals ∧ cells ≤ R.cells ∧ slots ≤ R.slots) (hW : WH G b μ H) (hS : va_S (fb b) s.heap H locs) (hsz : ls.size = nL) (hrest : (rest.map fun v => v.category).sum ≤ 8) (hdg : decode cc pc = .ok (.invokevirtual index, 3))
    (kk : ∀ (H1 : Heap) (locs1 : List Loc), WH G b μ H1 → va_S (fb b) s.heap H1 locs1 → W p l e R s m args below meth c H1 locs1 cells slots Q (F0 m (pc + 3) ls (.int out :: rest))) : W p l e R s m args below meth c H locs cells slots Q (F0 m pc ls (.int a1 :: .ref (b + 0) :: rest)) :=
  f_callV (As := [.int a1]) (ci := 11) (c_X11_titlesBefore h) ⟨rfl, rfl⟩ rfl (ky_lt kyf_0 (by decide)) (wF_11 kyf_0) q_1431 qp_41 q_1 q_1432 rfl ⟨by decide +kernel, by decide +kernel, (show (parseMethodDescriptor yX11_titlesBefore.desc).map (fun d => d.parameters.length) = some 1 by decide +kernel)⟩ F hl hR hW hS hsz hrest rfl hdg kk
set_option maxHeartbeats 4000000 in
set_option maxRecDepth 100000 in
theorem wk_X11_longest_7 {n : Nat} {a1 : Int32} {μ : Mm} {out : (Nat ⊕ Int32)} (F : FX G b RX11 cX11_longest 3 p s m args meth c) (hr : meth.sig.returnType = some .int) (hlT : l.stackTraces = false) (hnt : ∀ x ∈ c.exceptionTable.toList, False) : ∀ (f : Nat) (x2 : Int32) (H : Heap) (locs : List Loc) (ls : Array Slot), sh_X11_longest_7 n a1 μ f x2 = some out → WH G b μ H → va_S (fb b) s.heap H locs → lv_has ls 3 [(0, .ref (b + 0)), (1, .int a1), (2, .int x2)] → W p l e ({ frames := 7, cells := 1, slots := 6, locals := 111 } : Room) s m args below meth c H locs 1 6 (vx_MQ below (QN G b (Sum.elim (fun _ => none) (fun (v : Int32) => some (μ, (some (.int v)))) out)) (XN G b (Sum.elim (fun (q : Nat) => some (q, μ)) (fun _ => none) out)) args s 1 6 (fb b)) (F0 m 7 ls []) := by
  have hx := F.1
  have hb := F.2.1
  intro f
  induction f with
  | zero =>
    intro _ _ _ _ h
    rw [sh_X11_longest_7] at h
    cases h
  | succ f ih =>
    intro x2  H locs ls h hW hS hl
    rw [sh_X11_longest_7] at h
    have hk7 := ih
    refine lv_iload_n hx hb dX11_longest_7 rfl (lv_at hl 2 rfl) ?_
    refine lv_aload_n hx hb dX11_longest_8 rfl (lv_at hl 0 rfl) ?_
    refine fl_get11 (v := .ref (b + 10)) kyf_0 F hW 5 (by decide) q_537 rfl rfl dX11_longest_9 ?_
    refine fl_get6 (v := .ref (b + 11)) kyf_10 F hW 0 (by decide) q_212 rfl rfl dX11_longest_12 ?_
    refine fl_get0 (v := .int (μ.1 11 2)) kyf_11 F hW 2 (by decide) q_165 rfl rfl dX11_longest_15 ?_
    refine lv_icmp_ge (tgt := 38) hx hb dX11_longest_18 (by decide) (fun cc => ?_) (fun cc => ?_)
    · replace h := (if_pos cc).symm.trans h
      refine lv_iconst (v := (-1 : Int32)) hx hb dX11_longest_38 (by decide) ?_
      cases h
      exact x_int F hr (Nat.le_of_ble_eq_true rfl) (Nat.le_of_ble_eq_true rfl) hW hS dX11_longest_39
    · replace h := (if_neg cc).symm.trans h
      refine lv_aload_n hx hb dX11_longest_21 rfl (lv_at hl 0 rfl) ?_
      refine lv_iload_n hx hb dX11_longest_22 rfl (lv_at hl 2 rfl) ?_
      obtain ⟨r3, qr3, h⟩ := ob h
      refine k_X11_titlesBefore F qr3 q_1429 ⟨Nat.le_of_ble_eq_true rfl, Nat.le_of_ble_eq_true rfl, Nat.le_of_ble_eq_true rfl, Nat.le_of_ble_eq_true rfl⟩ hW hS hl.1 (Nat.le_of_ble_eq_true rfl) dX11_longest_23 (fun H locs hW hS => ?_)
      refine lv_iload_n hx hb dX11_longest_26 rfl (lv_at hl 1 rfl) ?_
      refine lv_icmp_ne (tgt := 32) hx hb dX11_longest_27 (by decide) (fun cc => ?_) (fun cc => ?_)
      · replace h := (if_neg cc).symm.trans h
        refine lv_iinc (v := (x2 + (1 : Int32))) (lv' := [(2, .int (x2 + (1 : Int32))), (0, .ref (b + 0)), (1, .int a1)]) hx hb dX11_longest_32 hl (k := 2) rfl rfl (by decide) rfl (fun ls hl => ?_)
        refine lv_goto (tgt := 7) hx hb dX11_longest_35 (by decide) ?_
        exact hk7 _ _ _ _ h hW hS (lv_sub hl [1, 2, 0] rfl)
      · replace h := (if_pos cc).symm.trans h
        refine lv_iload_n hx hb dX11_longest_30 rfl (lv_at hl 2 rfl) ?_
        cases h
        exact x_int F hr (Nat.le_of_ble_eq_true rfl) (Nat.le_of_ble_eq_true rfl) hW hS dX11_longest_31
set_option maxHeartbeats 4000000 in
set_option maxRecDepth 100000 in
theorem wk_X11_longest {n : Nat} {a1 : Int32} {μ : Mm} {out : (Nat ⊕ Int32)} (F : FX G b RX11 cX11_longest 3 p s m args meth c) (hr : meth.sig.returnType = some .int) (hlT : l.stackTraces = false) (hnt : ∀ x ∈ c.exceptionTable.toList, False) (h : sh_X11_longest n a1 μ = some out) (hW : WH G b μ H) (hS : va_S (fb b) s.heap H locs) (hl : lv_has ls 3 [(0, .ref (b + 0)), (1, .int a1)]) : W p l e ({ frames := 7, cells := 1, slots := 6, locals := 111 } : Room) s m args below meth c H locs 0 0 (vx_MQ below (QN G b (Sum.elim (fun _ => none) (fun (v : Int32) => some (μ, (some (.int v)))) out)) (XN G b (Sum.elim (fun (q : Nat) => some (q, μ)) (fun _ => none) out)) args s 1 6 (fb b)) (F0 m 0 ls []) := by
  have hx := F.1
  have hb := F.2.1
  unfold sh_X11_longest at h
  refine lv_aload_n hx hb dX11_longest_0 rfl (lv_at hl 0 rfl) ?_
  refine lv_iload_n hx hb dX11_longest_1 rfl (lv_at hl 1 rfl) ?_
  obtain ⟨r1, qr1, h⟩ := ob h
  refine k_X11_checkPlace F hlT qr1 q_1405 ⟨Nat.le_of_ble_eq_true rfl, Nat.le_of_ble_eq_true rfl, Nat.le_of_ble_eq_true rfl, Nat.le_of_ble_eq_true rfl⟩ hW hS hl.1 (Nat.le_of_ble_eq_true rfl) dX11_longest_2 (fun ec he ce q9 H locs hW hS hc1 hc2 hc3 => ?_) (fun v2 he H locs hW hS => ?_)
  · subst he
    cases h
    exact x_out F hnt (Nat.le_of_ble_eq_true rfl) (Nat.le_of_ble_eq_true rfl) hW hS hc1 hc2 hc3
  subst he
  replace h := (Sum.elim_inr _ _ _).symm.trans h
  refine lv_iconst (v := (0 : Int32)) hx hb dX11_longest_5 (by decide) ?_
  refine lv_istore_n (lv' := [(2, .int (0 : Int32)), (0, .ref (b + 0)), (1, .int a1)]) hx hb dX11_longest_6 rfl hl (by decide) rfl (fun ls hl => ?_)
  exact wk_X11_longest_7 F hr hlT hnt n _ _ _ _ h hW hS (lv_sub hl [1, 2, 0] rfl)
set_option maxHeartbeats 4000000 in
set_option maxRecDepth 100000 in
theorem c_X11_longest {l : Launch} (hlT : l.stackTraces = false) {G : Gt} {b : Nat} {n : Nat} {a1 : Int32} {μ : Mm} {out : (Nat ⊕ Int32)} (h : sh_X11_longest n a1 μ = some out) : vx_Met l yX11_longest (wU (Cond.code yX11_longest cX11_longest 3 (some .int))) ({ frames := 7, cells := 1, slots := 6, locals := 111 } : Room) (PcW G b μ [.ref (b + 0), .int a1]) (QN G b (Sum.elim (fun _ => none) (fun (v : Int32) => some (μ, (some (.int v)))) out)) (XN G b (Sum.elim (fun (q : Nat) => some (q, μ)) (fun _ => none) out)) 1 6 (fb b) :=
  xmet_of [.ref (b + 0), .int a1] (by decide) (Nat.le_of_ble_eq_true rfl) (fun F hr hnt hW hl => wk_X11_longest F hr hlT hnt h hW va_S.rf hl)
set_option maxHeartbeats 4000000 in
set_option maxRecDepth 100000 in
theorem k_X11_longest {own : String} {nL : Nat} (F : FX G b own cc nL p s m args meth c) (hlT : l.stackTraces = false) {n : Nat} {a1 : Int32} {μ : Mm} {out : (Nat ⊕ Int32)} (h : sh_X11_longest n a1 μ = some out) {index : Nat} (hl : Cond.methodLink own index yX11_longest ∈ TBG) (hR : 7 + 1 ≤ R.frames ∧ 8 + (3 + 11) + 111 ≤ R.locals ∧ cells + 1 ≤ R.cells ∧ slots + 6 ≤ R.slots) (hW : WH G b μ H) (hS : va_S (fb b) s.heap H locs) (hsz : ls.size = nL) (hrest : (rest.map fun v => v.category).sum ≤ 8) (hdg : decode cc pc = .ok (.invokevirtual index, 3))
    (kx : ∀ (q : Nat), out = .inl q → ∀ (ce : Cell) (q9 : Addr) (H1 : Heap) (locs1 : List Loc), WH G b μ H1 → va_S (fb b) s.heap H1 locs1 → H1[q9]? = some ce → ce.vm = .none → s.vm.findClass (exN q) = some ce.cls → vx_W p l e R s m args below meth c H1 locs1 (cells + 1) (slots + 6) Q (F0 m pc ls rest) q9)
    (kk : ∀ (v : Int32), out = .inr v → ∀ (H1 : Heap) (locs1 : List Loc), WH G b μ H1 → va_S (fb b) s.heap H1 locs1 → W p l e R s m args below meth c H1 locs1 (cells + 1) (slots + 6) Q (F0 m (pc + 3) ls (.int v :: rest))) : W p l e R s m args below meth c H locs cells slots Q (F0 m pc ls (.int a1 :: .ref (b + 0) :: rest)) := by
  cases out with
  | inl q => exact fx_callV (As := [.int a1]) (ci := 11) (c_X11_longest hlT h) ⟨rfl, rfl⟩ rfl (ky_lt kyf_0 (by decide)) (wF_11 kyf_0) q_1426 q_1427 q_1 q_1428 rfl ⟨by decide +kernel, by decide +kernel, (show (parseMethodDescriptor yX11_longest.desc).map (fun d => d.parameters.length) = some 1 by decide +kernel)⟩ F hl hR hW hS hsz hrest rfl hdg (fun z hz => by obtain rfl := Option.some.inj hz; exact kx _ rfl) (fun z hz => nomatch (show (none : Option (Mm × Option Value)) = some z from hz))
  | inr v => exact fx_callV (As := [.int a1]) (ci := 11) (c_X11_longest hlT h) ⟨rfl, rfl⟩ rfl (ky_lt kyf_0 (by decide)) (wF_11 kyf_0) q_1426 q_1427 q_1 q_1428 rfl ⟨by decide +kernel, by decide +kernel, (show (parseMethodDescriptor yX11_longest.desc).map (fun d => d.parameters.length) = some 1 by decide +kernel)⟩ F hl hR hW hS hsz hrest rfl hdg (fun z hz => nomatch (show (none : Option (Nat × Mm)) = some z from hz)) (fun z hz => by obtain rfl := Option.some.inj hz; exact kk _ rfl)
set_option maxHeartbeats 4000000 in
set_option maxRecDepth 100000 in
theorem wk_X11_undo_65 {n : Nat} {μ : Mm} {out : ((Nat × Mm) ⊕ (Int32 × Mm))} (F : FX G b RX11 cX11_undo 2 p s m args meth c) (hr : meth.sig.returnType = some .int) (hlT : l.stackTraces = false) (hnt : ∀ x ∈ c.exceptionTable.toList, False) (h : sh_X11_undo_65 n μ = some out) (hW : WH G b μ H) (hS : va_S (fb b) s.heap H locs) (hl : lv_has ls 2 [(0, .ref (b + 0))]) : W p l e ({ frames := 6, cells := 1, slots := 6, locals := 143 } : Room) s m args below meth c H locs 0 0 (vx_MQ below (QN G b (Sum.elim (fun _ => none) (fun (v : (Int32 × Mm)) => some (v.2, (some (.int v.1)))) out)) (XN G b (Sum.elim (fun (q : Nat × Mm) => some q) (fun _ => none) out)) args s 1 6 (fb b)) (F0 m 65 ls []) := by
  have hx := F.1
  have hb := F.2.1
  unfold sh_X11_undo_65 at h
  refine lv_aload_n hx hb dX11_undo_65 rfl (lv_at hl 0 rfl) ?_
  refine fl_get11 (v := .ref (b + 38)) kyf_0 F hW 9 (by decide) q_541 rfl rfl dX11_undo_66 ?_
  refine lv_aload_n hx hb dX11_undo_69 rfl (lv_at hl 0 rfl) ?_
  refine fl_get11 (v := .ref (b + 10)) kyf_0 F hW 5 (by decide) q_537 rfl rfl dX11_undo_70 ?_
  refine fl_get6 (v := .ref (b + 11)) kyf_10 F hW 0 (by decide) q_212 rfl rfl dX11_undo_73 ?_
  obtain ⟨r6, qr6, h⟩ := ob h
  refine k_X1_layAnew F ok_38 ok_11 qr6 q_405 ⟨Nat.le_of_ble_eq_true rfl, Nat.le_of_ble_eq_true rfl, Nat.le_of_ble_eq_true rfl, Nat.le_of_ble_eq_true rfl⟩ hW hS hl.1 (Nat.le_of_ble_eq_true rfl) dX11_undo_76 (fun H locs hW hS => ?_)
  refine lv_aload_n hx hb dX11_undo_79 rfl (lv_at hl 0 rfl) ?_
  refine fl_get11 (v := .int (r6.1 0 8)) kyf_0 F hW 8 (by decide) q_540 rfl rfl dX11_undo_80 ?_
  cases h
  exact x_int F hr (Nat.le_of_ble_eq_true rfl) (Nat.le_of_ble_eq_true rfl) hW hS dX11_undo_83
set_option maxHeartbeats 4000000 in
set_option maxRecDepth 100000 in
theorem wk_X11_undo {n : Nat} {μ : Mm} {out : ((Nat × Mm) ⊕ (Int32 × Mm))} (F : FX G b RX11 cX11_undo 2 p s m args meth c) (hr : meth.sig.returnType = some .int) (hlT : l.stackTraces = false) (hnt : ∀ x ∈ c.exceptionTable.toList, False) (h : sh_X11_undo n  μ = some out) (hW : WH G b μ H) (hS : va_S (fb b) s.heap H locs) (hl : lv_has ls 2 [(0, .ref (b + 0))]) : W p l e ({ frames := 6, cells := 1, slots := 6, locals := 143 } : Room) s m args below meth c H locs 0 0 (vx_MQ below (QN G b (Sum.elim (fun _ => none) (fun (v : (Int32 × Mm)) => some (v.2, (some (.int v.1)))) out)) (XN G b (Sum.elim (fun (q : Nat × Mm) => some q) (fun _ => none) out)) args s 1 6 (fb b)) (F0 m 0 ls []) := by
  have hx := F.1
  have hb := F.2.1
  unfold sh_X11_undo at h
  refine lv_aload_n hx hb dX11_undo_0 rfl (lv_at hl 0 rfl) ?_
  refine fl_get11 (v := .int (μ.1 0 8)) kyf_0 F hW 8 (by decide) q_540 rfl rfl dX11_undo_1 ?_
  refine lv_if_gt (tgt := 18) hx hb dX11_undo_4 (by decide) (fun cc => ?_) (fun cc => ?_)
  · replace h := (if_pos cc).symm.trans h
    refine lv_aload_n hx hb dX11_undo_18 rfl (lv_at hl 0 rfl) ?_
    refine lv_aload_n hx hb dX11_undo_19 rfl (lv_at hl 0 rfl) ?_
    refine fl_get11 (v := .int (μ.1 0 7)) kyf_0 F hW 7 (by decide) q_539 rfl rfl dX11_undo_20 ?_
    refine lv_bipush (v := (6 : Int32)) hx hb dX11_undo_23 (by decide) ?_
    refine lv_iadd hx hb dX11_undo_25 ?_
    refine lv_iconst (v := (1 : Int32)) hx hb dX11_undo_26 (by decide) ?_
    refine lv_isub hx hb dX11_undo_27 ?_
    refine lv_bipush (v := (6 : Int32)) hx hb dX11_undo_28 (by decide) ?_
    obtain ⟨v1, qv1, h⟩ := ob h
    obtain ⟨zv1, qv1⟩ := rm_some qv1
    refine lv_irem hx hb dX11_undo_30 zv1 ?_
    rw [qv1]
    obtain ⟨μ2, hmμ2, h⟩ := ob h
    refine fl_put11_7 kyf_0 F hW hS q_539 hmμ2 dX11_undo_31 (fun H locs hW hS => ?_)
    refine lv_aload_n hx hb dX11_undo_34 rfl (lv_at hl 0 rfl) ?_
    refine lv_dup hx hb dX11_undo_35 rfl ?_
    refine fl_get11 (v := .int (μ2.1 0 8)) kyf_0 F hW 8 (by decide) q_540 rfl rfl dX11_undo_36 ?_
    refine lv_iconst (v := (1 : Int32)) hx hb dX11_undo_39 (by decide) ?_
    refine lv_isub hx hb dX11_undo_40 ?_
    obtain ⟨μ3, hmμ3, h⟩ := ob h
    refine fl_put11_8 kyf_0 F hW hS q_540 hmμ3 dX11_undo_41 (fun H locs hW hS => ?_)
    refine lv_aload_n hx hb dX11_undo_44 rfl (lv_at hl 0 rfl) ?_
    refine lv_aload_n hx hb dX11_undo_45 rfl (lv_at hl 0 rfl) ?_
    refine fl_get11 (v := .int (μ3.1 0 7)) kyf_0 F hW 7 (by decide) q_539 rfl rfl dX11_undo_46 ?_
    obtain ⟨r4, qr4, h⟩ := ob h
    refine k_X11_earlierAt F qr4 q_765 ⟨Nat.le_of_ble_eq_true rfl, Nat.le_of_ble_eq_true rfl, Nat.le_of_ble_eq_true rfl, Nat.le_of_ble_eq_true rfl⟩ hW hS hl.1 (Nat.le_of_ble_eq_true rfl) dX11_undo_49 (fun H locs hW hS => ?_)
    refine lv_astore_n (lv' := [(1, .ref (b + r4)), (0, .ref (b + 0))]) hx hb dX11_undo_52 rfl hl (by decide) rfl (fun ls hl => ?_)
    refine lv_aload_n hx hb dX11_undo_53 rfl (lv_at hl 0 rfl) ?_
    refine lv_ifnull hx hb dX11_undo_54 ?_
    refine lv_aload_n hx hb dX11_undo_57 rfl (lv_at hl 1 rfl) ?_
    refine fl_get11 (v := .ref (b + 10)) kyf_0 F hW 5 (by decide) q_537 rfl rfl dX11_undo_58 ?_
    refine lv_aload_n hx hb dX11_undo_61 rfl (lv_at hl 0 rfl) ?_
    obtain ⟨r5, qr5, h⟩ := ob h
    refine k_X6_take F ok_10 (okSt_of qr4) qr5 q_769 ⟨Nat.le_of_ble_eq_true rfl, Nat.le_of_ble_eq_true rfl, Nat.le_of_ble_eq_true rfl, Nat.le_of_ble_eq_true rfl⟩ hW hS hl.1 (Nat.le_of_ble_eq_true rfl) dX11_undo_62 (fun H locs hW hS => ?_)
    exact wk_X11_undo_65 F hr hlT hnt h hW hS (lv_sub hl [1] rfl)
  · replace h := (if_neg cc).symm.trans h
    cases h
    exact x_throwW (ec := 0) F hlT hnt q_984 q_18 (is := 423) (text := "nothing to undo") (t := 36) (by decide +kernel) (by decide +kernel) (hat_0 F.2.2.2.2.1 F.2.2.2.2.2.2.1) hgd_0 hl.1 dX11_undo_7 dX11_undo_10 dX11_undo_11 dX11_undo_14 dX11_undo_17 ⟨Nat.le_of_ble_eq_true rfl, Nat.le_of_ble_eq_true rfl, Nat.le_of_ble_eq_true rfl, Nat.le_of_ble_eq_true rfl⟩ (Nat.le_of_ble_eq_true rfl) (Nat.le_of_ble_eq_true rfl) hW hS
set_option maxHeartbeats 4000000 in
set_option maxRecDepth 100000 in
theorem c_X11_undo {l : Launch} (hlT : l.stackTraces = false) {G : Gt} {b : Nat} {n : Nat} {μ : Mm} {out : ((Nat × Mm) ⊕ (Int32 × Mm))} (h : sh_X11_undo n  μ = some out) : vx_Met l yX11_undo (wU (Cond.code yX11_undo cX11_undo 2 (some .int))) ({ frames := 6, cells := 1, slots := 6, locals := 143 } : Room) (PcW G b μ [.ref (b + 0)]) (QN G b (Sum.elim (fun _ => none) (fun (v : (Int32 × Mm)) => some (v.2, (some (.int v.1)))) out)) (XN G b (Sum.elim (fun (q : Nat × Mm) => some q) (fun _ => none) out)) 1 6 (fb b) :=
  xmet_of [.ref (b + 0)] (by decide) (Nat.le_of_ble_eq_true rfl) (fun F hr hnt hW hl => wk_X11_undo F hr hlT hnt h hW va_S.rf hl)
set_option maxHeartbeats 4000000 in
set_option maxRecDepth 100000 in
theorem k_X11_undo {own : String} {nL : Nat} (F : FX G b own cc nL p s m args meth c) (hlT : l.stackTraces = false) {n : Nat} {μ : Mm} {out : ((Nat × Mm) ⊕ (Int32 × Mm))} (h : sh_X11_undo n  μ = some out) {index : Nat} (hl : Cond.methodLink own index yX11_undo ∈ TBG) (hR : 6 + 1 ≤ R.frames ∧ 8 + (2 + 11) + 143 ≤ R.locals ∧ cells + 1 ≤ R.cells ∧ slots + 6 ≤ R.slots) (hW : WH G b μ H) (hS : va_S (fb b) s.heap H locs) (hsz : ls.size = nL) (hrest : (rest.map fun v => v.category).sum ≤ 8) (hdg : decode cc pc = .ok (.invokevirtual index, 3))
    (kx : ∀ (q : Nat × Mm), out = .inl q → ∀ (ce : Cell) (q9 : Addr) (H1 : Heap) (locs1 : List Loc), WH G b q.2 H1 → va_S (fb b) s.heap H1 locs1 → H1[q9]? = some ce → ce.vm = .none → s.vm.findClass (exN q.1) = some ce.cls → vx_W p l e R s m args below meth c H1 locs1 (cells + 1) (slots + 6) Q (F0 m pc ls rest) q9)
    (kk : ∀ (v : (Int32 × Mm)), out = .inr v → ∀ (H1 : Heap) (locs1 : List Loc), WH G b v.2 H1 → va_S (fb b) s.heap H1 locs1 → W p l e R s m args below meth c H1 locs1 (cells + 1) (slots + 6) Q (F0 m (pc + 3) ls (.int v.1 :: rest))) : W p l e R s m args below meth c H locs cells slots Q (F0 m pc ls (.ref (b + 0) :: rest)) := by
  cases out with
  | inl q => exact fx_callV (As := []) (ci := 11) (c_X11_undo hlT h) ⟨rfl, rfl⟩ rfl (ky_lt kyf_0 (by decide)) (wF_11 kyf_0) q_1437 q_1438 q_1 q_1439 rfl ⟨by decide +kernel, by decide +kernel, (show (parseMethodDescriptor yX11_undo.desc).map (fun d => d.parameters.length) = some 0 by decide +kernel)⟩ F hl hR hW hS hsz hrest rfl hdg (fun z hz => by obtain rfl := Option.some.inj hz; exact kx _ rfl) (fun z hz => nomatch (show (none : Option (Mm × Option Value)) = some z from hz))
  | inr v => exact fx_callV (As := []) (ci := 11) (c_X11_undo hlT h) ⟨rfl, rfl⟩ rfl (ky_lt kyf_0 (by decide)) (wF_11 kyf_0) q_1437 q_1438 q_1 q_1439 rfl ⟨by decide +kernel, by decide +kernel, (show (parseMethodDescriptor yX11_undo.desc).map (fun d => d.parameters.length) = some 0 by decide +kernel)⟩ F hl hR hW hS hsz hrest rfl hdg (fun z hz => nomatch (show (none : Option (Nat × Mm)) = some z from hz)) (fun z hz => by obtain rfl := Option.some.inj hz; exact kk _ rfl)
set_option maxHeartbeats 4000000 in
set_option maxRecDepth 100000 in
theorem wk_X11_undoCount {μ : Mm} {out : Int32} (F : FX G b RX11 cX11_undoCount 1 p s m args meth c) (hr : meth.sig.returnType = some .int) (h : sh_X11_undoCount  μ = some out) (hW : WH G b μ H) (hS : va_S (fb b) s.heap H locs) (hl : lv_has ls 1 [(0, .ref (b + 0))]) : W p l e ({ frames := 0, cells := 0, slots := 0, locals := 0 } : Room) s m args below meth c H locs 0 0 (MQ below (QW G b μ (some (.int out))) args s 0 0 (fb b)) (F0 m 0 ls []) := by
  have hx := F.1
  have hb := F.2.1
  unfold sh_X11_undoCount at h
  refine lv_aload_n hx hb dX11_undoCount_0 rfl (lv_at hl 0 rfl) ?_
  refine fl_get11 (v := .int (μ.1 0 8)) kyf_0 F hW 8 (by decide) q_540 rfl rfl dX11_undoCount_1 ?_
  cases h
  exact r_int F hr hW hS dX11_undoCount_4
set_option maxHeartbeats 4000000 in
set_option maxRecDepth 100000 in
theorem c_X11_undoCount {l : Launch} {G : Gt} {b : Nat} {μ : Mm} {out : Int32} (h : sh_X11_undoCount  μ = some out) : Met l yX11_undoCount (wU (Cond.code yX11_undoCount cX11_undoCount 1 (some .int))) ({ frames := 0, cells := 0, slots := 0, locals := 0 } : Room) (PcW G b μ [.ref (b + 0)]) (QW G b μ (some (.int out))) 0 0 (fb b) :=
  met_of [.ref (b + 0)] (by decide) (Nat.le_of_ble_eq_true rfl) (fun F hr hW hl => wk_X11_undoCount F hr h hW va_S.rf hl)
set_option maxHeartbeats 4000000 in
set_option maxRecDepth 100000 in
theorem k_X11_undoCount {own : String} {nL : Nat} (F : FX G b own cc nL p s m args meth c) {μ : Mm} {out : Int32} (h : sh_X11_undoCount  μ = some out) {index : Nat} (hl : Cond.methodLink own index yX11_undoCount ∈ TBG) (hR : 0 + 1 ≤ R.frames ∧ 8 + (1 + 11) + 0 ≤ R.locals ∧ cells ≤ R.cells ∧ slots ≤ R.slots) (hW : WH G b μ H) (hS : va_S (fb b) s.heap H locs) (hsz : ls.size = nL) (hrest : (rest.map fun v => v.category).sum ≤ 8) (hdg : decode cc pc = .ok (.invokevirtual index, 3))
    (kk : ∀ (H1 : Heap) (locs1 : List Loc), WH G b μ H1 → va_S (fb b) s.heap H1 locs1 → W p l e R s m args below meth c H1 locs1 cells slots Q (F0 m (pc + 3) ls (.int out :: rest))) : W p l e R s m args below meth c H locs cells slots Q (F0 m pc ls (.ref (b + 0) :: rest)) :=
  f_callV (As := []) (ci := 11) (c_X11_undoCount h) ⟨rfl, rfl⟩ rfl (ky_lt kyf_0 (by decide)) (wF_11 kyf_0) q_969 q_970 q_1 q_971 rfl ⟨by decide +kernel, by decide +kernel, (show (parseMethodDescriptor yX11_undoCount.desc).map (fun d => d.parameters.length) = some 0 by decide +kernel)⟩ F hl hR hW hS hsz hrest rfl hdg kk
set_option maxHeartbeats 4000000 in
set_option maxRecDepth 100000 in
theorem wk_X11_writeLine {n : Nat} {a1 : Int32} {μ : Mm} {out : ((Nat × Mm) ⊕ (Int32 × Mm))} (F : FX G b RX11 cX11_writeLine 2 p s m args meth c) (hr : meth.sig.returnType = some .int) (hlT : l.stackTraces = false) (hnt : ∀ x ∈ c.exceptionTable.toList, False) (h : sh_X11_writeLine n a1 μ = some out) (hW : WH G b μ H) (hS : va_S (fb b) s.heap H locs) (hl : lv_has ls 2 [(0, .ref (b + 0)), (1, .int a1)]) : W p l e ({ frames := 7, cells := 1, slots := 6, locals := 121 } : Room) s m args below meth c H locs 0 0 (vx_MQ below (QN G b (Sum.elim (fun _ => none) (fun (v : (Int32 × Mm)) => some (v.2, (some (.int v.1)))) out)) (XN G b (Sum.elim (fun (q : Nat × Mm) => some q) (fun _ => none) out)) args s 1 6 (fb b)) (F0 m 0 ls []) := by
  have hx := F.1
  have hb := F.2.1
  unfold sh_X11_writeLine at h
  refine lv_aload_n hx hb dX11_writeLine_0 rfl (lv_at hl 0 rfl) ?_
  refine lv_iload_n hx hb dX11_writeLine_1 rfl (lv_at hl 1 rfl) ?_
  obtain ⟨r1, qr1, h⟩ := ob h
  refine k_X11_checkLine F hlT qr1 q_1200 ⟨Nat.le_of_ble_eq_true rfl, Nat.le_of_ble_eq_true rfl, Nat.le_of_ble_eq_true rfl, Nat.le_of_ble_eq_true rfl⟩ hW hS hl.1 (Nat.le_of_ble_eq_true rfl) dX11_writeLine_2 (fun ec he ce q9 H locs hW hS hc1 hc2 hc3 => ?_) (fun v2 he H locs hW hS => ?_)
  · subst he
    cases h
    exact x_out F hnt (Nat.le_of_ble_eq_true rfl) (Nat.le_of_ble_eq_true rfl) hW hS hc1 hc2 hc3
  subst he
  replace h := (Sum.elim_inr _ _ _).symm.trans h
  refine lv_aload_n hx hb dX11_writeLine_5 rfl (lv_at hl 0 rfl) ?_
  refine fl_get11 (v := .ref (b + 38)) kyf_0 F hW 9 (by decide) q_541 rfl rfl dX11_writeLine_6 ?_
  refine lv_aload_n hx hb dX11_writeLine_9 rfl (lv_at hl 0 rfl) ?_
  refine fl_get11 (v := .ref (b + 3)) kyf_0 F hW 1 (by decide) q_533 rfl rfl dX11_writeLine_10 ?_
  refine lv_aload_n hx hb dX11_writeLine_13 rfl (lv_at hl 0 rfl) ?_
  refine fl_get11 (v := .ref (b + 10)) kyf_0 F hW 5 (by decide) q_537 rfl rfl dX11_writeLine_14 ?_
  refine fl_get6 (v := .ref (b + 11)) kyf_10 F hW 0 (by decide) q_212 rfl rfl dX11_writeLine_17 ?_
  refine lv_iload_n hx hb dX11_writeLine_20 rfl (lv_at hl 1 rfl) ?_
  refine lv_iload_n hx hb dX11_writeLine_21 rfl (lv_at hl 1 rfl) ?_
  refine lv_iconst (v := (1 : Int32)) hx hb dX11_writeLine_22 (by decide) ?_
  refine lv_iadd hx hb dX11_writeLine_23 ?_
  obtain ⟨r3, qr3, h⟩ := ob h
  refine k_X1_typeLines F ok_38 ok_3 ok_11 qr3 q_885 ⟨Nat.le_of_ble_eq_true rfl, Nat.le_of_ble_eq_true rfl, Nat.le_of_ble_eq_true rfl, Nat.le_of_ble_eq_true rfl⟩ hW hS hl.1 (Nat.le_of_ble_eq_true rfl) dX11_writeLine_24 (fun H locs hW hS => ?_)
  refine lv_aload_n hx hb dX11_writeLine_27 rfl (lv_at hl 0 rfl) ?_
  refine fl_get11 (v := .ref (b + 3)) kyf_0 F hW 1 (by decide) q_533 rfl rfl dX11_writeLine_28 ?_
  obtain ⟨r4, qr4, h⟩ := ob h
  refine k_X8_length F ok_3 qr4 q_865 ⟨Nat.le_of_ble_eq_true rfl, Nat.le_of_ble_eq_true rfl, Nat.le_of_ble_eq_true rfl, Nat.le_of_ble_eq_true rfl⟩ hW hS hl.1 (Nat.le_of_ble_eq_true rfl) dX11_writeLine_31 (fun H locs hW hS => ?_)
  cases h
  exact x_int F hr (Nat.le_of_ble_eq_true rfl) (Nat.le_of_ble_eq_true rfl) hW hS dX11_writeLine_34
set_option maxHeartbeats 4000000 in
set_option maxRecDepth 100000 in
theorem c_X11_writeLine {l : Launch} (hlT : l.stackTraces = false) {G : Gt} {b : Nat} {n : Nat} {a1 : Int32} {μ : Mm} {out : ((Nat × Mm) ⊕ (Int32 × Mm))} (h : sh_X11_writeLine n a1 μ = some out) : vx_Met l yX11_writeLine (wU (Cond.code yX11_writeLine cX11_writeLine 2 (some .int))) ({ frames := 7, cells := 1, slots := 6, locals := 121 } : Room) (PcW G b μ [.ref (b + 0), .int a1]) (QN G b (Sum.elim (fun _ => none) (fun (v : (Int32 × Mm)) => some (v.2, (some (.int v.1)))) out)) (XN G b (Sum.elim (fun (q : Nat × Mm) => some q) (fun _ => none) out)) 1 6 (fb b) :=
  xmet_of [.ref (b + 0), .int a1] (by decide) (Nat.le_of_ble_eq_true rfl) (fun F hr hnt hW hl => wk_X11_writeLine F hr hlT hnt h hW va_S.rf hl)
set_option maxHeartbeats 4000000 in
set_option maxRecDepth 100000 in
theorem k_X11_writeLine {own : String} {nL : Nat} (F : FX G b own cc nL p s m args meth c) (hlT : l.stackTraces = false) {n : Nat} {a1 : Int32} {μ : Mm} {out : ((Nat × Mm) ⊕ (Int32 × Mm))} (h : sh_X11_writeLine n a1 μ = some out) {index : Nat} (hl : Cond.methodLink own index yX11_writeLine ∈ TBG) (hR : 7 + 1 ≤ R.frames ∧ 8 + (2 + 11) + 121 ≤ R.locals ∧ cells + 1 ≤ R.cells ∧ slots + 6 ≤ R.slots) (hW : WH G b μ H) (hS : va_S (fb b) s.heap H locs) (hsz : ls.size = nL) (hrest : (rest.map fun v => v.category).sum ≤ 8) (hdg : decode cc pc = .ok (.invokevirtual index, 3))
    (kx : ∀ (q : Nat × Mm), out = .inl q → ∀ (ce : Cell) (q9 : Addr) (H1 : Heap) (locs1 : List Loc), WH G b q.2 H1 → va_S (fb b) s.heap H1 locs1 → H1[q9]? = some ce → ce.vm = .none → s.vm.findClass (exN q.1) = some ce.cls → vx_W p l e R s m args below meth c H1 locs1 (cells + 1) (slots + 6) Q (F0 m pc ls rest) q9)
    (kk : ∀ (v : (Int32 × Mm)), out = .inr v → ∀ (H1 : Heap) (locs1 : List Loc), WH G b v.2 H1 → va_S (fb b) s.heap H1 locs1 → W p l e R s m args below meth c H1 locs1 (cells + 1) (slots + 6) Q (F0 m (pc + 3) ls (.int v.1 :: rest))) : W p l e R s m args below meth c H locs cells slots Q (F0 m pc ls (.int a1 :: .ref (b + 0) :: rest)) := by
  cases out with
  | inl q => exact fx_callV (As := [.int a1]) (ci := 11) (c_X11_writeLine hlT h) ⟨rfl, rfl⟩ rfl (ky_lt kyf_0 (by decide)) (wF_11 kyf_0) q_1445 q_1446 q_1 q_1447 rfl ⟨by decide +kernel, by decide +kernel, (show (parseMethodDescriptor yX11_writeLine.desc).map (fun d => d.parameters.length) = some 1 by decide +kernel)⟩ F hl hR hW hS hsz hrest rfl hdg (fun z hz => by obtain rfl := Option.some.inj hz; exact kx _ rfl) (fun z hz => nomatch (show (none : Option (Mm × Option Value)) = some z from hz))
  | inr v => exact fx_callV (As := [.int a1]) (ci := 11) (c_X11_writeLine hlT h) ⟨rfl, rfl⟩ rfl (ky_lt kyf_0 (by decide)) (wF_11 kyf_0) q_1445 q_1446 q_1 q_1447 rfl ⟨by decide +kernel, by decide +kernel, (show (parseMethodDescriptor yX11_writeLine.desc).map (fun d => d.parameters.length) = some 1 by decide +kernel)⟩ F hl hR hW hS hsz hrest rfl hdg (fun z hz => nomatch (show (none : Option (Nat × Mm)) = some z from hz)) (fun z hz => by obtain rfl := Option.some.inj hz; exact kk _ rfl)
set_option maxHeartbeats 4000000 in
set_option maxRecDepth 100000 in
theorem wk_X11_writeTable {n : Nat} {μ : Mm} {out : (Int32 × Mm)} (F : FX G b RX11 cX11_writeTable 1 p s m args meth c) (hr : meth.sig.returnType = some .int) (h : sh_X11_writeTable n  μ = some out) (hW : WH G b μ H) (hS : va_S (fb b) s.heap H locs) (hl : lv_has ls 1 [(0, .ref (b + 0))]) : W p l e ({ frames := 5, cells := 0, slots := 0, locals := 121 } : Room) s m args below meth c H locs 0 0 (MQ below (QW G b out.2 (some (.int out.1))) args s 0 0 (fb b)) (F0 m 0 ls []) := by
  have hx := F.1
  have hb := F.2.1
  unfold sh_X11_writeTable at h
  refine lv_aload_n hx hb dX11_writeTable_0 rfl (lv_at hl 0 rfl) ?_
  refine fl_get11 (v := .ref (b + 38)) kyf_0 F hW 9 (by decide) q_541 rfl rfl dX11_writeTable_1 ?_
  refine lv_aload_n hx hb dX11_writeTable_4 rfl (lv_at hl 0 rfl) ?_
  refine fl_get11 (v := .ref (b + 3)) kyf_0 F hW 1 (by decide) q_533 rfl rfl dX11_writeTable_5 ?_
  refine lv_aload_n hx hb dX11_writeTable_8 rfl (lv_at hl 0 rfl) ?_
  refine fl_get11 (v := .ref (b + 10)) kyf_0 F hW 5 (by decide) q_537 rfl rfl dX11_writeTable_9 ?_
  refine fl_get6 (v := .ref (b + 11)) kyf_10 F hW 0 (by decide) q_212 rfl rfl dX11_writeTable_12 ?_
  refine lv_iconst (v := (0 : Int32)) hx hb dX11_writeTable_15 (by decide) ?_
  refine lv_aload_n hx hb dX11_writeTable_16 rfl (lv_at hl 0 rfl) ?_
  refine fl_get11 (v := .ref (b + 38)) kyf_0 F hW 9 (by decide) q_541 rfl rfl dX11_writeTable_17 ?_
  refine fl_get1 (v := .ref (b + 61)) kyf_38 F hW 2 (by decide) q_365 rfl rfl dX11_writeTable_20 ?_
  refine fl_get7 (v := .int (μ.1 61 2)) kyf_61 F hW 2 (by decide) q_312 rfl rfl dX11_writeTable_23 ?_
  obtain ⟨r1, qr1, h⟩ := ob h
  refine k_X1_typeLines F ok_38 ok_3 ok_11 qr1 q_885 ⟨Nat.le_of_ble_eq_true rfl, Nat.le_of_ble_eq_true rfl, Nat.le_of_ble_eq_true rfl, Nat.le_of_ble_eq_true rfl⟩ hW hS hl.1 (Nat.le_of_ble_eq_true rfl) dX11_writeTable_26 (fun H locs hW hS => ?_)
  refine lv_aload_n hx hb dX11_writeTable_29 rfl (lv_at hl 0 rfl) ?_
  refine fl_get11 (v := .ref (b + 3)) kyf_0 F hW 1 (by decide) q_533 rfl rfl dX11_writeTable_30 ?_
  obtain ⟨r2, qr2, h⟩ := ob h
  refine k_X8_length F ok_3 qr2 q_865 ⟨Nat.le_of_ble_eq_true rfl, Nat.le_of_ble_eq_true rfl, Nat.le_of_ble_eq_true rfl, Nat.le_of_ble_eq_true rfl⟩ hW hS hl.1 (Nat.le_of_ble_eq_true rfl) dX11_writeTable_33 (fun H locs hW hS => ?_)
  cases h
  exact r_int F hr hW hS dX11_writeTable_36
set_option maxHeartbeats 4000000 in
set_option maxRecDepth 100000 in
theorem c_X11_writeTable {l : Launch} {G : Gt} {b : Nat} {n : Nat} {μ : Mm} {out : (Int32 × Mm)} (h : sh_X11_writeTable n  μ = some out) : Met l yX11_writeTable (wU (Cond.code yX11_writeTable cX11_writeTable 1 (some .int))) ({ frames := 5, cells := 0, slots := 0, locals := 121 } : Room) (PcW G b μ [.ref (b + 0)]) (QW G b out.2 (some (.int out.1))) 0 0 (fb b) :=
  met_of [.ref (b + 0)] (by decide) (Nat.le_of_ble_eq_true rfl) (fun F hr hW hl => wk_X11_writeTable F hr h hW va_S.rf hl)
set_option maxHeartbeats 4000000 in
set_option maxRecDepth 100000 in
theorem k_X11_writeTable {own : String} {nL : Nat} (F : FX G b own cc nL p s m args meth c) {n : Nat} {μ : Mm} {out : (Int32 × Mm)} (h : sh_X11_writeTable n  μ = some out) {index : Nat} (hl : Cond.methodLink own index yX11_writeTable ∈ TBG) (hR : 5 + 1 ≤ R.frames ∧ 8 + (1 + 11) + 121 ≤ R.locals ∧ cells ≤ R.cells ∧ slots ≤ R.slots) (hW : WH G b μ H) (hS : va_S (fb b) s.heap H locs) (hsz : ls.size = nL) (hrest : (rest.map fun v => v.category).sum ≤ 8) (hdg : decode cc pc = .ok (.invokevirtual index, 3))
    (kk : ∀ (H1 : Heap) (locs1 : List Loc), WH G b out.2 H1 → va_S (fb b) s.heap H1 locs1 → W p l e R s m args below meth c H1 locs1 cells slots Q (F0 m (pc + 3) ls (.int out.1 :: rest))) : W p l e R s m args below meth c H locs cells slots Q (F0 m pc ls (.ref (b + 0) :: rest)) :=
  f_callV (As := []) (ci := 11) (c_X11_writeTable h) ⟨rfl, rfl⟩ rfl (ky_lt kyf_0 (by decide)) (wF_11 kyf_0) q_973 q_974 q_1 q_975 rfl ⟨by decide +kernel, by decide +kernel, (show (parseMethodDescriptor yX11_writeTable.desc).map (fun d => d.parameters.length) = some 0 by decide +kernel)⟩ F hl hR hW hS hsz hrest rfl hdg kk
set_option maxHeartbeats 4000000 in
set_option maxRecDepth 100000 in
theorem wk_X11_outputByte_15 {a1 : Int32} {μ : Mm} {out : (Nat ⊕ Int32)} (F : FX G b RX11 cX11_outputByte 2 p s m args meth c) (hr : meth.sig.returnType = some .int) (hlT : l.stackTraces = false) (hnt : ∀ x ∈ c.exceptionTable.toList, False) (h : sh_X11_outputByte_15 a1 μ = some out) (hW : WH G b μ H) (hS : va_S (fb b) s.heap H locs) (hl : lv_has ls 2 []) : W p l e ({ frames := 6, cells := 1, slots := 6, locals := 90 } : Room) s m args below meth c H locs 0 0 (vx_MQ below (QN G b (Sum.elim (fun _ => none) (fun (v : Int32) => some (μ, (some (.int v)))) out)) (XN G b (Sum.elim (fun (q : Nat) => some (q, μ)) (fun _ => none) out)) args s 1 6 (fb b)) (F0 m 15 ls []) := by
  have hx := F.1
  have hb := F.2.1
  unfold sh_X11_outputByte_15 at h
  cases h
  exact x_throwW (ec := 2) F hlT hnt q_1108 q_25 (is := 432) (text := "no such byte of the output") (t := 37) (by decide +kernel) (by decide +kernel) (hat_2 F.2.2.2.2.1 F.2.2.2.2.2.2.1) hgd_2 hl.1 dX11_outputByte_15 dX11_outputByte_18 dX11_outputByte_19 dX11_outputByte_22 dX11_outputByte_25 ⟨Nat.le_of_ble_eq_true rfl, Nat.le_of_ble_eq_true rfl, Nat.le_of_ble_eq_true rfl, Nat.le_of_ble_eq_true rfl⟩ (Nat.le_of_ble_eq_true rfl) (Nat.le_of_ble_eq_true rfl) hW hS
set_option maxHeartbeats 4000000 in
set_option maxRecDepth 100000 in
theorem wk_X11_outputByte {a1 : Int32} {μ : Mm} {out : (Nat ⊕ Int32)} (F : FX G b RX11 cX11_outputByte 2 p s m args meth c) (hr : meth.sig.returnType = some .int) (hlT : l.stackTraces = false) (hnt : ∀ x ∈ c.exceptionTable.toList, False) (h : sh_X11_outputByte a1 μ = some out) (hW : WH G b μ H) (hS : va_S (fb b) s.heap H locs) (hl : lv_has ls 2 [(0, .ref (b + 0)), (1, .int a1)]) : W p l e ({ frames := 6, cells := 1, slots := 6, locals := 90 } : Room) s m args below meth c H locs 0 0 (vx_MQ below (QN G b (Sum.elim (fun _ => none) (fun (v : Int32) => some (μ, (some (.int v)))) out)) (XN G b (Sum.elim (fun (q : Nat) => some (q, μ)) (fun _ => none) out)) args s 1 6 (fb b)) (F0 m 0 ls []) := by
  have hx := F.1
  have hb := F.2.1
  unfold sh_X11_outputByte at h
  refine lv_iload_n hx hb dX11_outputByte_0 rfl (lv_at hl 1 rfl) ?_
  refine lv_if_lt (tgt := 15) hx hb dX11_outputByte_1 (by decide) (fun cc => ?_) (fun cc => ?_)
  · replace h := (if_pos cc).symm.trans h
    exact wk_X11_outputByte_15 F hr hlT hnt h hW hS (lv_sub hl [] rfl)
  · replace h := (if_neg cc).symm.trans h
    refine lv_iload_n hx hb dX11_outputByte_4 rfl (lv_at hl 1 rfl) ?_
    refine lv_aload_n hx hb dX11_outputByte_5 rfl (lv_at hl 0 rfl) ?_
    refine fl_get11 (v := .ref (b + 3)) kyf_0 F hW 1 (by decide) q_533 rfl rfl dX11_outputByte_6 ?_
    obtain ⟨r1, qr1, h⟩ := ob h
    refine k_X8_length F ok_3 qr1 q_865 ⟨Nat.le_of_ble_eq_true rfl, Nat.le_of_ble_eq_true rfl, Nat.le_of_ble_eq_true rfl, Nat.le_of_ble_eq_true rfl⟩ hW hS hl.1 (Nat.le_of_ble_eq_true rfl) dX11_outputByte_9 (fun H locs hW hS => ?_)
    refine lv_icmp_lt (tgt := 26) hx hb dX11_outputByte_12 (by decide) (fun cc => ?_) (fun cc => ?_)
    · replace h := (if_pos cc).symm.trans h
      refine lv_aload_n hx hb dX11_outputByte_26 rfl (lv_at hl 0 rfl) ?_
      refine fl_get11 (v := .ref (b + 3)) kyf_0 F hW 1 (by decide) q_533 rfl rfl dX11_outputByte_27 ?_
      refine lv_iload_n hx hb dX11_outputByte_30 rfl (lv_at hl 1 rfl) ?_
      obtain ⟨r2, qr2, h⟩ := ob h
      refine k_X8_at F ok_3 qr2 q_1456 ⟨Nat.le_of_ble_eq_true rfl, Nat.le_of_ble_eq_true rfl, Nat.le_of_ble_eq_true rfl, Nat.le_of_ble_eq_true rfl⟩ hW hS hl.1 (Nat.le_of_ble_eq_true rfl) dX11_outputByte_31 (fun H locs hW hS => ?_)
      cases h
      exact x_int F hr (Nat.le_of_ble_eq_true rfl) (Nat.le_of_ble_eq_true rfl) hW hS dX11_outputByte_34
    · replace h := (if_neg cc).symm.trans h
      exact wk_X11_outputByte_15 F hr hlT hnt h hW hS (lv_sub hl [] rfl)
set_option maxHeartbeats 4000000 in
set_option maxRecDepth 100000 in
theorem c_X11_outputByte {l : Launch} (hlT : l.stackTraces = false) {G : Gt} {b : Nat} {a1 : Int32} {μ : Mm} {out : (Nat ⊕ Int32)} (h : sh_X11_outputByte a1 μ = some out) : vx_Met l yX11_outputByte (wU (Cond.code yX11_outputByte cX11_outputByte 2 (some .int))) ({ frames := 6, cells := 1, slots := 6, locals := 90 } : Room) (PcW G b μ [.ref (b + 0), .int a1]) (QN G b (Sum.elim (fun _ => none) (fun (v : Int32) => some (μ, (some (.int v)))) out)) (XN G b (Sum.elim (fun (q : Nat) => some (q, μ)) (fun _ => none) out)) 1 6 (fb b) :=
  xmet_of [.ref (b + 0), .int a1] (by decide) (Nat.le_of_ble_eq_true rfl) (fun F hr hnt hW hl => wk_X11_outputByte F hr hlT hnt h hW va_S.rf hl)
set_option maxHeartbeats 4000000 in
set_option maxRecDepth 100000 in
theorem k_X11_outputByte {own : String} {nL : Nat} (F : FX G b own cc nL p s m args meth c) (hlT : l.stackTraces = false) {a1 : Int32} {μ : Mm} {out : (Nat ⊕ Int32)} (h : sh_X11_outputByte a1 μ = some out) {index : Nat} (hl : Cond.methodLink own index yX11_outputByte ∈ TBG) (hR : 6 + 1 ≤ R.frames ∧ 8 + (2 + 11) + 90 ≤ R.locals ∧ cells + 1 ≤ R.cells ∧ slots + 6 ≤ R.slots) (hW : WH G b μ H) (hS : va_S (fb b) s.heap H locs) (hsz : ls.size = nL) (hrest : (rest.map fun v => v.category).sum ≤ 8) (hdg : decode cc pc = .ok (.invokevirtual index, 3))
    (kx : ∀ (q : Nat), out = .inl q → ∀ (ce : Cell) (q9 : Addr) (H1 : Heap) (locs1 : List Loc), WH G b μ H1 → va_S (fb b) s.heap H1 locs1 → H1[q9]? = some ce → ce.vm = .none → s.vm.findClass (exN q) = some ce.cls → vx_W p l e R s m args below meth c H1 locs1 (cells + 1) (slots + 6) Q (F0 m pc ls rest) q9)
    (kk : ∀ (v : Int32), out = .inr v → ∀ (H1 : Heap) (locs1 : List Loc), WH G b μ H1 → va_S (fb b) s.heap H1 locs1 → W p l e R s m args below meth c H1 locs1 (cells + 1) (slots + 6) Q (F0 m (pc + 3) ls (.int v :: rest))) : W p l e R s m args below meth c H locs cells slots Q (F0 m pc ls (.int a1 :: .ref (b + 0) :: rest)) := by
  cases out with
  | inl q => exact fx_callV (As := [.int a1]) (ci := 11) (c_X11_outputByte hlT h) ⟨rfl, rfl⟩ rfl (ky_lt kyf_0 (by decide)) (wF_11 kyf_0) q_1452 q_1453 q_1 q_1454 rfl ⟨by decide +kernel, by decide +kernel, (show (parseMethodDescriptor yX11_outputByte.desc).map (fun d => d.parameters.length) = some 1 by decide +kernel)⟩ F hl hR hW hS hsz hrest rfl hdg (fun z hz => by obtain rfl := Option.some.inj hz; exact kx _ rfl) (fun z hz => nomatch (show (none : Option (Mm × Option Value)) = some z from hz))
  | inr v => exact fx_callV (As := [.int a1]) (ci := 11) (c_X11_outputByte hlT h) ⟨rfl, rfl⟩ rfl (ky_lt kyf_0 (by decide)) (wF_11 kyf_0) q_1452 q_1453 q_1 q_1454 rfl ⟨by decide +kernel, by decide +kernel, (show (parseMethodDescriptor yX11_outputByte.desc).map (fun d => d.parameters.length) = some 1 by decide +kernel)⟩ F hl hR hW hS hsz hrest rfl hdg (fun z hz => nomatch (show (none : Option (Nat × Mm)) = some z from hz)) (fun z hz => by obtain rfl := Option.some.inj hz; exact kk _ rfl)
end G17
