/-! CONSTRUCTORS: rows and texts -/
def rowE (G : Gt) (b : Nat) (E : Nat → va_E) (t c : Nat) (fs : List Value) (a : va_E) : Nat → va_E := up (up E (t + 1) a) t (.inr (c, fs))
theorem mx0 {z : Int32} (h : ¬ z < 0) : (if z < 0 then (0 : Int32) else z) = z := if_neg h
theorem up_lt {E : Nat → va_E} {t k i : Nat} {e : va_E} (h : i < t) (hk : t ≤ k) : up E k e i = E i := up_n (by omega)
section NEW1
variable {p : Program} {l : Launch} {e : Env} {R : Room} {s : State} {m : MethodId} {args : Array Value} {below : List Frame} {meth : Method} {c : Code} {H : Heap} {locs : List Loc} {cells slots : Nat} {Q : State → Prop}
variable {cc : ByteArray} {pc : Nat} {ls : Array Slot} {rest : List Value} {G : Gt} {b k t w n N : Nat} {E E1 : Nat → va_E} {own : String} {nL : Nat} {z : Int32}
set_option maxHeartbeats 4000000 in
set_option maxRecDepth 100000 in
theorem wk_X5_new (hE : E t = .inr (5, [.null])) (hz : ¬ z < 0 ∧ z.toNatClampNeg = N ∧ N * 4 ≤ 536870912) (F : FX G b RX5 cX5_init 2 p s m args meth c) (hr : meth.sig.returnType = none) (hin : meth.name = "<init>") (hW : PW G b t (t + 1) E s.heap) (hzs : s.heap.size = b + (t + 1)) (hl : lv_has ls 2 [(0, .ref (b + t)), (1, .int z)]) : W p l e ({ frames := 1, cells := 1, slots := N, locals := 14 } : Room) s m args below meth c s.heap [] 0 0 (MQ below (QNi G b t 2 (rowE G b E t 5 [.ref (b + (t + 1))] (.inl (G.2.1 1, N, .inl (fun _ => 0))))) args s 1 N (fb (b + t))) (F0 m 0 ls []) := by
  have hx := F.1
  have hb := F.2.1
  have hS : va_S (fb (b + t)) s.heap s.heap [] := va_S.rf
  refine lv_aload_n hx hb dX5_init_0 rfl (lv_at hl 0 rfl) ?_
  refine n_obj F hl.1 q_131 q_34 q_35 (Nat.le_of_ble_eq_true rfl) (Nat.le_of_ble_eq_true rfl) dX5_init_1 ?_
  refine lv_aload_n hx hb dX5_init_4 rfl (lv_at hl 0 rfl) ?_
  refine lv_iload_n hx hb dX5_init_5 rfl (lv_at hl 1 rfl) ?_
  refine lv_iconst (v := (0 : Int32)) hx hb dX5_init_6 (by decide) ?_
  refine fl_max F hl.1 q_132 q_43 q_3 mm_max (Nat.le_of_ble_eq_true rfl) (Nat.le_of_ble_eq_true rfl) (Nat.zero_le _) (Nat.zero_le _) dX5_init_7 ?_
  rw [mx0 hz.1]
  refine n_newa 1 (atype := .int) (ty := .int) (a0 := (N, .inl (fun _ => 0))) rfl rfl (fun _ _ => ra_int) q_137 F hW ⟨by omega, by omega, by omega⟩ hS (fun _ => rfl) hz.1 hz.2.1 hz.2.2 ⟨Nat.le_of_ble_eq_true rfl, by show 0 + N ≤ N; omega⟩ dX5_init_10 (fun H hW hS => ?_)
  refine n_put 5 rfl inB5 tyX5 tyX5_ok nmX5 F hW ⟨by omega, by omega⟩ ((up_n (by omega)).trans hE) hS 0 (by decide) q_133 rfl (fun _ => ⟨hin, rfl⟩) rfl rfl rfl (by decide) dX5_init_12 (fun H locs hW hS => ?_)
  have h0 : 0 + N = N := Nat.zero_add N
  rw [h0]
  refine n_void F hr hW (by omega) (fun i h1 h2 => ?_) hS dX5_init_15
  rcases (show i = t ∨ i = t + 1 by omega) with rfl | rfl
  · simp [rowE, up]
  · simp [rowE, up]
set_option maxHeartbeats 4000000 in
theorem c_X5_new {l : Launch} (hE : E t = .inr (5, [.null])) (hz : ¬ z < 0 ∧ z.toNatClampNeg = N ∧ N * 4 ≤ 536870912) : Met l yX5_init (wU (Cond.code yX5_init cX5_init 2 none)) ({ frames := 1, cells := 1, slots := N, locals := 14 } : Room) (PcG G b t (t + 1) E [.ref (b + t), .int z]) (QNi G b t 2 (rowE G b E t 5 [.ref (b + (t + 1))] (.inl (G.2.1 1, N, .inl (fun _ => 0))))) 1 N (fb (b + t)) :=
  gmet_of [.ref (b + t), .int z] (by decide) (Nat.le_of_ble_eq_true rfl) (fun F hr hin hW hzs hl => wk_X5_new hE hz F hr hin hW hzs hl)
set_option maxHeartbeats 4000000 in
/-- a new one as the last cell, made ready -/
theorem k_X5_new (hE : E t = .inr (5, [.null])) (hz : ¬ z < 0 ∧ z.toNatClampNeg = N ∧ N * 4 ≤ 536870912) (F : FX G b own cc nL p s m args meth c) {index : Nat} (hl : Cond.methodLink own index yX5_init ∈ TBG) (hR : 2 ≤ R.frames ∧ 35 ≤ R.locals ∧ cells + 1 ≤ R.cells ∧ slots + N ≤ R.slots) (hW : PW G b k (t + 1) E H) (hkt : k ≤ t ∧ s.heap.size + cells = b + (t + 1)) (hS : va_S (fb (b + k)) s.heap H locs) (hsz : ls.size = nL) (hrest : (rest.map fun v => v.category).sum ≤ 8) (hdg : decode cc pc = .ok (.invokespecial index, 3))
    (kk : ∀ (H1 : Heap) (locs1 : List Loc), PW G b k (t + 2) (rowE G b E t 5 [.ref (b + (t + 1))] (.inl (G.2.1 1, N, .inl (fun _ => 0)))) H1 → va_S (fb (b + k)) s.heap H1 locs1 → W p l e R s m args below meth c H1 locs1 (cells + 1) (slots + N) Q (F0 m (pc + 3) ls rest)) : W p l e R s m args below meth c H locs cells slots Q (F0 m pc ls (.int z :: .ref (b + t) :: rest)) :=
  n_call (As := [.int z]) (c_X5_new hE hz) ⟨rfl, rfl⟩ q_129 q_8 q_130 rfl ⟨by decide +kernel, by decide +kernel, (show (parseMethodDescriptor yX5_init.desc).map (fun d => d.parameters.length) = some 1 by decide +kernel)⟩ F hl ⟨hR.1, by show 8 + (2 + 11) + 14 ≤ _; omega, hR.2.2⟩ hW ⟨hkt.1, by omega, hkt.2⟩ (fun i hi => by unfold rowE; rw [up_n (by omega), up_n (by omega)]) hS hsz hrest rfl hdg kk
set_option maxHeartbeats 4000000 in
set_option maxRecDepth 100000 in
theorem wk_X9_new (hE : E t = .inr (9, [.null])) (hz : ¬ z < 0 ∧ z.toNatClampNeg = N ∧ N * 8 ≤ 536870912) (F : FX G b RX9 cX9_init 2 p s m args meth c) (hr : meth.sig.returnType = none) (hin : meth.name = "<init>") (hW : PW G b t (t + 1) E s.heap) (hzs : s.heap.size = b + (t + 1)) (hl : lv_has ls 2 [(0, .ref (b + t)), (1, .int z)]) : W p l e ({ frames := 1, cells := 1, slots := N, locals := 14 } : Room) s m args below meth c s.heap [] 0 0 (MQ below (QNi G b t 2 (rowE G b E t 9 [.ref (b + (t + 1))] (.inl (G.2.1 2, N, .inr (.inl (fun _ => 0)))))) args s 1 N (fb (b + t))) (F0 m 0 ls []) := by
  have hx := F.1
  have hb := F.2.1
  have hS : va_S (fb (b + t)) s.heap s.heap [] := va_S.rf
  refine lv_aload_n hx hb dX9_init_0 rfl (lv_at hl 0 rfl) ?_
  refine n_obj F hl.1 q_64 q_34 q_35 (Nat.le_of_ble_eq_true rfl) (Nat.le_of_ble_eq_true rfl) dX9_init_1 ?_
  refine lv_aload_n hx hb dX9_init_4 rfl (lv_at hl 0 rfl) ?_
  refine lv_iload_n hx hb dX9_init_5 rfl (lv_at hl 1 rfl) ?_
  refine lv_iconst (v := (0 : Int32)) hx hb dX9_init_6 (by decide) ?_
  refine fl_max F hl.1 q_65 q_43 q_3 mm_max (Nat.le_of_ble_eq_true rfl) (Nat.le_of_ble_eq_true rfl) (Nat.zero_le _) (Nat.zero_le _) dX9_init_7 ?_
  rw [mx0 hz.1]
  refine n_newa 2 (atype := .long) (ty := .long) (a0 := (N, .inr (.inl (fun _ => 0)))) rfl rfl (fun _ _ => ra_long) q_70 F hW ⟨by omega, by omega, by omega⟩ hS (fun _ => rfl) hz.1 hz.2.1 hz.2.2 ⟨Nat.le_of_ble_eq_true rfl, by show 0 + N ≤ N; omega⟩ dX9_init_10 (fun H hW hS => ?_)
  refine n_put 9 rfl inB9 tyX9 tyX9_ok nmX9 F hW ⟨by omega, by omega⟩ ((up_n (by omega)).trans hE) hS 0 (by decide) q_66 rfl (fun _ => ⟨hin, rfl⟩) rfl rfl rfl (by decide) dX9_init_12 (fun H locs hW hS => ?_)
  have h0 : 0 + N = N := Nat.zero_add N
  rw [h0]
  refine n_void F hr hW (by omega) (fun i h1 h2 => ?_) hS dX9_init_15
  rcases (show i = t ∨ i = t + 1 by omega) with rfl | rfl
  · simp [rowE, up]
  · simp [rowE, up]
set_option maxHeartbeats 4000000 in
theorem c_X9_new {l : Launch} (hE : E t = .inr (9, [.null])) (hz : ¬ z < 0 ∧ z.toNatClampNeg = N ∧ N * 8 ≤ 536870912) : Met l yX9_init (wU (Cond.code yX9_init cX9_init 2 none)) ({ frames := 1, cells := 1, slots := N, locals := 14 } : Room) (PcG G b t (t + 1) E [.ref (b + t), .int z]) (QNi G b t 2 (rowE G b E t 9 [.ref (b + (t + 1))] (.inl (G.2.1 2, N, .inr (.inl (fun _ => 0)))))) 1 N (fb (b + t)) :=
  gmet_of [.ref (b + t), .int z] (by decide) (Nat.le_of_ble_eq_true rfl) (fun F hr hin hW hzs hl => wk_X9_new hE hz F hr hin hW hzs hl)
set_option maxHeartbeats 4000000 in
/-- a new one as the last cell, made ready -/
theorem k_X9_new (hE : E t = .inr (9, [.null])) (hz : ¬ z < 0 ∧ z.toNatClampNeg = N ∧ N * 8 ≤ 536870912) (F : FX G b own cc nL p s m args meth c) {index : Nat} (hl : Cond.methodLink own index yX9_init ∈ TBG) (hR : 2 ≤ R.frames ∧ 35 ≤ R.locals ∧ cells + 1 ≤ R.cells ∧ slots + N ≤ R.slots) (hW : PW G b k (t + 1) E H) (hkt : k ≤ t ∧ s.heap.size + cells = b + (t + 1)) (hS : va_S (fb (b + k)) s.heap H locs) (hsz : ls.size = nL) (hrest : (rest.map fun v => v.category).sum ≤ 8) (hdg : decode cc pc = .ok (.invokespecial index, 3))
    (kk : ∀ (H1 : Heap) (locs1 : List Loc), PW G b k (t + 2) (rowE G b E t 9 [.ref (b + (t + 1))] (.inl (G.2.1 2, N, .inr (.inl (fun _ => 0))))) H1 → va_S (fb (b + k)) s.heap H1 locs1 → W p l e R s m args below meth c H1 locs1 (cells + 1) (slots + N) Q (F0 m (pc + 3) ls rest)) : W p l e R s m args below meth c H locs cells slots Q (F0 m pc ls (.int z :: .ref (b + t) :: rest)) :=
  n_call (As := [.int z]) (c_X9_new hE hz) ⟨rfl, rfl⟩ q_62 q_5 q_63 rfl ⟨by decide +kernel, by decide +kernel, (show (parseMethodDescriptor yX9_init.desc).map (fun d => d.parameters.length) = some 1 by decide +kernel)⟩ F hl ⟨hR.1, by show 8 + (2 + 11) + 14 ≤ _; omega, hR.2.2⟩ hW ⟨hkt.1, by omega, hkt.2⟩ (fun i hi => by unfold rowE; rw [up_n (by omega), up_n (by omega)]) hS hsz hrest rfl hdg kk
set_option maxHeartbeats 4000000 in
set_option maxRecDepth 100000 in
theorem wk_X8_new (hE : E t = .inr (8, [.null, .int 0])) (hz : ¬ z < 0 ∧ z.toNatClampNeg = N ∧ N * 1 ≤ 536870912) (F : FX G b RX8 cX8_init 2 p s m args meth c) (hr : meth.sig.returnType = none) (hin : meth.name = "<init>") (hW : PW G b t (t + 1) E s.heap) (hzs : s.heap.size = b + (t + 1)) (hl : lv_has ls 2 [(0, .ref (b + t)), (1, .int z)]) : W p l e ({ frames := 1, cells := 1, slots := N, locals := 14 } : Room) s m args below meth c s.heap [] 0 0 (MQ below (QNi G b t 2 (rowE G b E t 8 [.ref (b + (t + 1)), .int 0] (.inl (G.2.1 0, N, .inl (fun _ => 0))))) args s 1 N (fb (b + t))) (F0 m 0 ls []) := by
  have hx := F.1
  have hb := F.2.1
  have hS : va_S (fb (b + t)) s.heap s.heap [] := va_S.rf
  refine lv_aload_n hx hb dX8_init_0 rfl (lv_at hl 0 rfl) ?_
  refine n_obj F hl.1 q_41 q_34 q_35 (Nat.le_of_ble_eq_true rfl) (Nat.le_of_ble_eq_true rfl) dX8_init_1 ?_
  refine lv_aload_n hx hb dX8_init_4 rfl (lv_at hl 0 rfl) ?_
  refine lv_iconst (v := (0 : Int32)) hx hb dX8_init_5 (by decide) ?_
  refine n_put 8 rfl inB8 tyX8 tyX8_ok nmX8 F hW ⟨by omega, by omega⟩ hE hS 1 (by decide) q_46 rfl (fun h => absurd h (by decide)) rfl rfl rfl (by decide) dX8_init_6 (fun H locs hW hS => ?_)
  refine lv_aload_n hx hb dX8_init_9 rfl (lv_at hl 0 rfl) ?_
  refine lv_iload_n hx hb dX8_init_10 rfl (lv_at hl 1 rfl) ?_
  refine lv_iconst (v := (0 : Int32)) hx hb dX8_init_11 (by decide) ?_
  refine fl_max F hl.1 q_42 q_43 q_3 mm_max (Nat.le_of_ble_eq_true rfl) (Nat.le_of_ble_eq_true rfl) (Nat.zero_le _) (Nat.zero_le _) dX8_init_12 ?_
  rw [mx0 hz.1]
  refine n_newa 0 (atype := .byte) (ty := .byte) (a0 := (N, .inl (fun _ => 0))) rfl rfl (fun _ _ => ra_byte) q_52 F hW ⟨by omega, by omega, by omega⟩ hS (fun _ => rfl) hz.1 hz.2.1 hz.2.2 ⟨Nat.le_of_ble_eq_true rfl, by show 0 + N ≤ N; omega⟩ dX8_init_15 (fun H hW hS => ?_)
  refine n_put 8 rfl inB8 tyX8 tyX8_ok nmX8 F hW ⟨by omega, by omega⟩ ((up_n (by omega)).trans up_s) hS 0 (by decide) q_45 rfl (fun _ => ⟨hin, rfl⟩) rfl rfl rfl (by decide) dX8_init_17 (fun H locs hW hS => ?_)
  have h0 : 0 + N = N := Nat.zero_add N
  rw [h0]
  refine n_void F hr hW (by omega) (fun i h1 h2 => ?_) hS dX8_init_20
  rcases (show i = t ∨ i = t + 1 by omega) with rfl | rfl
  · simp [rowE, up]
  · simp [rowE, up]
set_option maxHeartbeats 4000000 in
theorem c_X8_new {l : Launch} (hE : E t = .inr (8, [.null, .int 0])) (hz : ¬ z < 0 ∧ z.toNatClampNeg = N ∧ N * 1 ≤ 536870912) : Met l yX8_init (wU (Cond.code yX8_init cX8_init 2 none)) ({ frames := 1, cells := 1, slots := N, locals := 14 } : Room) (PcG G b t (t + 1) E [.ref (b + t), .int z]) (QNi G b t 2 (rowE G b E t 8 [.ref (b + (t + 1)), .int 0] (.inl (G.2.1 0, N, .inl (fun _ => 0))))) 1 N (fb (b + t)) :=
  gmet_of [.ref (b + t), .int z] (by decide) (Nat.le_of_ble_eq_true rfl) (fun F hr hin hW hzs hl => wk_X8_new hE hz F hr hin hW hzs hl)
set_option maxHeartbeats 4000000 in
/-- a new one as the last cell, made ready -/
theorem k_X8_new (hE : E t = .inr (8, [.null, .int 0])) (hz : ¬ z < 0 ∧ z.toNatClampNeg = N ∧ N * 1 ≤ 536870912) (F : FX G b own cc nL p s m args meth c) {index : Nat} (hl : Cond.methodLink own index yX8_init ∈ TBG) (hR : 2 ≤ R.frames ∧ 35 ≤ R.locals ∧ cells + 1 ≤ R.cells ∧ slots + N ≤ R.slots) (hW : PW G b k (t + 1) E H) (hkt : k ≤ t ∧ s.heap.size + cells = b + (t + 1)) (hS : va_S (fb (b + k)) s.heap H locs) (hsz : ls.size = nL) (hrest : (rest.map fun v => v.category).sum ≤ 8) (hdg : decode cc pc = .ok (.invokespecial index, 3))
    (kk : ∀ (H1 : Heap) (locs1 : List Loc), PW G b k (t + 2) (rowE G b E t 8 [.ref (b + (t + 1)), .int 0] (.inl (G.2.1 0, N, .inl (fun _ => 0)))) H1 → va_S (fb (b + k)) s.heap H1 locs1 → W p l e R s m args below meth c H1 locs1 (cells + 1) (slots + N) Q (F0 m (pc + 3) ls rest)) : W p l e R s m args below meth c H locs cells slots Q (F0 m pc ls (.int z :: .ref (b + t) :: rest)) :=
  n_call (As := [.int z]) (c_X8_new hE hz) ⟨rfl, rfl⟩ q_39 q_2 q_40 rfl ⟨by decide +kernel, by decide +kernel, (show (parseMethodDescriptor yX8_init.desc).map (fun d => d.parameters.length) = some 1 by decide +kernel)⟩ F hl ⟨hR.1, by show 8 + (2 + 11) + 14 ≤ _; omega, hR.2.2⟩ hW ⟨hkt.1, by omega, hkt.2⟩ (fun i hi => by unfold rowE; rw [up_n (by omega), up_n (by omega)]) hS hsz hrest rfl hdg kk
end NEW1
