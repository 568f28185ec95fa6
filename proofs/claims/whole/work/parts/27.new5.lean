/-! CONSTRUCTORS: the model -/
/-- all cells of the class, and those of the model that exist; the model's object is in the making -/
def mo (G : Gt) (b : Nat) (μ : Mm) (fs : List Value) : Nat → va_E := up (wF G b μ) 306 (.inr (12, fs))
theorem mo_k {G : Gt} {b : Nat} {μ : Mm} {fs : List Value} : mo G b μ fs 306 = .inr (12, fs) := up_s
theorem mo_put {G : Gt} {b n : Nat} {μ : Mm} {fs fs' : List Value} {H : Heap} (hW : PW G b 0 n (up (mo G b μ fs) 306 (.inr (12, fs'))) H) : PW G b 0 n (mo G b μ fs') H := by
  unfold mo at hW
  rw [up_up] at hW
  exact hW
theorem mo_new {G : Gt} {b n : Nat} {μ : Mm} {fs : List Value} {a : va_E} {H : Heap} (hn : n ≠ 306) (ha : wF G b μ n = a) (hW : PW G b 0 (n + 1) (up (mo G b μ fs) n a) H) : PW G b 0 (n + 1) (mo G b μ fs) H := by
  rw [up_id (by unfold mo; rw [up_n hn, ha])] at hW
  exact hW
theorem SW_fg {G : Gt} {b : Nat} {U : State} {H : Heap} (h : SW G b U H) : SW (fg G) b U H := by
  refine ⟨fun t ht => ?_, h.2⟩
  have e : (fg G).2.2.2 t = G.2.2.2 t := if_neg (by omega)
  have := h.1 t ht
  rw [e]
  exact this
section NEW5
variable {p : Program} {l : Launch} {e : Env} {R : Room} {s : State} {m : MethodId} {args : Array Value} {below : List Frame} {meth : Method} {c : Code} {H : Heap} {locs : List Loc} {cells slots : Nat} {Q : State → Prop}
variable {cc : ByteArray} {pc : Nat} {ls : Array Slot} {rest : List Value} {G : Gt} {b k t w n N : Nat} {E E1 : Nat → va_E} {own : String} {nL : Nat} {z i v : Int32} {μ1 : Mm}
theorem FX_fg (F : FX G b own cc nL p s m args meth c) : FX (fg G) b own cc nL p s m args meth c := ⟨F.1, F.2.1, F.2.2.1, F.2.2.2.1, F.2.2.2.2.1, F.2.2.2.2.2.1, F.2.2.2.2.2.2.1, SW_fg F.2.2.2.2.2.2.2.1, F.2.2.2.2.2.2.2.2⟩
theorem wF_fg {μ : Mm} : wF (fg G) b μ k = wF G b μ k := rfl
theorem m1_z (hf : Fm (PLy 38) mS μ1) (hk : 306 ≤ k) (hz : zc k = true) : μ1.1 k = fun _ => 0 := by
  rw [← zc_z hz]
  funext j
  exact hf.2 k j (by show ¬ (38 ≤ k ∧ k < 38 + 42); omega)
set_option maxHeartbeats 16000000 in
set_option maxRecDepth 100000 in
theorem wk_X12_new {μ2 : Mm} (hn0 : G.2.2.2 13 = 0) (hμ : Fm (PLy 38) mS μ1) (h : sh_X12_begin 307 μ1 = some μ2) (he : sI (sI (sI μ2 307 0 60) 307 1 40) 307 2 40 = mB μ1) (F : FX G b RX12 cX12_init 1 p s m args meth c) (hr : meth.sig.returnType = none) (hin : meth.name = "<init>") (hW : PW G b 0 307 (mo G b μ1 [.int 0, .null, .null, .null, .null, .int 0, .int 0, .int 0, .int 0, .int 0, .int 0, .int 0, .int 0, .int 0, .int 0, .int 0, .null, .int 0, .null, .null, .null, .null, .null, .int 0, .int 0, .int 0, .int 0, .null, .null, .null, .null, .null, .null, .null, .null, .null, .int 0, .int 0, .int 0, .int 0, .int 0, .null, .null, .null, .int 0, .null, .null, .int 0, .null, .int 0]) s.heap) (hzs : s.heap.size = b + 307) (hl : lv_has ls 1 [(0, .ref (b + 306))]) : W p l e ({ frames := 1, cells := 24, slots := 168791, locals := 20 } : Room) s m args below meth c s.heap [] 0 0 (MQ below (QW (fg G) b (mB μ1) none) args s 24 168791 (fb b)) (F0 m 0 ls []) := by
  have hx := F.1
  have hb := F.2.1
  have hS : va_S (fb (b + 0)) s.heap s.heap [] := va_S.rf
  refine lv_aload_n hx hb dX12_init_0 rfl (lv_at hl 0 rfl) ?_
  refine n_obj F hl.1 q_1466 q_34 q_35 (Nat.le_of_ble_eq_true rfl) (Nat.le_of_ble_eq_true rfl) dX12_init_1 ?_
  refine lv_aload_n hx hb dX12_init_4 rfl (lv_at hl 0 rfl) ?_
  refine lv_sipush (v := (18701 : Int32)) hx hb dX12_init_5 (by decide) ?_
  refine n_newa 1 (atype := .int) (ty := .int) (n := 307) (N := 18701) (a0 := (18701, .inl (fun _ => 0))) rfl rfl (fun _ _ => ra_int) q_137 F hW ⟨by omega, by omega, by omega⟩ hS (fun _ => rfl) (by decide) (by decide) (by decide) ⟨Nat.le_of_ble_eq_true rfl, Nat.le_of_ble_eq_true rfl⟩ dX12_init_8 (fun H hW hS => ?_)
  replace hW := mo_new (by decide) (by rw [wF_24 (show ky 307 = 24 from rfl), m1_z hμ (by decide) (show zc 307 = true from rfl)]; rfl) hW
  refine n_put 12 (t := 306) (n := 308) (v := .ref (b + 307)) rfl inB12 tyX12 tyX12_ok nmX12 F hW ⟨by omega, by omega⟩ mo_k hS 1 (by decide) q_1472 rfl (fun _ => ⟨hin, rfl⟩) rfl rfl rfl (Nat.le_of_ble_eq_true rfl) dX12_init_10 (fun H locs hW hS => ?_)
  replace hW : PW G b 0 308 (mo G b μ1 [.int 0, .ref (b + 307), .null, .null, .null, .int 0, .int 0, .int 0, .int 0, .int 0, .int 0, .int 0, .int 0, .int 0, .int 0, .int 0, .null, .int 0, .null, .null, .null, .null, .null, .int 0, .int 0, .int 0, .int 0, .null, .null, .null, .null, .null, .null, .null, .null, .null, .int 0, .int 0, .int 0, .int 0, .int 0, .null, .null, .null, .int 0, .null, .null, .int 0, .null, .int 0]) H := mo_put hW
  refine lv_aload_n hx hb dX12_init_13 rfl (lv_at hl 0 rfl) ?_
  refine lv_sipush (v := (2460 : Int32)) hx hb dX12_init_14 (by decide) ?_
  refine n_newa 1 (atype := .int) (ty := .int) (n := 308) (N := 2460) (a0 := (2460, .inl (fun _ => 0))) rfl rfl (fun _ _ => ra_int) q_137 F hW ⟨by omega, by omega, by omega⟩ hS (fun _ => rfl) (by decide) (by decide) (by decide) ⟨Nat.le_of_ble_eq_true rfl, Nat.le_of_ble_eq_true rfl⟩ dX12_init_17 (fun H hW hS => ?_)
  replace hW := mo_new (by decide) (by rw [wF_24 (show ky 308 = 24 from rfl), m1_z hμ (by decide) (show zc 308 = true from rfl)]; rfl) hW
  refine n_put 12 (t := 306) (n := 309) (v := .ref (b + 308)) rfl inB12 tyX12 tyX12_ok nmX12 F hW ⟨by omega, by omega⟩ mo_k hS 2 (by decide) q_1473 rfl (fun _ => ⟨hin, rfl⟩) rfl rfl rfl (Nat.le_of_ble_eq_true rfl) dX12_init_19 (fun H locs hW hS => ?_)
  replace hW : PW G b 0 309 (mo G b μ1 [.int 0, .ref (b + 307), .ref (b + 308), .null, .null, .int 0, .int 0, .int 0, .int 0, .int 0, .int 0, .int 0, .int 0, .int 0, .int 0, .int 0, .null, .int 0, .null, .null, .null, .null, .null, .int 0, .int 0, .int 0, .int 0, .null, .null, .null, .null, .null, .null, .null, .null, .null, .int 0, .int 0, .int 0, .int 0, .int 0, .null, .null, .null, .int 0, .null, .null, .int 0, .null, .int 0]) H := mo_put hW
  refine lv_aload_n hx hb dX12_init_22 rfl (lv_at hl 0 rfl) ?_
  refine lv_aload_n hx hb dX12_init_23 rfl (lv_at hl 0 rfl) ?_
  refine n_get 12 (t := 306) (n := 309) (v := .ref (b + 307)) rfl inB12 F hW ⟨by omega, by omega⟩ mo_k 1 (by decide) q_1472 rfl rfl dX12_init_24 ?_
  refine n_put 12 (t := 306) (n := 309) (v := .ref (b + 307)) rfl inB12 tyX12 tyX12_ok nmX12 F hW ⟨by omega, by omega⟩ mo_k hS 3 (by decide) q_1474 rfl (fun h => absurd h (by decide)) rfl rfl rfl (Nat.le_of_ble_eq_true rfl) dX12_init_27 (fun H locs hW hS => ?_)
  replace hW : PW G b 0 309 (mo G b μ1 [.int 0, .ref (b + 307), .ref (b + 308), .ref (b + 307), .null, .int 0, .int 0, .int 0, .int 0, .int 0, .int 0, .int 0, .int 0, .int 0, .int 0, .int 0, .null, .int 0, .null, .null, .null, .null, .null, .int 0, .int 0, .int 0, .int 0, .null, .null, .null, .null, .null, .null, .null, .null, .null, .int 0, .int 0, .int 0, .int 0, .int 0, .null, .null, .null, .int 0, .null, .null, .int 0, .null, .int 0]) H := mo_put hW
  refine lv_aload_n hx hb dX12_init_30 rfl (lv_at hl 0 rfl) ?_
  refine lv_sipush (v := (1100 : Int32)) hx hb dX12_init_31 (by decide) ?_
  refine n_newa 0 (atype := .byte) (ty := .byte) (n := 309) (N := 1100) (a0 := (1100, .inl (fun _ => 0))) rfl rfl (fun _ _ => ra_byte) q_52 F hW ⟨by omega, by omega, by omega⟩ hS (fun _ => rfl) (by decide) (by decide) (by decide) ⟨Nat.le_of_ble_eq_true rfl, Nat.le_of_ble_eq_true rfl⟩ dX12_init_34 (fun H hW hS => ?_)
  replace hW := mo_new (by decide) (by rw [wF_23 (show ky 309 = 23 from rfl), m1_z hμ (by decide) (show zc 309 = true from rfl)]; rfl) hW
  refine n_put 12 (t := 306) (n := 310) (v := .ref (b + 309)) rfl inB12 tyX12 tyX12_ok nmX12 F hW ⟨by omega, by omega⟩ mo_k hS 4 (by decide) q_1475 rfl (fun _ => ⟨hin, rfl⟩) rfl rfl rfl (Nat.le_of_ble_eq_true rfl) dX12_init_36 (fun H locs hW hS => ?_)
  replace hW : PW G b 0 310 (mo G b μ1 [.int 0, .ref (b + 307), .ref (b + 308), .ref (b + 307), .ref (b + 309), .int 0, .int 0, .int 0, .int 0, .int 0, .int 0, .int 0, .int 0, .int 0, .int 0, .int 0, .null, .int 0, .null, .null, .null, .null, .null, .int 0, .int 0, .int 0, .int 0, .null, .null, .null, .null, .null, .null, .null, .null, .null, .int 0, .int 0, .int 0, .int 0, .int 0, .null, .null, .null, .int 0, .null, .null, .int 0, .null, .int 0]) H := mo_put hW
  refine lv_aload_n hx hb dX12_init_39 rfl (lv_at hl 0 rfl) ?_
  refine lv_iconst (v := ((-1) : Int32)) hx hb dX12_init_40 (by decide) ?_
  refine n_put 12 (t := 306) (n := 310) (v := .int (-1)) rfl inB12 tyX12 tyX12_ok nmX12 F hW ⟨by omega, by omega⟩ mo_k hS 12 (by decide) q_1483 rfl (fun h => absurd h (by decide)) rfl rfl rfl (Nat.le_of_ble_eq_true rfl) dX12_init_41 (fun H locs hW hS => ?_)
  replace hW : PW G b 0 310 (mo G b μ1 [.int 0, .ref (b + 307), .ref (b + 308), .ref (b + 307), .ref (b + 309), .int 0, .int 0, .int 0, .int 0, .int 0, .int 0, .int 0, .int (-1), .int 0, .int 0, .int 0, .null, .int 0, .null, .null, .null, .null, .null, .int 0, .int 0, .int 0, .int 0, .null, .null, .null, .null, .null, .null, .null, .null, .null, .int 0, .int 0, .int 0, .int 0, .int 0, .null, .null, .null, .int 0, .null, .null, .int 0, .null, .int 0]) H := mo_put hW
  refine lv_aload_n hx hb dX12_init_44 rfl (lv_at hl 0 rfl) ?_
  refine lv_sipush (v := (16000 : Int32)) hx hb dX12_init_45 (by decide) ?_
  refine n_newa 0 (atype := .byte) (ty := .byte) (n := 310) (N := 16000) (a0 := (16000, .inl (fun _ => 0))) rfl rfl (fun _ _ => ra_byte) q_52 F hW ⟨by omega, by omega, by omega⟩ hS (fun _ => rfl) (by decide) (by decide) (by decide) ⟨Nat.le_of_ble_eq_true rfl, Nat.le_of_ble_eq_true rfl⟩ dX12_init_48 (fun H hW hS => ?_)
  replace hW := mo_new (by decide) (by rw [wF_23 (show ky 310 = 23 from rfl), m1_z hμ (by decide) (show zc 310 = true from rfl)]; rfl) hW
  refine n_put 12 (t := 306) (n := 311) (v := .ref (b + 310)) rfl inB12 tyX12 tyX12_ok nmX12 F hW ⟨by omega, by omega⟩ mo_k hS 16 (by decide) q_1487 rfl (fun _ => ⟨hin, rfl⟩) rfl rfl rfl (Nat.le_of_ble_eq_true rfl) dX12_init_50 (fun H locs hW hS => ?_)
  replace hW : PW G b 0 311 (mo G b μ1 [.int 0, .ref (b + 307), .ref (b + 308), .ref (b + 307), .ref (b + 309), .int 0, .int 0, .int 0, .int 0, .int 0, .int 0, .int 0, .int (-1), .int 0, .int 0, .int 0, .ref (b + 310), .int 0, .null, .null, .null, .null, .null, .int 0, .int 0, .int 0, .int 0, .null, .null, .null, .null, .null, .null, .null, .null, .null, .int 0, .int 0, .int 0, .int 0, .int 0, .null, .null, .null, .int 0, .null, .null, .int 0, .null, .int 0]) H := mo_put hW
  refine lv_aload_n hx hb dX12_init_53 rfl (lv_at hl 0 rfl) ?_
  refine lv_bipush (v := (24 : Int32)) hx hb dX12_init_54 (by decide) ?_
  refine n_newa 1 (atype := .int) (ty := .int) (n := 311) (N := 24) (a0 := (24, .inl (fun _ => 0))) rfl rfl (fun _ _ => ra_int) q_137 F hW ⟨by omega, by omega, by omega⟩ hS (fun _ => rfl) (by decide) (by decide) (by decide) ⟨Nat.le_of_ble_eq_true rfl, Nat.le_of_ble_eq_true rfl⟩ dX12_init_56 (fun H hW hS => ?_)
  replace hW := mo_new (by decide) (by rw [wF_24 (show ky 311 = 24 from rfl), m1_z hμ (by decide) (show zc 311 = true from rfl)]; rfl) hW
  refine n_put 12 (t := 306) (n := 312) (v := .ref (b + 311)) rfl inB12 tyX12 tyX12_ok nmX12 F hW ⟨by omega, by omega⟩ mo_k hS 18 (by decide) q_1489 rfl (fun _ => ⟨hin, rfl⟩) rfl rfl rfl (Nat.le_of_ble_eq_true rfl) dX12_init_58 (fun H locs hW hS => ?_)
  replace hW : PW G b 0 312 (mo G b μ1 [.int 0, .ref (b + 307), .ref (b + 308), .ref (b + 307), .ref (b + 309), .int 0, .int 0, .int 0, .int 0, .int 0, .int 0, .int 0, .int (-1), .int 0, .int 0, .int 0, .ref (b + 310), .int 0, .ref (b + 311), .null, .null, .null, .null, .int 0, .int 0, .int 0, .int 0, .null, .null, .null, .null, .null, .null, .null, .null, .null, .int 0, .int 0, .int 0, .int 0, .int 0, .null, .null, .null, .int 0, .null, .null, .int 0, .null, .int 0]) H := mo_put hW
  refine lv_aload_n hx hb dX12_init_61 rfl (lv_at hl 0 rfl) ?_
  refine lv_bipush (v := (24 : Int32)) hx hb dX12_init_62 (by decide) ?_
  refine n_newa 1 (atype := .int) (ty := .int) (n := 312) (N := 24) (a0 := (24, .inl (fun _ => 0))) rfl rfl (fun _ _ => ra_int) q_137 F hW ⟨by omega, by omega, by omega⟩ hS (fun _ => rfl) (by decide) (by decide) (by decide) ⟨Nat.le_of_ble_eq_true rfl, Nat.le_of_ble_eq_true rfl⟩ dX12_init_64 (fun H hW hS => ?_)
  replace hW := mo_new (by decide) (by rw [wF_24 (show ky 312 = 24 from rfl), m1_z hμ (by decide) (show zc 312 = true from rfl)]; rfl) hW
  refine n_put 12 (t := 306) (n := 313) (v := .ref (b + 312)) rfl inB12 tyX12 tyX12_ok nmX12 F hW ⟨by omega, by omega⟩ mo_k hS 19 (by decide) q_1490 rfl (fun _ => ⟨hin, rfl⟩) rfl rfl rfl (Nat.le_of_ble_eq_true rfl) dX12_init_66 (fun H locs hW hS => ?_)
  replace hW : PW G b 0 313 (mo G b μ1 [.int 0, .ref (b + 307), .ref (b + 308), .ref (b + 307), .ref (b + 309), .int 0, .int 0, .int 0, .int 0, .int 0, .int 0, .int 0, .int (-1), .int 0, .int 0, .int 0, .ref (b + 310), .int 0, .ref (b + 311), .ref (b + 312), .null, .null, .null, .int 0, .int 0, .int 0, .int 0, .null, .null, .null, .null, .null, .null, .null, .null, .null, .int 0, .int 0, .int 0, .int 0, .int 0, .null, .null, .null, .int 0, .null, .null, .int 0, .null, .int 0]) H := mo_put hW
  refine lv_aload_n hx hb dX12_init_69 rfl (lv_at hl 0 rfl) ?_
  refine lv_iconst (v := (4 : Int32)) hx hb dX12_init_70 (by decide) ?_
  refine n_newa 1 (atype := .int) (ty := .int) (n := 313) (N := 4) (a0 := (4, .inl (fun _ => 0))) rfl rfl (fun _ _ => ra_int) q_137 F hW ⟨by omega, by omega, by omega⟩ hS (fun _ => rfl) (by decide) (by decide) (by decide) ⟨Nat.le_of_ble_eq_true rfl, Nat.le_of_ble_eq_true rfl⟩ dX12_init_71 (fun H hW hS => ?_)
  replace hW := mo_new (by decide) (by rw [wF_24 (show ky 313 = 24 from rfl), m1_z hμ (by decide) (show zc 313 = true from rfl)]; rfl) hW
  refine n_put 12 (t := 306) (n := 314) (v := .ref (b + 313)) rfl inB12 tyX12 tyX12_ok nmX12 F hW ⟨by omega, by omega⟩ mo_k hS 20 (by decide) q_1491 rfl (fun _ => ⟨hin, rfl⟩) rfl rfl rfl (Nat.le_of_ble_eq_true rfl) dX12_init_73 (fun H locs hW hS => ?_)
  replace hW : PW G b 0 314 (mo G b μ1 [.int 0, .ref (b + 307), .ref (b + 308), .ref (b + 307), .ref (b + 309), .int 0, .int 0, .int 0, .int 0, .int 0, .int 0, .int 0, .int (-1), .int 0, .int 0, .int 0, .ref (b + 310), .int 0, .ref (b + 311), .ref (b + 312), .ref (b + 313), .null, .null, .int 0, .int 0, .int 0, .int 0, .null, .null, .null, .null, .null, .null, .null, .null, .null, .int 0, .int 0, .int 0, .int 0, .int 0, .null, .null, .null, .int 0, .null, .null, .int 0, .null, .int 0]) H := mo_put hW
  refine lv_aload_n hx hb dX12_init_76 rfl (lv_at hl 0 rfl) ?_
  refine lv_bipush (v := (24 : Int32)) hx hb dX12_init_77 (by decide) ?_
  refine n_newa 1 (atype := .int) (ty := .int) (n := 314) (N := 24) (a0 := (24, .inl (fun _ => 0))) rfl rfl (fun _ _ => ra_int) q_137 F hW ⟨by omega, by omega, by omega⟩ hS (fun _ => rfl) (by decide) (by decide) (by decide) ⟨Nat.le_of_ble_eq_true rfl, Nat.le_of_ble_eq_true rfl⟩ dX12_init_79 (fun H hW hS => ?_)
  replace hW := mo_new (by decide) (by rw [wF_24 (show ky 314 = 24 from rfl), m1_z hμ (by decide) (show zc 314 = true from rfl)]; rfl) hW
  refine n_put 12 (t := 306) (n := 315) (v := .ref (b + 314)) rfl inB12 tyX12 tyX12_ok nmX12 F hW ⟨by omega, by omega⟩ mo_k hS 21 (by decide) q_1492 rfl (fun _ => ⟨hin, rfl⟩) rfl rfl rfl (Nat.le_of_ble_eq_true rfl) dX12_init_81 (fun H locs hW hS => ?_)
  replace hW : PW G b 0 315 (mo G b μ1 [.int 0, .ref (b + 307), .ref (b + 308), .ref (b + 307), .ref (b + 309), .int 0, .int 0, .int 0, .int 0, .int 0, .int 0, .int 0, .int (-1), .int 0, .int 0, .int 0, .ref (b + 310), .int 0, .ref (b + 311), .ref (b + 312), .ref (b + 313), .ref (b + 314), .null, .int 0, .int 0, .int 0, .int 0, .null, .null, .null, .null, .null, .null, .null, .null, .null, .int 0, .int 0, .int 0, .int 0, .int 0, .null, .null, .null, .int 0, .null, .null, .int 0, .null, .int 0]) H := mo_put hW
  refine lv_aload_n hx hb dX12_init_84 rfl (lv_at hl 0 rfl) ?_
  refine lv_bipush (v := (24 : Int32)) hx hb dX12_init_85 (by decide) ?_
  refine n_newa 1 (atype := .int) (ty := .int) (n := 315) (N := 24) (a0 := (24, .inl (fun _ => 0))) rfl rfl (fun _ _ => ra_int) q_137 F hW ⟨by omega, by omega, by omega⟩ hS (fun _ => rfl) (by decide) (by decide) (by decide) ⟨Nat.le_of_ble_eq_true rfl, Nat.le_of_ble_eq_true rfl⟩ dX12_init_87 (fun H hW hS => ?_)
  replace hW := mo_new (by decide) (by rw [wF_24 (show ky 315 = 24 from rfl), m1_z hμ (by decide) (show zc 315 = true from rfl)]; rfl) hW
  refine n_put 12 (t := 306) (n := 316) (v := .ref (b + 315)) rfl inB12 tyX12 tyX12_ok nmX12 F hW ⟨by omega, by omega⟩ mo_k hS 22 (by decide) q_1493 rfl (fun _ => ⟨hin, rfl⟩) rfl rfl rfl (Nat.le_of_ble_eq_true rfl) dX12_init_89 (fun H locs hW hS => ?_)
  replace hW : PW G b 0 316 (mo G b μ1 [.int 0, .ref (b + 307), .ref (b + 308), .ref (b + 307), .ref (b + 309), .int 0, .int 0, .int 0, .int 0, .int 0, .int 0, .int 0, .int (-1), .int 0, .int 0, .int 0, .ref (b + 310), .int 0, .ref (b + 311), .ref (b + 312), .ref (b + 313), .ref (b + 314), .ref (b + 315), .int 0, .int 0, .int 0, .int 0, .null, .null, .null, .null, .null, .null, .null, .null, .null, .int 0, .int 0, .int 0, .int 0, .int 0, .null, .null, .null, .int 0, .null, .null, .int 0, .null, .int 0]) H := mo_put hW
  refine lv_aload_n hx hb dX12_init_92 rfl (lv_at hl 0 rfl) ?_
  refine lv_sipush (v := (240 : Int32)) hx hb dX12_init_93 (by decide) ?_
  refine n_newa 1 (atype := .int) (ty := .int) (n := 316) (N := 240) (a0 := (240, .inl (fun _ => 0))) rfl rfl (fun _ _ => ra_int) q_137 F hW ⟨by omega, by omega, by omega⟩ hS (fun _ => rfl) (by decide) (by decide) (by decide) ⟨Nat.le_of_ble_eq_true rfl, Nat.le_of_ble_eq_true rfl⟩ dX12_init_96 (fun H hW hS => ?_)
  replace hW := mo_new (by decide) (by rw [wF_24 (show ky 316 = 24 from rfl), m1_z hμ (by decide) (show zc 316 = true from rfl)]; rfl) hW
  refine n_put 12 (t := 306) (n := 317) (v := .ref (b + 316)) rfl inB12 tyX12 tyX12_ok nmX12 F hW ⟨by omega, by omega⟩ mo_k hS 27 (by decide) q_1498 rfl (fun _ => ⟨hin, rfl⟩) rfl rfl rfl (Nat.le_of_ble_eq_true rfl) dX12_init_98 (fun H locs hW hS => ?_)
  replace hW : PW G b 0 317 (mo G b μ1 [.int 0, .ref (b + 307), .ref (b + 308), .ref (b + 307), .ref (b + 309), .int 0, .int 0, .int 0, .int 0, .int 0, .int 0, .int 0, .int (-1), .int 0, .int 0, .int 0, .ref (b + 310), .int 0, .ref (b + 311), .ref (b + 312), .ref (b + 313), .ref (b + 314), .ref (b + 315), .int 0, .int 0, .int 0, .int 0, .ref (b + 316), .null, .null, .null, .null, .null, .null, .null, .null, .int 0, .int 0, .int 0, .int 0, .int 0, .null, .null, .null, .int 0, .null, .null, .int 0, .null, .int 0]) H := mo_put hW
  refine lv_aload_n hx hb dX12_init_101 rfl (lv_at hl 0 rfl) ?_
  refine lv_sipush (v := (240 : Int32)) hx hb dX12_init_102 (by decide) ?_
  refine n_newa 1 (atype := .int) (ty := .int) (n := 317) (N := 240) (a0 := (240, .inl (fun _ => 0))) rfl rfl (fun _ _ => ra_int) q_137 F hW ⟨by omega, by omega, by omega⟩ hS (fun _ => rfl) (by decide) (by decide) (by decide) ⟨Nat.le_of_ble_eq_true rfl, Nat.le_of_ble_eq_true rfl⟩ dX12_init_105 (fun H hW hS => ?_)
  replace hW := mo_new (by decide) (by rw [wF_24 (show ky 317 = 24 from rfl), m1_z hμ (by decide) (show zc 317 = true from rfl)]; rfl) hW
  refine n_put 12 (t := 306) (n := 318) (v := .ref (b + 317)) rfl inB12 tyX12 tyX12_ok nmX12 F hW ⟨by omega, by omega⟩ mo_k hS 28 (by decide) q_1499 rfl (fun _ => ⟨hin, rfl⟩) rfl rfl rfl (Nat.le_of_ble_eq_true rfl) dX12_init_107 (fun H locs hW hS => ?_)
  replace hW : PW G b 0 318 (mo G b μ1 [.int 0, .ref (b + 307), .ref (b + 308), .ref (b + 307), .ref (b + 309), .int 0, .int 0, .int 0, .int 0, .int 0, .int 0, .int 0, .int (-1), .int 0, .int 0, .int 0, .ref (b + 310), .int 0, .ref (b + 311), .ref (b + 312), .ref (b + 313), .ref (b + 314), .ref (b + 315), .int 0, .int 0, .int 0, .int 0, .ref (b + 316), .ref (b + 317), .null, .null, .null, .null, .null, .null, .null, .int 0, .int 0, .int 0, .int 0, .int 0, .null, .null, .null, .int 0, .null, .null, .int 0, .null, .int 0]) H := mo_put hW
  refine lv_aload_n hx hb dX12_init_110 rfl (lv_at hl 0 rfl) ?_
  refine lv_sipush (v := (240 : Int32)) hx hb dX12_init_111 (by decide) ?_
  refine n_newa 1 (atype := .int) (ty := .int) (n := 318) (N := 240) (a0 := (240, .inl (fun _ => 0))) rfl rfl (fun _ _ => ra_int) q_137 F hW ⟨by omega, by omega, by omega⟩ hS (fun _ => rfl) (by decide) (by decide) (by decide) ⟨Nat.le_of_ble_eq_true rfl, Nat.le_of_ble_eq_true rfl⟩ dX12_init_114 (fun H hW hS => ?_)
  replace hW := mo_new (by decide) (by rw [wF_24 (show ky 318 = 24 from rfl), m1_z hμ (by decide) (show zc 318 = true from rfl)]; rfl) hW
  refine n_put 12 (t := 306) (n := 319) (v := .ref (b + 318)) rfl inB12 tyX12 tyX12_ok nmX12 F hW ⟨by omega, by omega⟩ mo_k hS 29 (by decide) q_1500 rfl (fun _ => ⟨hin, rfl⟩) rfl rfl rfl (Nat.le_of_ble_eq_true rfl) dX12_init_116 (fun H locs hW hS => ?_)
  replace hW : PW G b 0 319 (mo G b μ1 [.int 0, .ref (b + 307), .ref (b + 308), .ref (b + 307), .ref (b + 309), .int 0, .int 0, .int 0, .int 0, .int 0, .int 0, .int 0, .int (-1), .int 0, .int 0, .int 0, .ref (b + 310), .int 0, .ref (b + 311), .ref (b + 312), .ref (b + 313), .ref (b + 314), .ref (b + 315), .int 0, .int 0, .int 0, .int 0, .ref (b + 316), .ref (b + 317), .ref (b + 318), .null, .null, .null, .null, .null, .null, .int 0, .int 0, .int 0, .int 0, .int 0, .null, .null, .null, .int 0, .null, .null, .int 0, .null, .int 0]) H := mo_put hW
  refine lv_aload_n hx hb dX12_init_119 rfl (lv_at hl 0 rfl) ?_
  refine lv_sipush (v := (240 : Int32)) hx hb dX12_init_120 (by decide) ?_
  refine n_newa 1 (atype := .int) (ty := .int) (n := 319) (N := 240) (a0 := (240, .inl (fun _ => 0))) rfl rfl (fun _ _ => ra_int) q_137 F hW ⟨by omega, by omega, by omega⟩ hS (fun _ => rfl) (by decide) (by decide) (by decide) ⟨Nat.le_of_ble_eq_true rfl, Nat.le_of_ble_eq_true rfl⟩ dX12_init_123 (fun H hW hS => ?_)
  replace hW := mo_new (by decide) (by rw [wF_24 (show ky 319 = 24 from rfl), m1_z hμ (by decide) (show zc 319 = true from rfl)]; rfl) hW
  refine n_put 12 (t := 306) (n := 320) (v := .ref (b + 319)) rfl inB12 tyX12 tyX12_ok nmX12 F hW ⟨by omega, by omega⟩ mo_k hS 30 (by decide) q_1501 rfl (fun _ => ⟨hin, rfl⟩) rfl rfl rfl (Nat.le_of_ble_eq_true rfl) dX12_init_125 (fun H locs hW hS => ?_)
  replace hW : PW G b 0 320 (mo G b μ1 [.int 0, .ref (b + 307), .ref (b + 308), .ref (b + 307), .ref (b + 309), .int 0, .int 0, .int 0, .int 0, .int 0, .int 0, .int 0, .int (-1), .int 0, .int 0, .int 0, .ref (b + 310), .int 0, .ref (b + 311), .ref (b + 312), .ref (b + 313), .ref (b + 314), .ref (b + 315), .int 0, .int 0, .int 0, .int 0, .ref (b + 316), .ref (b + 317), .ref (b + 318), .ref (b + 319), .null, .null, .null, .null, .null, .int 0, .int 0, .int 0, .int 0, .int 0, .null, .null, .null, .int 0, .null, .null, .int 0, .null, .int 0]) H := mo_put hW
  refine lv_aload_n hx hb dX12_init_128 rfl (lv_at hl 0 rfl) ?_
  refine lv_sipush (v := (240 : Int32)) hx hb dX12_init_129 (by decide) ?_
  refine n_newa 1 (atype := .int) (ty := .int) (n := 320) (N := 240) (a0 := (240, .inl (fun _ => 0))) rfl rfl (fun _ _ => ra_int) q_137 F hW ⟨by omega, by omega, by omega⟩ hS (fun _ => rfl) (by decide) (by decide) (by decide) ⟨Nat.le_of_ble_eq_true rfl, Nat.le_of_ble_eq_true rfl⟩ dX12_init_132 (fun H hW hS => ?_)
  replace hW := mo_new (by decide) (by rw [wF_24 (show ky 320 = 24 from rfl), m1_z hμ (by decide) (show zc 320 = true from rfl)]; rfl) hW
  refine n_put 12 (t := 306) (n := 321) (v := .ref (b + 320)) rfl inB12 tyX12 tyX12_ok nmX12 F hW ⟨by omega, by omega⟩ mo_k hS 31 (by decide) q_1502 rfl (fun _ => ⟨hin, rfl⟩) rfl rfl rfl (Nat.le_of_ble_eq_true rfl) dX12_init_134 (fun H locs hW hS => ?_)
  replace hW : PW G b 0 321 (mo G b μ1 [.int 0, .ref (b + 307), .ref (b + 308), .ref (b + 307), .ref (b + 309), .int 0, .int 0, .int 0, .int 0, .int 0, .int 0, .int 0, .int (-1), .int 0, .int 0, .int 0, .ref (b + 310), .int 0, .ref (b + 311), .ref (b + 312), .ref (b + 313), .ref (b + 314), .ref (b + 315), .int 0, .int 0, .int 0, .int 0, .ref (b + 316), .ref (b + 317), .ref (b + 318), .ref (b + 319), .ref (b + 320), .null, .null, .null, .null, .int 0, .int 0, .int 0, .int 0, .int 0, .null, .null, .null, .int 0, .null, .null, .int 0, .null, .int 0]) H := mo_put hW
  refine lv_aload_n hx hb dX12_init_137 rfl (lv_at hl 0 rfl) ?_
  refine lv_sipush (v := (240 : Int32)) hx hb dX12_init_138 (by decide) ?_
  refine n_newa 3 (atype := .boolean) (ty := .boolean) (n := 321) (N := 240) (a0 := (240, .inl (fun _ => 0))) rfl rfl (fun _ _ => ra_bool) q_1622 F hW ⟨by omega, by omega, by omega⟩ hS (fun _ => rfl) (by decide) (by decide) (by decide) ⟨Nat.le_of_ble_eq_true rfl, Nat.le_of_ble_eq_true rfl⟩ dX12_init_141 (fun H hW hS => ?_)
  replace hW := mo_new (by decide) (by rw [wF_16 (show ky 321 = 16 from rfl), m1_z hμ (by decide) (show zc 321 = true from rfl)]; rfl) hW
  refine n_put 12 (t := 306) (n := 322) (v := .ref (b + 321)) rfl inB12 tyX12 tyX12_ok nmX12 F hW ⟨by omega, by omega⟩ mo_k hS 32 (by decide) q_1503 rfl (fun _ => ⟨hin, rfl⟩) rfl rfl rfl (Nat.le_of_ble_eq_true rfl) dX12_init_143 (fun H locs hW hS => ?_)
  replace hW : PW G b 0 322 (mo G b μ1 [.int 0, .ref (b + 307), .ref (b + 308), .ref (b + 307), .ref (b + 309), .int 0, .int 0, .int 0, .int 0, .int 0, .int 0, .int 0, .int (-1), .int 0, .int 0, .int 0, .ref (b + 310), .int 0, .ref (b + 311), .ref (b + 312), .ref (b + 313), .ref (b + 314), .ref (b + 315), .int 0, .int 0, .int 0, .int 0, .ref (b + 316), .ref (b + 317), .ref (b + 318), .ref (b + 319), .ref (b + 320), .ref (b + 321), .null, .null, .null, .int 0, .int 0, .int 0, .int 0, .int 0, .null, .null, .null, .int 0, .null, .null, .int 0, .null, .int 0]) H := mo_put hW
  refine lv_aload_n hx hb dX12_init_146 rfl (lv_at hl 0 rfl) ?_
  refine lv_sipush (v := (240 : Int32)) hx hb dX12_init_147 (by decide) ?_
  refine n_newa 1 (atype := .int) (ty := .int) (n := 322) (N := 240) (a0 := (240, .inl (fun _ => 0))) rfl rfl (fun _ _ => ra_int) q_137 F hW ⟨by omega, by omega, by omega⟩ hS (fun _ => rfl) (by decide) (by decide) (by decide) ⟨Nat.le_of_ble_eq_true rfl, Nat.le_of_ble_eq_true rfl⟩ dX12_init_150 (fun H hW hS => ?_)
  replace hW := mo_new (by decide) (by rw [wF_24 (show ky 322 = 24 from rfl), m1_z hμ (by decide) (show zc 322 = true from rfl)]; rfl) hW
  refine n_put 12 (t := 306) (n := 323) (v := .ref (b + 322)) rfl inB12 tyX12 tyX12_ok nmX12 F hW ⟨by omega, by omega⟩ mo_k hS 33 (by decide) q_1504 rfl (fun _ => ⟨hin, rfl⟩) rfl rfl rfl (Nat.le_of_ble_eq_true rfl) dX12_init_152 (fun H locs hW hS => ?_)
  replace hW : PW G b 0 323 (mo G b μ1 [.int 0, .ref (b + 307), .ref (b + 308), .ref (b + 307), .ref (b + 309), .int 0, .int 0, .int 0, .int 0, .int 0, .int 0, .int 0, .int (-1), .int 0, .int 0, .int 0, .ref (b + 310), .int 0, .ref (b + 311), .ref (b + 312), .ref (b + 313), .ref (b + 314), .ref (b + 315), .int 0, .int 0, .int 0, .int 0, .ref (b + 316), .ref (b + 317), .ref (b + 318), .ref (b + 319), .ref (b + 320), .ref (b + 321), .ref (b + 322), .null, .null, .int 0, .int 0, .int 0, .int 0, .int 0, .null, .null, .null, .int 0, .null, .null, .int 0, .null, .int 0]) H := mo_put hW
  refine lv_aload_n hx hb dX12_init_155 rfl (lv_at hl 0 rfl) ?_
  refine lv_sipush (v := (240 : Int32)) hx hb dX12_init_156 (by decide) ?_
  refine n_newa 1 (atype := .int) (ty := .int) (n := 323) (N := 240) (a0 := (240, .inl (fun _ => 0))) rfl rfl (fun _ _ => ra_int) q_137 F hW ⟨by omega, by omega, by omega⟩ hS (fun _ => rfl) (by decide) (by decide) (by decide) ⟨Nat.le_of_ble_eq_true rfl, Nat.le_of_ble_eq_true rfl⟩ dX12_init_159 (fun H hW hS => ?_)
  replace hW := mo_new (by decide) (by rw [wF_24 (show ky 323 = 24 from rfl), m1_z hμ (by decide) (show zc 323 = true from rfl)]; rfl) hW
  refine n_put 12 (t := 306) (n := 324) (v := .ref (b + 323)) rfl inB12 tyX12 tyX12_ok nmX12 F hW ⟨by omega, by omega⟩ mo_k hS 34 (by decide) q_1505 rfl (fun _ => ⟨hin, rfl⟩) rfl rfl rfl (Nat.le_of_ble_eq_true rfl) dX12_init_161 (fun H locs hW hS => ?_)
  replace hW : PW G b 0 324 (mo G b μ1 [.int 0, .ref (b + 307), .ref (b + 308), .ref (b + 307), .ref (b + 309), .int 0, .int 0, .int 0, .int 0, .int 0, .int 0, .int 0, .int (-1), .int 0, .int 0, .int 0, .ref (b + 310), .int 0, .ref (b + 311), .ref (b + 312), .ref (b + 313), .ref (b + 314), .ref (b + 315), .int 0, .int 0, .int 0, .int 0, .ref (b + 316), .ref (b + 317), .ref (b + 318), .ref (b + 319), .ref (b + 320), .ref (b + 321), .ref (b + 322), .ref (b + 323), .null, .int 0, .int 0, .int 0, .int 0, .int 0, .null, .null, .null, .int 0, .null, .null, .int 0, .null, .int 0]) H := mo_put hW
  refine lv_aload_n hx hb dX12_init_164 rfl (lv_at hl 0 rfl) ?_
  refine lv_bipush (v := (24 : Int32)) hx hb dX12_init_165 (by decide) ?_
  refine n_newa 1 (atype := .int) (ty := .int) (n := 324) (N := 24) (a0 := (24, .inl (fun _ => 0))) rfl rfl (fun _ _ => ra_int) q_137 F hW ⟨by omega, by omega, by omega⟩ hS (fun _ => rfl) (by decide) (by decide) (by decide) ⟨Nat.le_of_ble_eq_true rfl, Nat.le_of_ble_eq_true rfl⟩ dX12_init_167 (fun H hW hS => ?_)
  replace hW := mo_new (by decide) (by rw [wF_24 (show ky 324 = 24 from rfl), m1_z hμ (by decide) (show zc 324 = true from rfl)]; rfl) hW
  refine n_put 12 (t := 306) (n := 325) (v := .ref (b + 324)) rfl inB12 tyX12 tyX12_ok nmX12 F hW ⟨by omega, by omega⟩ mo_k hS 35 (by decide) q_1506 rfl (fun _ => ⟨hin, rfl⟩) rfl rfl rfl (Nat.le_of_ble_eq_true rfl) dX12_init_169 (fun H locs hW hS => ?_)
  replace hW : PW G b 0 325 (mo G b μ1 [.int 0, .ref (b + 307), .ref (b + 308), .ref (b + 307), .ref (b + 309), .int 0, .int 0, .int 0, .int 0, .int 0, .int 0, .int 0, .int (-1), .int 0, .int 0, .int 0, .ref (b + 310), .int 0, .ref (b + 311), .ref (b + 312), .ref (b + 313), .ref (b + 314), .ref (b + 315), .int 0, .int 0, .int 0, .int 0, .ref (b + 316), .ref (b + 317), .ref (b + 318), .ref (b + 319), .ref (b + 320), .ref (b + 321), .ref (b + 322), .ref (b + 323), .ref (b + 324), .int 0, .int 0, .int 0, .int 0, .int 0, .null, .null, .null, .int 0, .null, .null, .int 0, .null, .int 0]) H := mo_put hW
  refine lv_aload_n hx hb dX12_init_172 rfl (lv_at hl 0 rfl) ?_
  refine lv_bipush (v := (32 : Int32)) hx hb dX12_init_173 (by decide) ?_
  refine n_newa 1 (atype := .int) (ty := .int) (n := 325) (N := 32) (a0 := (32, .inl (fun _ => 0))) rfl rfl (fun _ _ => ra_int) q_137 F hW ⟨by omega, by omega, by omega⟩ hS (fun _ => rfl) (by decide) (by decide) (by decide) ⟨Nat.le_of_ble_eq_true rfl, Nat.le_of_ble_eq_true rfl⟩ dX12_init_175 (fun H hW hS => ?_)
  replace hW := mo_new (by decide) (by rw [wF_24 (show ky 325 = 24 from rfl), m1_z hμ (by decide) (show zc 325 = true from rfl)]; rfl) hW
  refine n_put 12 (t := 306) (n := 326) (v := .ref (b + 325)) rfl inB12 tyX12 tyX12_ok nmX12 F hW ⟨by omega, by omega⟩ mo_k hS 41 (by decide) q_1512 rfl (fun _ => ⟨hin, rfl⟩) rfl rfl rfl (Nat.le_of_ble_eq_true rfl) dX12_init_177 (fun H locs hW hS => ?_)
  replace hW : PW G b 0 326 (mo G b μ1 [.int 0, .ref (b + 307), .ref (b + 308), .ref (b + 307), .ref (b + 309), .int 0, .int 0, .int 0, .int 0, .int 0, .int 0, .int 0, .int (-1), .int 0, .int 0, .int 0, .ref (b + 310), .int 0, .ref (b + 311), .ref (b + 312), .ref (b + 313), .ref (b + 314), .ref (b + 315), .int 0, .int 0, .int 0, .int 0, .ref (b + 316), .ref (b + 317), .ref (b + 318), .ref (b + 319), .ref (b + 320), .ref (b + 321), .ref (b + 322), .ref (b + 323), .ref (b + 324), .int 0, .int 0, .int 0, .int 0, .int 0, .ref (b + 325), .null, .null, .int 0, .null, .null, .int 0, .null, .int 0]) H := mo_put hW
  refine lv_aload_n hx hb dX12_init_180 rfl (lv_at hl 0 rfl) ?_
  refine lv_bipush (v := (32 : Int32)) hx hb dX12_init_181 (by decide) ?_
  refine n_newa 1 (atype := .int) (ty := .int) (n := 326) (N := 32) (a0 := (32, .inl (fun _ => 0))) rfl rfl (fun _ _ => ra_int) q_137 F hW ⟨by omega, by omega, by omega⟩ hS (fun _ => rfl) (by decide) (by decide) (by decide) ⟨Nat.le_of_ble_eq_true rfl, Nat.le_of_ble_eq_true rfl⟩ dX12_init_183 (fun H hW hS => ?_)
  replace hW := mo_new (by decide) (by rw [wF_24 (show ky 326 = 24 from rfl), m1_z hμ (by decide) (show zc 326 = true from rfl)]; rfl) hW
  refine n_put 12 (t := 306) (n := 327) (v := .ref (b + 326)) rfl inB12 tyX12 tyX12_ok nmX12 F hW ⟨by omega, by omega⟩ mo_k hS 42 (by decide) q_1513 rfl (fun _ => ⟨hin, rfl⟩) rfl rfl rfl (Nat.le_of_ble_eq_true rfl) dX12_init_185 (fun H locs hW hS => ?_)
  replace hW : PW G b 0 327 (mo G b μ1 [.int 0, .ref (b + 307), .ref (b + 308), .ref (b + 307), .ref (b + 309), .int 0, .int 0, .int 0, .int 0, .int 0, .int 0, .int 0, .int (-1), .int 0, .int 0, .int 0, .ref (b + 310), .int 0, .ref (b + 311), .ref (b + 312), .ref (b + 313), .ref (b + 314), .ref (b + 315), .int 0, .int 0, .int 0, .int 0, .ref (b + 316), .ref (b + 317), .ref (b + 318), .ref (b + 319), .ref (b + 320), .ref (b + 321), .ref (b + 322), .ref (b + 323), .ref (b + 324), .int 0, .int 0, .int 0, .int 0, .int 0, .ref (b + 325), .ref (b + 326), .null, .int 0, .null, .null, .int 0, .null, .int 0]) H := mo_put hW
  refine lv_aload_n hx hb dX12_init_188 rfl (lv_at hl 0 rfl) ?_
  refine lv_sipush (v := (192 : Int32)) hx hb dX12_init_189 (by decide) ?_
  refine n_newa 1 (atype := .int) (ty := .int) (n := 327) (N := 192) (a0 := (192, .inl (fun _ => 0))) rfl rfl (fun _ _ => ra_int) q_137 F hW ⟨by omega, by omega, by omega⟩ hS (fun _ => rfl) (by decide) (by decide) (by decide) ⟨Nat.le_of_ble_eq_true rfl, Nat.le_of_ble_eq_true rfl⟩ dX12_init_192 (fun H hW hS => ?_)
  replace hW := mo_new (by decide) (by rw [wF_24 (show ky 327 = 24 from rfl), m1_z hμ (by decide) (show zc 327 = true from rfl)]; rfl) hW
  refine n_put 12 (t := 306) (n := 328) (v := .ref (b + 327)) rfl inB12 tyX12 tyX12_ok nmX12 F hW ⟨by omega, by omega⟩ mo_k hS 43 (by decide) q_1514 rfl (fun _ => ⟨hin, rfl⟩) rfl rfl rfl (Nat.le_of_ble_eq_true rfl) dX12_init_194 (fun H locs hW hS => ?_)
  replace hW : PW G b 0 328 (mo G b μ1 [.int 0, .ref (b + 307), .ref (b + 308), .ref (b + 307), .ref (b + 309), .int 0, .int 0, .int 0, .int 0, .int 0, .int 0, .int 0, .int (-1), .int 0, .int 0, .int 0, .ref (b + 310), .int 0, .ref (b + 311), .ref (b + 312), .ref (b + 313), .ref (b + 314), .ref (b + 315), .int 0, .int 0, .int 0, .int 0, .ref (b + 316), .ref (b + 317), .ref (b + 318), .ref (b + 319), .ref (b + 320), .ref (b + 321), .ref (b + 322), .ref (b + 323), .ref (b + 324), .int 0, .int 0, .int 0, .int 0, .int 0, .ref (b + 325), .ref (b + 326), .ref (b + 327), .int 0, .null, .null, .int 0, .null, .int 0]) H := mo_put hW
  refine lv_aload_n hx hb dX12_init_197 rfl (lv_at hl 0 rfl) ?_
  refine lv_bipush (v := (24 : Int32)) hx hb dX12_init_198 (by decide) ?_
  refine n_newa 1 (atype := .int) (ty := .int) (n := 328) (N := 24) (a0 := (24, .inl (fun _ => 0))) rfl rfl (fun _ _ => ra_int) q_137 F hW ⟨by omega, by omega, by omega⟩ hS (fun _ => rfl) (by decide) (by decide) (by decide) ⟨Nat.le_of_ble_eq_true rfl, Nat.le_of_ble_eq_true rfl⟩ dX12_init_200 (fun H hW hS => ?_)
  replace hW := mo_new (by decide) (by rw [wF_24 (show ky 328 = 24 from rfl), m1_z hμ (by decide) (show zc 328 = true from rfl)]; rfl) hW
  refine n_put 12 (t := 306) (n := 329) (v := .ref (b + 328)) rfl inB12 tyX12 tyX12_ok nmX12 F hW ⟨by omega, by omega⟩ mo_k hS 45 (by decide) q_1516 rfl (fun _ => ⟨hin, rfl⟩) rfl rfl rfl (Nat.le_of_ble_eq_true rfl) dX12_init_202 (fun H locs hW hS => ?_)
  replace hW : PW G b 0 329 (mo G b μ1 [.int 0, .ref (b + 307), .ref (b + 308), .ref (b + 307), .ref (b + 309), .int 0, .int 0, .int 0, .int 0, .int 0, .int 0, .int 0, .int (-1), .int 0, .int 0, .int 0, .ref (b + 310), .int 0, .ref (b + 311), .ref (b + 312), .ref (b + 313), .ref (b + 314), .ref (b + 315), .int 0, .int 0, .int 0, .int 0, .ref (b + 316), .ref (b + 317), .ref (b + 318), .ref (b + 319), .ref (b + 320), .ref (b + 321), .ref (b + 322), .ref (b + 323), .ref (b + 324), .int 0, .int 0, .int 0, .int 0, .int 0, .ref (b + 325), .ref (b + 326), .ref (b + 327), .int 0, .ref (b + 328), .null, .int 0, .null, .int 0]) H := mo_put hW
  refine lv_aload_n hx hb dX12_init_205 rfl (lv_at hl 0 rfl) ?_
  refine lv_ldc hx hb F.2.2.2.1 (F.2.2.2.2.1 _ q_1467) dX12_init_206 ?_
  refine n_newa 1 (atype := .int) (ty := .int) (n := 329) (N := 112206) (a0 := (112206, .inl (fun _ => 0))) rfl rfl (fun _ _ => ra_int) q_137 F hW ⟨by omega, by omega, by omega⟩ hS (fun _ => rfl) (by decide) (by decide) (by decide) ⟨Nat.le_of_ble_eq_true rfl, Nat.le_of_ble_eq_true rfl⟩ dX12_init_208 (fun H hW hS => ?_)
  replace hW := mo_new (by decide) (by rw [wF_24 (show ky 329 = 24 from rfl), m1_z hμ (by decide) (show zc 329 = true from rfl)]; rfl) hW
  refine n_put 12 (t := 306) (n := 330) (v := .ref (b + 329)) rfl inB12 tyX12 tyX12_ok nmX12 F hW ⟨by omega, by omega⟩ mo_k hS 46 (by decide) q_1517 rfl (fun _ => ⟨hin, rfl⟩) rfl rfl rfl (Nat.le_of_ble_eq_true rfl) dX12_init_210 (fun H locs hW hS => ?_)
  replace hW : PW G b 0 330 (mo G b μ1 [.int 0, .ref (b + 307), .ref (b + 308), .ref (b + 307), .ref (b + 309), .int 0, .int 0, .int 0, .int 0, .int 0, .int 0, .int 0, .int (-1), .int 0, .int 0, .int 0, .ref (b + 310), .int 0, .ref (b + 311), .ref (b + 312), .ref (b + 313), .ref (b + 314), .ref (b + 315), .int 0, .int 0, .int 0, .int 0, .ref (b + 316), .ref (b + 317), .ref (b + 318), .ref (b + 319), .ref (b + 320), .ref (b + 321), .ref (b + 322), .ref (b + 323), .ref (b + 324), .int 0, .int 0, .int 0, .int 0, .int 0, .ref (b + 325), .ref (b + 326), .ref (b + 327), .int 0, .ref (b + 328), .ref (b + 329), .int 0, .null, .int 0]) H := mo_put hW
  refine lv_aload_n hx hb dX12_init_213 rfl (lv_at hl 0 rfl) ?_
  refine lv_sipush (v := (16000 : Int32)) hx hb dX12_init_214 (by decide) ?_
  refine n_newa 0 (atype := .byte) (ty := .byte) (n := 330) (N := 16000) (a0 := (16000, .inl (fun _ => 0))) rfl rfl (fun _ _ => ra_byte) q_52 F hW ⟨by omega, by omega, by omega⟩ hS (fun _ => rfl) (by decide) (by decide) (by decide) ⟨Nat.le_of_ble_eq_true rfl, Nat.le_of_ble_eq_true rfl⟩ dX12_init_217 (fun H hW hS => ?_)
  replace hW := mo_new (by decide) (by rw [wF_23 (show ky 330 = 23 from rfl), m1_z hμ (by decide) (show zc 330 = true from rfl)]; rfl) hW
  refine n_put 12 (t := 306) (n := 331) (v := .ref (b + 330)) rfl inB12 tyX12 tyX12_ok nmX12 F hW ⟨by omega, by omega⟩ mo_k hS 48 (by decide) q_1519 rfl (fun _ => ⟨hin, rfl⟩) rfl rfl rfl (Nat.le_of_ble_eq_true rfl) dX12_init_219 (fun H locs hW hS => ?_)
  replace hW : PW G b 0 331 (mo G b μ1 [.int 0, .ref (b + 307), .ref (b + 308), .ref (b + 307), .ref (b + 309), .int 0, .int 0, .int 0, .int 0, .int 0, .int 0, .int 0, .int (-1), .int 0, .int 0, .int 0, .ref (b + 310), .int 0, .ref (b + 311), .ref (b + 312), .ref (b + 313), .ref (b + 314), .ref (b + 315), .int 0, .int 0, .int 0, .int 0, .ref (b + 316), .ref (b + 317), .ref (b + 318), .ref (b + 319), .ref (b + 320), .ref (b + 321), .ref (b + 322), .ref (b + 323), .ref (b + 324), .int 0, .int 0, .int 0, .int 0, .int 0, .ref (b + 325), .ref (b + 326), .ref (b + 327), .int 0, .ref (b + 328), .ref (b + 329), .int 0, .ref (b + 330), .int 0]) H := mo_put hW
  have hff : wF G b μ1 306 = .inr (12, [.int 0, .ref (b + 307), .ref (b + 308), .ref (b + 307), .ref (b + 309), .int 0, .int 0, .int 0, .int 0, .int 0, .int 0, .int 0, .int (-1), .int 0, .int 0, .int 0, .ref (b + 310), .int 0, .ref (b + 311), .ref (b + 312), .ref (b + 313), .ref (b + 314), .ref (b + 315), .int 0, .int 0, .int 0, .int 0, .ref (b + 316), .ref (b + 317), .ref (b + 318), .ref (b + 319), .ref (b + 320), .ref (b + 321), .ref (b + 322), .ref (b + 323), .ref (b + 324), .int 0, .int 0, .int 0, .int 0, .int 0, .ref (b + 325), .ref (b + 326), .ref (b + 327), .int 0, .ref (b + 328), .ref (b + 329), .int 0, .ref (b + 330), .int 0]) := by
    rw [wF_12 kyf_306]
    have e : ∀ j, μ1.1 306 j = mS.1 306 j := fun j => hμ.2 306 j (by show ¬ (38 ≤ 306 ∧ 306 < 38 + 42); omega)
    simp only [fl12, e, hμ.1]
    rfl
  have hH : WH (fg G) b μ1 H := by
    refine ⟨fun i hi => ?_, by rw [hμ.1]; exact Or.inl rfl, by rw [hμ.1]; exact ⟨rfl, rfl⟩⟩
    have hi : i < 331 := by rw [nn_fg, hn0] at hi; exact hi
    have h := hW i (Nat.zero_le i) hi
    rw [show mo G b μ1 _ = wF G b μ1 from up_id hff] at h
    exact h
  have F := FX_fg F
  replace hS : va_S (fb b) s.heap H locs := hS
  have hW := hH
  have r0 : μ1.2.2 0 = 307 := by rw [hμ.1]; rfl
  refine lv_aload_n hx hb dX12_init_222 rfl (lv_at hl 0 rfl) ?_
  refine fl_get12 (v := .ref (b + 307)) kyf_306 F hW 1 (by decide) q_1472 rfl rfl dX12_init_223 ?_
  refine k_X12_begin (a0 := 307) F rfl h q_1468 ⟨by decide, by decide, Nat.le_of_ble_eq_true rfl, Nat.le_of_ble_eq_true rfl⟩ hW hS hl.1 (Nat.le_of_ble_eq_true rfl) dX12_init_226 (fun H locs hW hS => ?_)
  refine lv_aload_n hx hb dX12_init_229 rfl (lv_at hl 0 rfl) ?_
  refine fl_get12 (v := .ref (b + 307)) kyf_306 F hW 1 (by decide) q_1472 rfl rfl dX12_init_230 ?_
  refine lv_iconst (v := (0 : Int32)) hx hb dX12_init_233 (by decide) ?_
  refine lv_bipush (v := (60 : Int32)) hx hb dX12_init_234 (by decide) ?_
  refine fm_iast (μ' := sI _ 307 0 60) (show ky 307 = 24 from rfl) F hW hS rfl dX12_init_236 (fun H locs hW hS => ?_)
  refine lv_aload_n hx hb dX12_init_237 rfl (lv_at hl 0 rfl) ?_
  refine fl_get12 (v := .ref (b + 307)) kyf_306 F hW 1 (by decide) q_1472 rfl rfl dX12_init_238 ?_
  refine lv_iconst (v := (1 : Int32)) hx hb dX12_init_241 (by decide) ?_
  refine lv_bipush (v := (40 : Int32)) hx hb dX12_init_242 (by decide) ?_
  refine fm_iast (μ' := sI _ 307 1 40) (show ky 307 = 24 from rfl) F hW hS rfl dX12_init_244 (fun H locs hW hS => ?_)
  refine lv_aload_n hx hb dX12_init_245 rfl (lv_at hl 0 rfl) ?_
  refine fl_get12 (v := .ref (b + 307)) kyf_306 F hW 1 (by decide) q_1472 rfl rfl dX12_init_246 ?_
  refine lv_iconst (v := (2 : Int32)) hx hb dX12_init_249 (by decide) ?_
  refine lv_bipush (v := (40 : Int32)) hx hb dX12_init_250 (by decide) ?_
  refine fm_iast (μ' := sI _ 307 2 40) (show ky 307 = 24 from rfl) F hW hS rfl dX12_init_252 (fun H locs hW hS => ?_)
  exact r_void F hr (by rw [he] at hW; exact hW) hS dX12_init_253
set_option maxHeartbeats 4000000 in
theorem c_X12_new {μ2 : Mm} (hn0 : G.2.2.2 13 = 0) (hμ : Fm (PLy 38) mS μ1) (h : sh_X12_begin 307 μ1 = some μ2) (he : sI (sI (sI μ2 307 0 60) 307 1 40) 307 2 40 = mB μ1) : Met l yX12_init (wU (Cond.code yX12_init cX12_init 1 none)) ({ frames := 1, cells := 24, slots := 168791, locals := 20 } : Room) (PcG G b 0 307 (mo G b μ1 [.int 0, .null, .null, .null, .null, .int 0, .int 0, .int 0, .int 0, .int 0, .int 0, .int 0, .int 0, .int 0, .int 0, .int 0, .null, .int 0, .null, .null, .null, .null, .null, .int 0, .int 0, .int 0, .int 0, .null, .null, .null, .null, .null, .null, .null, .null, .null, .int 0, .int 0, .int 0, .int 0, .int 0, .null, .null, .null, .int 0, .null, .null, .int 0, .null, .int 0]) [.ref (b + 306)]) (QW (fg G) b (mB μ1) none) 24 168791 (fb b) :=
  gmet_of [.ref (b + 306)] (by decide) (Nat.le_of_ble_eq_true rfl) (fun F hr hin hW hzs hl => wk_X12_new hn0 hμ h he F hr hin hW hzs hl)
end NEW5
