/-! CONSTRUCTORS: all that holds rows and books -/
/-- cells [k, k + w) as they will be, but the object at k, still in the making -/
def cu (G : Gt) (b : Nat) (E : Nat → va_E) (k w c : Nat) (fs : List Value) : Nat → va_E := up (ov G b E k w) k (.inr (c, fs))
theorem cu_k {G : Gt} {b : Nat} {E : Nat → va_E} {k w c : Nat} {fs : List Value} : cu G b E k w c fs k = .inr (c, fs) := up_s
theorem cu_lt {G : Gt} {b : Nat} {E : Nat → va_E} {k w c i : Nat} {fs : List Value} (h : i < k) : cu G b E k w c fs i = E i := by
  unfold cu ov
  rw [up_n (by omega), if_neg (by omega)]
theorem cu_1 {G : Gt} {b : Nat} {E : Nat → va_E} {k c : Nat} {fs : List Value} {H : Heap} (hW : PW G b k (k + 1) E H) (hE : E k = .inr (c, fs)) : PW G b k (k + 1) (cu G b E k 1 c fs) H := hW.cong (fun i h1 h2 => by
  obtain rfl : i = k := by omega
  rw [cu_k, hE])
theorem cu_put {G : Gt} {b : Nat} {E : Nat → va_E} {k w n c : Nat} {fs fs' : List Value} {H : Heap} (hW : PW G b k n (up (cu G b E k w c fs) k (.inr (c, fs'))) H) : PW G b k n (cu G b E k w c fs') H := by
  unfold cu at hW
  rw [up_up] at hW
  exact hW
theorem cu_in {G : Gt} {b : Nat} {E : Nat → va_E} {k w c i : Nat} {fs : List Value} (h1 : k < i) (h2 : i < k + w) : cu G b E k w c fs i = wF G b mS i := by
  unfold cu ov
  rw [up_n (by omega), if_pos (by omega)]
theorem cu_row {G : Gt} {b : Nat} {E : Nat → va_E} {k w c N : Nat} {fs : List Value} {x : va_E} {H : Heap} (hw : 1 ≤ w) (hr : rwOk (k + w) N) (hW : PW G b k (k + w + 2) (rowE G b (up (cu G b E k w c fs) (k + w) x) (k + w) 5 [.ref (b + (k + w + 1))] (.inl (G.2.1 1, N, .inl (fun _ => 0)))) H) : PW G b k (k + (w + 2)) (cu G b E k (w + 2) c fs) H := hW.cong (fun i h1 h2 => by
  rcases Nat.lt_or_ge i (k + w) with h3 | h3
  · rw [rowE_n h3, up_n (by omega)]
    rcases Nat.lt_or_ge k i with h4 | h4
    · rw [cu_in h4 (by omega), cu_in h4 h3]
    · obtain rfl : i = k := by omega
      rw [cu_k, cu_k]
  · rw [cu_in (by omega) (by omega)]
    rcases (show i = k + w ∨ i = k + w + 1 by omega) with rfl | rfl
    · rw [rw_0 hr]
      unfold rowE
      rw [up_s]
    · rw [rw_1 hr]
      unfold rowE
      rw [up_n (by omega), up_s])
theorem cu_wrow {G : Gt} {b : Nat} {E : Nat → va_E} {k w c N : Nat} {fs : List Value} {x : va_E} {H : Heap} (hw : 1 ≤ w) (hr : wrOk (k + w) N) (hW : PW G b k (k + w + 2) (rowE G b (up (cu G b E k w c fs) (k + w) x) (k + w) 9 [.ref (b + (k + w + 1))] (.inl (G.2.1 2, N, .inr (.inl (fun _ => 0))))) H) : PW G b k (k + (w + 2)) (cu G b E k (w + 2) c fs) H := hW.cong (fun i h1 h2 => by
  rcases Nat.lt_or_ge i (k + w) with h3 | h3
  · rw [rowE_n h3, up_n (by omega)]
    rcases Nat.lt_or_ge k i with h4 | h4
    · rw [cu_in h4 (by omega), cu_in h4 h3]
    · obtain rfl : i = k := by omega
      rw [cu_k, cu_k]
  · rw [cu_in (by omega) (by omega)]
    rcases (show i = k + w ∨ i = k + w + 1 by omega) with rfl | rfl
    · rw [wr_0 hr]
      unfold rowE
      rw [up_s]
    · rw [wr_1 hr]
      unfold rowE
      rw [up_n (by omega), up_s])
def txOk (k N : Nat) : Prop := (ky k = 8 ∧ zc k = true) ∧ ky (k + 1) = 13 ∧ ln (k + 1) = N ∧ zc (k + 1) = true
theorem tx_0 {G : Gt} {b k N : Nat} (h : txOk k N) : wF G b mS k = .inr (8, [.ref (b + (k + 1)), .int 0]) := by
  rw [wF_8 h.1.1]
  simp only [fl8, zc_z h.1.2]
theorem tx_1 {G : Gt} {b k N : Nat} (h : txOk k N) : wF G b mS (k + 1) = .inl (G.2.1 0, N, .inl (fun _ => 0)) := by rw [wF_13 h.2.1, h.2.2.1, zc_z h.2.2.2]
theorem cu_text {G : Gt} {b : Nat} {E : Nat → va_E} {k w c N : Nat} {fs : List Value} {x : va_E} {H : Heap} (hw : 1 ≤ w) (hr : txOk (k + w) N) (hW : PW G b k (k + w + 2) (rowE G b (up (cu G b E k w c fs) (k + w) x) (k + w) 8 [.ref (b + (k + w + 1)), .int 0] (.inl (G.2.1 0, N, .inl (fun _ => 0)))) H) : PW G b k (k + (w + 2)) (cu G b E k (w + 2) c fs) H := hW.cong (fun i h1 h2 => by
  rcases Nat.lt_or_ge i (k + w) with h3 | h3
  · rw [rowE_n h3, up_n (by omega)]
    rcases Nat.lt_or_ge k i with h4 | h4
    · rw [cu_in h4 (by omega), cu_in h4 h3]
    · obtain rfl : i = k := by omega
      rw [cu_k, cu_k]
  · rw [cu_in (by omega) (by omega)]
    rcases (show i = k + w ∨ i = k + w + 1 by omega) with rfl | rfl
    · rw [tx_0 hr]
      unfold rowE
      rw [up_s]
    · rw [tx_1 hr]
      unfold rowE
      rw [up_n (by omega), up_s])
theorem cu_sub {G : Gt} {b : Nat} {E : Nat → va_E} {k w v c : Nat} {fs : List Value} {x : va_E} {H : Heap} (hw : 1 ≤ w) (hW : PW G b k (k + w + v) (ov G b (up (cu G b E k w c fs) (k + w) x) (k + w) v) H) (hv : 1 ≤ v) : PW G b k (k + (w + v)) (cu G b E k (w + v) c fs) H := PW.cong (n := k + (w + v)) (by rw [← Nat.add_assoc]; exact hW) (fun i h1 h2 => by
  rcases Nat.lt_or_ge i (k + w) with h3 | h3
  · rw [show ov G b (up (cu G b E k w c fs) (k + w) x) (k + w) v i = up (cu G b E k w c fs) (k + w) x i from if_neg (by omega), up_n (by omega)]
    rcases Nat.lt_or_ge k i with h4 | h4
    · rw [cu_in h4 (by omega), cu_in h4 h3]
    · obtain rfl : i = k := by omega
      rw [cu_k, cu_k]
  · rw [cu_in (by omega) (by omega)]
    exact (if_pos (by omega)).symm)
theorem ov_lt {G : Gt} {b : Nat} {E : Nat → va_E} {t w i : Nat} (h : i < t) : ov G b E t w i = E i := if_neg (by omega)
theorem cu_end {G : Gt} {b : Nat} {E : Nat → va_E} {k w c : Nat} {fs : List Value} (h : wF G b mS k = .inr (c, fs)) : ∀ i, k ≤ i → i < k + w → ov G b E k w i = cu G b E k w c fs i := fun i h1 h2 => by
  rcases Nat.lt_or_ge k i with h4 | h4
  · rw [cu_in h4 h2]
    exact if_pos ⟨h1, h2⟩
  · obtain rfl : i = k := by omega
    rw [cu_k, ← h]
    exact if_pos ⟨h1, h2⟩
section NEW3
variable {p : Program} {l : Launch} {e : Env} {R : Room} {s : State} {m : MethodId} {args : Array Value} {below : List Frame} {meth : Method} {c : Code} {H : Heap} {locs : List Loc} {cells slots : Nat} {Q : State → Prop}
variable {cc : ByteArray} {pc : Nat} {ls : Array Slot} {rest : List Value} {G : Gt} {b k t w n N : Nat} {E E1 : Nat → va_E} {own : String} {nL : Nat} {z i v : Int32}
def meOk (k : Nat) : Prop := (ky k = 2 ∧ zc k = true) ∧ rwOk (k + 1) 24 ∧ rwOk (k + 3) 24 ∧ rwOk (k + 5) 24 ∧ rwOk (k + 7) 24 ∧ rwOk (k + 9) 192 ∧ rwOk (k + 11) 24
set_option maxHeartbeats 8000000 in
set_option maxRecDepth 100000 in
theorem wk_X2_new (hk : meOk k) (hE : E k = .inr (2, [.null, .null, .null, .null, .null, .null])) (F : FX G b RX2 cX2_init 1 p s m args meth c) (hr : meth.sig.returnType = none) (hin : meth.name = "<init>") (hW : PW G b k (k + 1) E s.heap) (hzs : s.heap.size = b + (k + 1)) (hl : lv_has ls 1 [(0, .ref (b + k))]) : W p l e ({ frames := 2, cells := 12, slots := 318, locals := 35 } : Room) s m args below meth c s.heap [] 0 0 (MQ below (QNi G b k 13 (ov G b E k 13)) args s 12 318 (fb (b + k))) (F0 m 0 ls []) := by
  obtain ⟨hk0, hk_0, hk_1, hk_2, hk_3, hk_4, hk_5⟩ := hk
  have hx := F.1
  have hb := F.2.1
  have hS : va_S (fb (b + k)) s.heap s.heap [] := va_S.rf
  replace hW := cu_1 hW hE
  refine lv_aload_n hx hb dX2_init_0 rfl (lv_at hl 0 rfl) ?_
  refine n_obj F hl.1 q_236 q_34 q_35 (Nat.le_of_ble_eq_true rfl) (Nat.le_of_ble_eq_true rfl) dX2_init_1 ?_
  refine lv_aload_n hx hb dX2_init_4 rfl (lv_at hl 0 rfl) ?_
  refine n_new 5 (fs := [.null]) (n := k + 1) rfl inB5 tyX5 tyX5_ok F q_237 q_127 q_8 hW ⟨by omega, by omega, by omega⟩ hS (fun j hj => by rcases (show j = 0 by omega) with rfl; rfl) ⟨Nat.le_of_ble_eq_true rfl, Nat.le_of_ble_eq_true rfl⟩ dX2_init_5 (fun H hW hS => ?_)
  refine lv_dup hx hb dX2_init_8 rfl ?_
  refine lv_bipush (v := (24 : Int32)) hx hb dX2_init_9 (by decide) ?_
  refine k_X5_new (t := k + 1) (N := 24) up_s ⟨by decide, by decide, by decide⟩ F q_238 ⟨by decide, by decide, Nat.le_of_ble_eq_true rfl, Nat.le_of_ble_eq_true rfl⟩ hW ⟨by omega, by omega⟩ hS hl.1 (Nat.le_of_ble_eq_true rfl) dX2_init_11 (fun H locs hW hS => ?_)
  replace hW := cu_row (by decide) hk_0 hW
  refine n_put 2 (t := k) (n := k + 3) (v := .ref (b + (k + 1))) rfl inB2 tyX2 tyX2_ok nmX2 F hW ⟨by omega, by omega⟩ cu_k hS 0 (by decide) q_239 rfl (fun _ => ⟨hin, rfl⟩) rfl rfl rfl (Nat.le_of_ble_eq_true rfl) dX2_init_14 (fun H locs hW hS => ?_)
  replace hW : PW G b k (k + 3) (cu G b E k 3 2 [.ref (b + (k + 1)), .null, .null, .null, .null, .null]) H := cu_put hW
  refine lv_aload_n hx hb dX2_init_17 rfl (lv_at hl 0 rfl) ?_
  refine n_new 5 (fs := [.null]) (n := k + 3) rfl inB5 tyX5 tyX5_ok F q_237 q_127 q_8 hW ⟨by omega, by omega, by omega⟩ hS (fun j hj => by rcases (show j = 0 by omega) with rfl; rfl) ⟨Nat.le_of_ble_eq_true rfl, Nat.le_of_ble_eq_true rfl⟩ dX2_init_18 (fun H hW hS => ?_)
  refine lv_dup hx hb dX2_init_21 rfl ?_
  refine lv_bipush (v := (24 : Int32)) hx hb dX2_init_22 (by decide) ?_
  refine k_X5_new (t := k + 3) (N := 24) up_s ⟨by decide, by decide, by decide⟩ F q_238 ⟨by decide, by decide, Nat.le_of_ble_eq_true rfl, Nat.le_of_ble_eq_true rfl⟩ hW ⟨by omega, by omega⟩ hS hl.1 (Nat.le_of_ble_eq_true rfl) dX2_init_24 (fun H locs hW hS => ?_)
  replace hW := cu_row (by decide) hk_1 hW
  refine n_put 2 (t := k) (n := k + 5) (v := .ref (b + (k + 3))) rfl inB2 tyX2 tyX2_ok nmX2 F hW ⟨by omega, by omega⟩ cu_k hS 1 (by decide) q_241 rfl (fun _ => ⟨hin, rfl⟩) rfl rfl rfl (Nat.le_of_ble_eq_true rfl) dX2_init_27 (fun H locs hW hS => ?_)
  replace hW : PW G b k (k + 5) (cu G b E k 5 2 [.ref (b + (k + 1)), .ref (b + (k + 3)), .null, .null, .null, .null]) H := cu_put hW
  refine lv_aload_n hx hb dX2_init_30 rfl (lv_at hl 0 rfl) ?_
  refine n_new 5 (fs := [.null]) (n := k + 5) rfl inB5 tyX5 tyX5_ok F q_237 q_127 q_8 hW ⟨by omega, by omega, by omega⟩ hS (fun j hj => by rcases (show j = 0 by omega) with rfl; rfl) ⟨Nat.le_of_ble_eq_true rfl, Nat.le_of_ble_eq_true rfl⟩ dX2_init_31 (fun H hW hS => ?_)
  refine lv_dup hx hb dX2_init_34 rfl ?_
  refine lv_bipush (v := (24 : Int32)) hx hb dX2_init_35 (by decide) ?_
  refine k_X5_new (t := k + 5) (N := 24) up_s ⟨by decide, by decide, by decide⟩ F q_238 ⟨by decide, by decide, Nat.le_of_ble_eq_true rfl, Nat.le_of_ble_eq_true rfl⟩ hW ⟨by omega, by omega⟩ hS hl.1 (Nat.le_of_ble_eq_true rfl) dX2_init_37 (fun H locs hW hS => ?_)
  replace hW := cu_row (by decide) hk_2 hW
  refine n_put 2 (t := k) (n := k + 7) (v := .ref (b + (k + 5))) rfl inB2 tyX2 tyX2_ok nmX2 F hW ⟨by omega, by omega⟩ cu_k hS 2 (by decide) q_243 rfl (fun _ => ⟨hin, rfl⟩) rfl rfl rfl (Nat.le_of_ble_eq_true rfl) dX2_init_40 (fun H locs hW hS => ?_)
  replace hW : PW G b k (k + 7) (cu G b E k 7 2 [.ref (b + (k + 1)), .ref (b + (k + 3)), .ref (b + (k + 5)), .null, .null, .null]) H := cu_put hW
  refine lv_aload_n hx hb dX2_init_43 rfl (lv_at hl 0 rfl) ?_
  refine n_new 5 (fs := [.null]) (n := k + 7) rfl inB5 tyX5 tyX5_ok F q_237 q_127 q_8 hW ⟨by omega, by omega, by omega⟩ hS (fun j hj => by rcases (show j = 0 by omega) with rfl; rfl) ⟨Nat.le_of_ble_eq_true rfl, Nat.le_of_ble_eq_true rfl⟩ dX2_init_44 (fun H hW hS => ?_)
  refine lv_dup hx hb dX2_init_47 rfl ?_
  refine lv_bipush (v := (24 : Int32)) hx hb dX2_init_48 (by decide) ?_
  refine k_X5_new (t := k + 7) (N := 24) up_s ⟨by decide, by decide, by decide⟩ F q_238 ⟨by decide, by decide, Nat.le_of_ble_eq_true rfl, Nat.le_of_ble_eq_true rfl⟩ hW ⟨by omega, by omega⟩ hS hl.1 (Nat.le_of_ble_eq_true rfl) dX2_init_50 (fun H locs hW hS => ?_)
  replace hW := cu_row (by decide) hk_3 hW
  refine n_put 2 (t := k) (n := k + 9) (v := .ref (b + (k + 7))) rfl inB2 tyX2 tyX2_ok nmX2 F hW ⟨by omega, by omega⟩ cu_k hS 3 (by decide) q_245 rfl (fun _ => ⟨hin, rfl⟩) rfl rfl rfl (Nat.le_of_ble_eq_true rfl) dX2_init_53 (fun H locs hW hS => ?_)
  replace hW : PW G b k (k + 9) (cu G b E k 9 2 [.ref (b + (k + 1)), .ref (b + (k + 3)), .ref (b + (k + 5)), .ref (b + (k + 7)), .null, .null]) H := cu_put hW
  refine lv_aload_n hx hb dX2_init_56 rfl (lv_at hl 0 rfl) ?_
  refine n_new 5 (fs := [.null]) (n := k + 9) rfl inB5 tyX5 tyX5_ok F q_237 q_127 q_8 hW ⟨by omega, by omega, by omega⟩ hS (fun j hj => by rcases (show j = 0 by omega) with rfl; rfl) ⟨Nat.le_of_ble_eq_true rfl, Nat.le_of_ble_eq_true rfl⟩ dX2_init_57 (fun H hW hS => ?_)
  refine lv_dup hx hb dX2_init_60 rfl ?_
  refine lv_sipush (v := (192 : Int32)) hx hb dX2_init_61 (by decide) ?_
  refine k_X5_new (t := k + 9) (N := 192) up_s ⟨by decide, by decide, by decide⟩ F q_238 ⟨by decide, by decide, Nat.le_of_ble_eq_true rfl, Nat.le_of_ble_eq_true rfl⟩ hW ⟨by omega, by omega⟩ hS hl.1 (Nat.le_of_ble_eq_true rfl) dX2_init_64 (fun H locs hW hS => ?_)
  replace hW := cu_row (by decide) hk_4 hW
  refine n_put 2 (t := k) (n := k + 11) (v := .ref (b + (k + 9))) rfl inB2 tyX2 tyX2_ok nmX2 F hW ⟨by omega, by omega⟩ cu_k hS 4 (by decide) q_246 rfl (fun _ => ⟨hin, rfl⟩) rfl rfl rfl (Nat.le_of_ble_eq_true rfl) dX2_init_67 (fun H locs hW hS => ?_)
  replace hW : PW G b k (k + 11) (cu G b E k 11 2 [.ref (b + (k + 1)), .ref (b + (k + 3)), .ref (b + (k + 5)), .ref (b + (k + 7)), .ref (b + (k + 9)), .null]) H := cu_put hW
  refine lv_aload_n hx hb dX2_init_70 rfl (lv_at hl 0 rfl) ?_
  refine n_new 5 (fs := [.null]) (n := k + 11) rfl inB5 tyX5 tyX5_ok F q_237 q_127 q_8 hW ⟨by omega, by omega, by omega⟩ hS (fun j hj => by rcases (show j = 0 by omega) with rfl; rfl) ⟨Nat.le_of_ble_eq_true rfl, Nat.le_of_ble_eq_true rfl⟩ dX2_init_71 (fun H hW hS => ?_)
  refine lv_dup hx hb dX2_init_74 rfl ?_
  refine lv_bipush (v := (24 : Int32)) hx hb dX2_init_75 (by decide) ?_
  refine k_X5_new (t := k + 11) (N := 24) up_s ⟨by decide, by decide, by decide⟩ F q_238 ⟨by decide, by decide, Nat.le_of_ble_eq_true rfl, Nat.le_of_ble_eq_true rfl⟩ hW ⟨by omega, by omega⟩ hS hl.1 (Nat.le_of_ble_eq_true rfl) dX2_init_77 (fun H locs hW hS => ?_)
  replace hW := cu_row (by decide) hk_5 hW
  refine n_put 2 (t := k) (n := k + 13) (v := .ref (b + (k + 11))) rfl inB2 tyX2 tyX2_ok nmX2 F hW ⟨by omega, by omega⟩ cu_k hS 5 (by decide) q_248 rfl (fun _ => ⟨hin, rfl⟩) rfl rfl rfl (Nat.le_of_ble_eq_true rfl) dX2_init_80 (fun H locs hW hS => ?_)
  replace hW : PW G b k (k + 13) (cu G b E k 13 2 [.ref (b + (k + 1)), .ref (b + (k + 3)), .ref (b + (k + 5)), .ref (b + (k + 7)), .ref (b + (k + 9)), .ref (b + (k + 11))]) H := cu_put hW
  have hf : wF G b mS k = .inr (2, [.ref (b + (k + 1)), .ref (b + (k + 3)), .ref (b + (k + 5)), .ref (b + (k + 7)), .ref (b + (k + 9)), .ref (b + (k + 11))]) := by
    rw [wF_2 hk0.1]
    simp only [fl2, zc_z hk0.2]
  exact n_void F hr hW (Nat.le_refl _) (cu_end hf) hS dX2_init_83
set_option maxHeartbeats 4000000 in
theorem c_X2_new {l : Launch} (hk : meOk k) (hE : E k = .inr (2, [.null, .null, .null, .null, .null, .null])) : Met l yX2_init (wU (Cond.code yX2_init cX2_init 1 none)) ({ frames := 2, cells := 12, slots := 318, locals := 35 } : Room) (PcG G b k (k + 1) E [.ref (b + k)]) (QNi G b k 13 (ov G b E k 13)) 12 318 (fb (b + k)) :=
  gmet_of [.ref (b + k)] (by decide) (Nat.le_of_ble_eq_true rfl) (fun F hr hin hW hzs hl => wk_X2_new hk hE F hr hin hW hzs hl)
def pgOk (k : Nat) : Prop := (ky k = 3 ∧ zc k = true) ∧ rwOk (k + 1) 24 ∧ rwOk (k + 3) 24 ∧ rwOk (k + 5) 24 ∧ rwOk (k + 7) 24
set_option maxHeartbeats 8000000 in
set_option maxRecDepth 100000 in
theorem wk_X3_new (hk : pgOk k) (hE : E k = .inr (3, [.null, .null, .null, .null, .int 0, .int 0])) (F : FX G b RX3 cX3_init 1 p s m args meth c) (hr : meth.sig.returnType = none) (hin : meth.name = "<init>") (hW : PW G b k (k + 1) E s.heap) (hzs : s.heap.size = b + (k + 1)) (hl : lv_has ls 1 [(0, .ref (b + k))]) : W p l e ({ frames := 2, cells := 8, slots := 100, locals := 35 } : Room) s m args below meth c s.heap [] 0 0 (MQ below (QNi G b k 9 (ov G b E k 9)) args s 8 100 (fb (b + k))) (F0 m 0 ls []) := by
  obtain ⟨hk0, hk_0, hk_1, hk_2, hk_3⟩ := hk
  have hx := F.1
  have hb := F.2.1
  have hS : va_S (fb (b + k)) s.heap s.heap [] := va_S.rf
  replace hW := cu_1 hW hE
  refine lv_aload_n hx hb dX3_init_0 rfl (lv_at hl 0 rfl) ?_
  refine n_obj F hl.1 q_268 q_34 q_35 (Nat.le_of_ble_eq_true rfl) (Nat.le_of_ble_eq_true rfl) dX3_init_1 ?_
  refine lv_aload_n hx hb dX3_init_4 rfl (lv_at hl 0 rfl) ?_
  refine n_new 5 (fs := [.null]) (n := k + 1) rfl inB5 tyX5 tyX5_ok F q_269 q_127 q_8 hW ⟨by omega, by omega, by omega⟩ hS (fun j hj => by rcases (show j = 0 by omega) with rfl; rfl) ⟨Nat.le_of_ble_eq_true rfl, Nat.le_of_ble_eq_true rfl⟩ dX3_init_5 (fun H hW hS => ?_)
  refine lv_dup hx hb dX3_init_8 rfl ?_
  refine lv_bipush (v := (24 : Int32)) hx hb dX3_init_9 (by decide) ?_
  refine k_X5_new (t := k + 1) (N := 24) up_s ⟨by decide, by decide, by decide⟩ F q_270 ⟨by decide, by decide, Nat.le_of_ble_eq_true rfl, Nat.le_of_ble_eq_true rfl⟩ hW ⟨by omega, by omega⟩ hS hl.1 (Nat.le_of_ble_eq_true rfl) dX3_init_11 (fun H locs hW hS => ?_)
  replace hW := cu_row (by decide) hk_0 hW
  refine n_put 3 (t := k) (n := k + 3) (v := .ref (b + (k + 1))) rfl inB3 tyX3 tyX3_ok nmX3 F hW ⟨by omega, by omega⟩ cu_k hS 0 (by decide) q_271 rfl (fun _ => ⟨hin, rfl⟩) rfl rfl rfl (Nat.le_of_ble_eq_true rfl) dX3_init_14 (fun H locs hW hS => ?_)
  replace hW : PW G b k (k + 3) (cu G b E k 3 3 [.ref (b + (k + 1)), .null, .null, .null, .int 0, .int 0]) H := cu_put hW
  refine lv_aload_n hx hb dX3_init_17 rfl (lv_at hl 0 rfl) ?_
  refine n_new 5 (fs := [.null]) (n := k + 3) rfl inB5 tyX5 tyX5_ok F q_269 q_127 q_8 hW ⟨by omega, by omega, by omega⟩ hS (fun j hj => by rcases (show j = 0 by omega) with rfl; rfl) ⟨Nat.le_of_ble_eq_true rfl, Nat.le_of_ble_eq_true rfl⟩ dX3_init_18 (fun H hW hS => ?_)
  refine lv_dup hx hb dX3_init_21 rfl ?_
  refine lv_bipush (v := (24 : Int32)) hx hb dX3_init_22 (by decide) ?_
  refine k_X5_new (t := k + 3) (N := 24) up_s ⟨by decide, by decide, by decide⟩ F q_270 ⟨by decide, by decide, Nat.le_of_ble_eq_true rfl, Nat.le_of_ble_eq_true rfl⟩ hW ⟨by omega, by omega⟩ hS hl.1 (Nat.le_of_ble_eq_true rfl) dX3_init_24 (fun H locs hW hS => ?_)
  replace hW := cu_row (by decide) hk_1 hW
  refine n_put 3 (t := k) (n := k + 5) (v := .ref (b + (k + 3))) rfl inB3 tyX3 tyX3_ok nmX3 F hW ⟨by omega, by omega⟩ cu_k hS 1 (by decide) q_274 rfl (fun _ => ⟨hin, rfl⟩) rfl rfl rfl (Nat.le_of_ble_eq_true rfl) dX3_init_27 (fun H locs hW hS => ?_)
  replace hW : PW G b k (k + 5) (cu G b E k 5 3 [.ref (b + (k + 1)), .ref (b + (k + 3)), .null, .null, .int 0, .int 0]) H := cu_put hW
  refine lv_aload_n hx hb dX3_init_30 rfl (lv_at hl 0 rfl) ?_
  refine n_new 5 (fs := [.null]) (n := k + 5) rfl inB5 tyX5 tyX5_ok F q_269 q_127 q_8 hW ⟨by omega, by omega, by omega⟩ hS (fun j hj => by rcases (show j = 0 by omega) with rfl; rfl) ⟨Nat.le_of_ble_eq_true rfl, Nat.le_of_ble_eq_true rfl⟩ dX3_init_31 (fun H hW hS => ?_)
  refine lv_dup hx hb dX3_init_34 rfl ?_
  refine lv_bipush (v := (24 : Int32)) hx hb dX3_init_35 (by decide) ?_
  refine k_X5_new (t := k + 5) (N := 24) up_s ⟨by decide, by decide, by decide⟩ F q_270 ⟨by decide, by decide, Nat.le_of_ble_eq_true rfl, Nat.le_of_ble_eq_true rfl⟩ hW ⟨by omega, by omega⟩ hS hl.1 (Nat.le_of_ble_eq_true rfl) dX3_init_37 (fun H locs hW hS => ?_)
  replace hW := cu_row (by decide) hk_2 hW
  refine n_put 3 (t := k) (n := k + 7) (v := .ref (b + (k + 5))) rfl inB3 tyX3 tyX3_ok nmX3 F hW ⟨by omega, by omega⟩ cu_k hS 2 (by decide) q_276 rfl (fun _ => ⟨hin, rfl⟩) rfl rfl rfl (Nat.le_of_ble_eq_true rfl) dX3_init_40 (fun H locs hW hS => ?_)
  replace hW : PW G b k (k + 7) (cu G b E k 7 3 [.ref (b + (k + 1)), .ref (b + (k + 3)), .ref (b + (k + 5)), .null, .int 0, .int 0]) H := cu_put hW
  refine lv_aload_n hx hb dX3_init_43 rfl (lv_at hl 0 rfl) ?_
  refine n_new 5 (fs := [.null]) (n := k + 7) rfl inB5 tyX5 tyX5_ok F q_269 q_127 q_8 hW ⟨by omega, by omega, by omega⟩ hS (fun j hj => by rcases (show j = 0 by omega) with rfl; rfl) ⟨Nat.le_of_ble_eq_true rfl, Nat.le_of_ble_eq_true rfl⟩ dX3_init_44 (fun H hW hS => ?_)
  refine lv_dup hx hb dX3_init_47 rfl ?_
  refine lv_bipush (v := (24 : Int32)) hx hb dX3_init_48 (by decide) ?_
  refine k_X5_new (t := k + 7) (N := 24) up_s ⟨by decide, by decide, by decide⟩ F q_270 ⟨by decide, by decide, Nat.le_of_ble_eq_true rfl, Nat.le_of_ble_eq_true rfl⟩ hW ⟨by omega, by omega⟩ hS hl.1 (Nat.le_of_ble_eq_true rfl) dX3_init_50 (fun H locs hW hS => ?_)
  replace hW := cu_row (by decide) hk_3 hW
  refine n_put 3 (t := k) (n := k + 9) (v := .ref (b + (k + 7))) rfl inB3 tyX3 tyX3_ok nmX3 F hW ⟨by omega, by omega⟩ cu_k hS 3 (by decide) q_278 rfl (fun _ => ⟨hin, rfl⟩) rfl rfl rfl (Nat.le_of_ble_eq_true rfl) dX3_init_53 (fun H locs hW hS => ?_)
  replace hW : PW G b k (k + 9) (cu G b E k 9 3 [.ref (b + (k + 1)), .ref (b + (k + 3)), .ref (b + (k + 5)), .ref (b + (k + 7)), .int 0, .int 0]) H := cu_put hW
  have hf : wF G b mS k = .inr (3, [.ref (b + (k + 1)), .ref (b + (k + 3)), .ref (b + (k + 5)), .ref (b + (k + 7)), .int 0, .int 0]) := by
    rw [wF_3 hk0.1]
    simp only [fl3, zc_z hk0.2]
  exact n_void F hr hW (Nat.le_refl _) (cu_end hf) hS dX3_init_56
set_option maxHeartbeats 4000000 in
theorem c_X3_new {l : Launch} (hk : pgOk k) (hE : E k = .inr (3, [.null, .null, .null, .null, .int 0, .int 0])) : Met l yX3_init (wU (Cond.code yX3_init cX3_init 1 none)) ({ frames := 2, cells := 8, slots := 100, locals := 35 } : Room) (PcG G b k (k + 1) E [.ref (b + k)]) (QNi G b k 9 (ov G b E k 9)) 8 100 (fb (b + k)) :=
  gmet_of [.ref (b + k)] (by decide) (Nat.le_of_ble_eq_true rfl) (fun F hr hin hW hzs hl => wk_X3_new hk hE F hr hin hW hzs hl)
def tbOk (k : Nat) : Prop := (ky k = 7 ∧ zc k = true) ∧ rwOk (k + 1) 192 ∧ rwOk (k + 3) 192 ∧ rwOk (k + 5) 192 ∧ rwOk (k + 7) 192 ∧ rwOk (k + 9) 192 ∧ rwOk (k + 11) 24 ∧ rwOk (k + 13) 24 ∧ rwOk (k + 15) 24 ∧ rwOk (k + 17) 24
set_option maxHeartbeats 8000000 in
set_option maxRecDepth 100000 in
theorem wk_X7_new (hk : tbOk k) (hE : E k = .inr (7, [.int 0, .int 0, .int 0, .null, .null, .null, .null, .null, .null, .null, .null, .null])) (F : FX G b RX7 cX7_init 1 p s m args meth c) (hr : meth.sig.returnType = none) (hin : meth.name = "<init>") (hW : PW G b k (k + 1) E s.heap) (hzs : s.heap.size = b + (k + 1)) (hl : lv_has ls 1 [(0, .ref (b + k))]) : W p l e ({ frames := 2, cells := 18, slots := 1065, locals := 35 } : Room) s m args below meth c s.heap [] 0 0 (MQ below (QNi G b k 19 (ov G b E k 19)) args s 18 1065 (fb (b + k))) (F0 m 0 ls []) := by
  obtain ⟨hk0, hk_0, hk_1, hk_2, hk_3, hk_4, hk_5, hk_6, hk_7, hk_8⟩ := hk
  have hx := F.1
  have hb := F.2.1
  have hS : va_S (fb (b + k)) s.heap s.heap [] := va_S.rf
  replace hW := cu_1 hW hE
  refine lv_aload_n hx hb dX7_init_0 rfl (lv_at hl 0 rfl) ?_
  refine n_obj F hl.1 q_303 q_34 q_35 (Nat.le_of_ble_eq_true rfl) (Nat.le_of_ble_eq_true rfl) dX7_init_1 ?_
  refine lv_aload_n hx hb dX7_init_4 rfl (lv_at hl 0 rfl) ?_
  refine n_new 5 (fs := [.null]) (n := k + 1) rfl inB5 tyX5 tyX5_ok F q_304 q_127 q_8 hW ⟨by omega, by omega, by omega⟩ hS (fun j hj => by rcases (show j = 0 by omega) with rfl; rfl) ⟨Nat.le_of_ble_eq_true rfl, Nat.le_of_ble_eq_true rfl⟩ dX7_init_5 (fun H hW hS => ?_)
  refine lv_dup hx hb dX7_init_8 rfl ?_
  refine lv_sipush (v := (192 : Int32)) hx hb dX7_init_9 (by decide) ?_
  refine k_X5_new (t := k + 1) (N := 192) up_s ⟨by decide, by decide, by decide⟩ F q_305 ⟨by decide, by decide, Nat.le_of_ble_eq_true rfl, Nat.le_of_ble_eq_true rfl⟩ hW ⟨by omega, by omega⟩ hS hl.1 (Nat.le_of_ble_eq_true rfl) dX7_init_12 (fun H locs hW hS => ?_)
  replace hW := cu_row (by decide) hk_0 hW
  refine n_put 7 (t := k) (n := k + 3) (v := .ref (b + (k + 1))) rfl inB7 tyX7 tyX7_ok nmX7 F hW ⟨by omega, by omega⟩ cu_k hS 3 (by decide) q_313 rfl (fun _ => ⟨hin, rfl⟩) rfl rfl rfl (Nat.le_of_ble_eq_true rfl) dX7_init_15 (fun H locs hW hS => ?_)
  replace hW : PW G b k (k + 3) (cu G b E k 3 7 [.int 0, .int 0, .int 0, .ref (b + (k + 1)), .null, .null, .null, .null, .null, .null, .null, .null]) H := cu_put hW
  refine lv_aload_n hx hb dX7_init_18 rfl (lv_at hl 0 rfl) ?_
  refine n_new 5 (fs := [.null]) (n := k + 3) rfl inB5 tyX5 tyX5_ok F q_304 q_127 q_8 hW ⟨by omega, by omega, by omega⟩ hS (fun j hj => by rcases (show j = 0 by omega) with rfl; rfl) ⟨Nat.le_of_ble_eq_true rfl, Nat.le_of_ble_eq_true rfl⟩ dX7_init_19 (fun H hW hS => ?_)
  refine lv_dup hx hb dX7_init_22 rfl ?_
  refine lv_sipush (v := (192 : Int32)) hx hb dX7_init_23 (by decide) ?_
  refine k_X5_new (t := k + 3) (N := 192) up_s ⟨by decide, by decide, by decide⟩ F q_305 ⟨by decide, by decide, Nat.le_of_ble_eq_true rfl, Nat.le_of_ble_eq_true rfl⟩ hW ⟨by omega, by omega⟩ hS hl.1 (Nat.le_of_ble_eq_true rfl) dX7_init_26 (fun H locs hW hS => ?_)
  replace hW := cu_row (by decide) hk_1 hW
  refine n_put 7 (t := k) (n := k + 5) (v := .ref (b + (k + 3))) rfl inB7 tyX7 tyX7_ok nmX7 F hW ⟨by omega, by omega⟩ cu_k hS 4 (by decide) q_316 rfl (fun _ => ⟨hin, rfl⟩) rfl rfl rfl (Nat.le_of_ble_eq_true rfl) dX7_init_29 (fun H locs hW hS => ?_)
  replace hW : PW G b k (k + 5) (cu G b E k 5 7 [.int 0, .int 0, .int 0, .ref (b + (k + 1)), .ref (b + (k + 3)), .null, .null, .null, .null, .null, .null, .null]) H := cu_put hW
  refine lv_aload_n hx hb dX7_init_32 rfl (lv_at hl 0 rfl) ?_
  refine n_new 5 (fs := [.null]) (n := k + 5) rfl inB5 tyX5 tyX5_ok F q_304 q_127 q_8 hW ⟨by omega, by omega, by omega⟩ hS (fun j hj => by rcases (show j = 0 by omega) with rfl; rfl) ⟨Nat.le_of_ble_eq_true rfl, Nat.le_of_ble_eq_true rfl⟩ dX7_init_33 (fun H hW hS => ?_)
  refine lv_dup hx hb dX7_init_36 rfl ?_
  refine lv_sipush (v := (192 : Int32)) hx hb dX7_init_37 (by decide) ?_
  refine k_X5_new (t := k + 5) (N := 192) up_s ⟨by decide, by decide, by decide⟩ F q_305 ⟨by decide, by decide, Nat.le_of_ble_eq_true rfl, Nat.le_of_ble_eq_true rfl⟩ hW ⟨by omega, by omega⟩ hS hl.1 (Nat.le_of_ble_eq_true rfl) dX7_init_40 (fun H locs hW hS => ?_)
  replace hW := cu_row (by decide) hk_2 hW
  refine n_put 7 (t := k) (n := k + 7) (v := .ref (b + (k + 5))) rfl inB7 tyX7 tyX7_ok nmX7 F hW ⟨by omega, by omega⟩ cu_k hS 5 (by decide) q_319 rfl (fun _ => ⟨hin, rfl⟩) rfl rfl rfl (Nat.le_of_ble_eq_true rfl) dX7_init_43 (fun H locs hW hS => ?_)
  replace hW : PW G b k (k + 7) (cu G b E k 7 7 [.int 0, .int 0, .int 0, .ref (b + (k + 1)), .ref (b + (k + 3)), .ref (b + (k + 5)), .null, .null, .null, .null, .null, .null]) H := cu_put hW
  refine lv_aload_n hx hb dX7_init_46 rfl (lv_at hl 0 rfl) ?_
  refine n_new 5 (fs := [.null]) (n := k + 7) rfl inB5 tyX5 tyX5_ok F q_304 q_127 q_8 hW ⟨by omega, by omega, by omega⟩ hS (fun j hj => by rcases (show j = 0 by omega) with rfl; rfl) ⟨Nat.le_of_ble_eq_true rfl, Nat.le_of_ble_eq_true rfl⟩ dX7_init_47 (fun H hW hS => ?_)
  refine lv_dup hx hb dX7_init_50 rfl ?_
  refine lv_sipush (v := (192 : Int32)) hx hb dX7_init_51 (by decide) ?_
  refine k_X5_new (t := k + 7) (N := 192) up_s ⟨by decide, by decide, by decide⟩ F q_305 ⟨by decide, by decide, Nat.le_of_ble_eq_true rfl, Nat.le_of_ble_eq_true rfl⟩ hW ⟨by omega, by omega⟩ hS hl.1 (Nat.le_of_ble_eq_true rfl) dX7_init_54 (fun H locs hW hS => ?_)
  replace hW := cu_row (by decide) hk_3 hW
  refine n_put 7 (t := k) (n := k + 9) (v := .ref (b + (k + 7))) rfl inB7 tyX7 tyX7_ok nmX7 F hW ⟨by omega, by omega⟩ cu_k hS 6 (by decide) q_321 rfl (fun _ => ⟨hin, rfl⟩) rfl rfl rfl (Nat.le_of_ble_eq_true rfl) dX7_init_57 (fun H locs hW hS => ?_)
  replace hW : PW G b k (k + 9) (cu G b E k 9 7 [.int 0, .int 0, .int 0, .ref (b + (k + 1)), .ref (b + (k + 3)), .ref (b + (k + 5)), .ref (b + (k + 7)), .null, .null, .null, .null, .null]) H := cu_put hW
  refine lv_aload_n hx hb dX7_init_60 rfl (lv_at hl 0 rfl) ?_
  refine n_new 5 (fs := [.null]) (n := k + 9) rfl inB5 tyX5 tyX5_ok F q_304 q_127 q_8 hW ⟨by omega, by omega, by omega⟩ hS (fun j hj => by rcases (show j = 0 by omega) with rfl; rfl) ⟨Nat.le_of_ble_eq_true rfl, Nat.le_of_ble_eq_true rfl⟩ dX7_init_61 (fun H hW hS => ?_)
  refine lv_dup hx hb dX7_init_64 rfl ?_
  refine lv_sipush (v := (192 : Int32)) hx hb dX7_init_65 (by decide) ?_
  refine k_X5_new (t := k + 9) (N := 192) up_s ⟨by decide, by decide, by decide⟩ F q_305 ⟨by decide, by decide, Nat.le_of_ble_eq_true rfl, Nat.le_of_ble_eq_true rfl⟩ hW ⟨by omega, by omega⟩ hS hl.1 (Nat.le_of_ble_eq_true rfl) dX7_init_68 (fun H locs hW hS => ?_)
  replace hW := cu_row (by decide) hk_4 hW
  refine n_put 7 (t := k) (n := k + 11) (v := .ref (b + (k + 9))) rfl inB7 tyX7 tyX7_ok nmX7 F hW ⟨by omega, by omega⟩ cu_k hS 7 (by decide) q_324 rfl (fun _ => ⟨hin, rfl⟩) rfl rfl rfl (Nat.le_of_ble_eq_true rfl) dX7_init_71 (fun H locs hW hS => ?_)
  replace hW : PW G b k (k + 11) (cu G b E k 11 7 [.int 0, .int 0, .int 0, .ref (b + (k + 1)), .ref (b + (k + 3)), .ref (b + (k + 5)), .ref (b + (k + 7)), .ref (b + (k + 9)), .null, .null, .null, .null]) H := cu_put hW
  refine lv_aload_n hx hb dX7_init_74 rfl (lv_at hl 0 rfl) ?_
  refine n_new 5 (fs := [.null]) (n := k + 11) rfl inB5 tyX5 tyX5_ok F q_304 q_127 q_8 hW ⟨by omega, by omega, by omega⟩ hS (fun j hj => by rcases (show j = 0 by omega) with rfl; rfl) ⟨Nat.le_of_ble_eq_true rfl, Nat.le_of_ble_eq_true rfl⟩ dX7_init_75 (fun H hW hS => ?_)
  refine lv_dup hx hb dX7_init_78 rfl ?_
  refine lv_bipush (v := (24 : Int32)) hx hb dX7_init_79 (by decide) ?_
  refine k_X5_new (t := k + 11) (N := 24) up_s ⟨by decide, by decide, by decide⟩ F q_305 ⟨by decide, by decide, Nat.le_of_ble_eq_true rfl, Nat.le_of_ble_eq_true rfl⟩ hW ⟨by omega, by omega⟩ hS hl.1 (Nat.le_of_ble_eq_true rfl) dX7_init_81 (fun H locs hW hS => ?_)
  replace hW := cu_row (by decide) hk_5 hW
  refine n_put 7 (t := k) (n := k + 13) (v := .ref (b + (k + 11))) rfl inB7 tyX7 tyX7_ok nmX7 F hW ⟨by omega, by omega⟩ cu_k hS 8 (by decide) q_326 rfl (fun _ => ⟨hin, rfl⟩) rfl rfl rfl (Nat.le_of_ble_eq_true rfl) dX7_init_84 (fun H locs hW hS => ?_)
  replace hW : PW G b k (k + 13) (cu G b E k 13 7 [.int 0, .int 0, .int 0, .ref (b + (k + 1)), .ref (b + (k + 3)), .ref (b + (k + 5)), .ref (b + (k + 7)), .ref (b + (k + 9)), .ref (b + (k + 11)), .null, .null, .null]) H := cu_put hW
  refine lv_aload_n hx hb dX7_init_87 rfl (lv_at hl 0 rfl) ?_
  refine n_new 5 (fs := [.null]) (n := k + 13) rfl inB5 tyX5 tyX5_ok F q_304 q_127 q_8 hW ⟨by omega, by omega, by omega⟩ hS (fun j hj => by rcases (show j = 0 by omega) with rfl; rfl) ⟨Nat.le_of_ble_eq_true rfl, Nat.le_of_ble_eq_true rfl⟩ dX7_init_88 (fun H hW hS => ?_)
  refine lv_dup hx hb dX7_init_91 rfl ?_
  refine lv_bipush (v := (24 : Int32)) hx hb dX7_init_92 (by decide) ?_
  refine k_X5_new (t := k + 13) (N := 24) up_s ⟨by decide, by decide, by decide⟩ F q_305 ⟨by decide, by decide, Nat.le_of_ble_eq_true rfl, Nat.le_of_ble_eq_true rfl⟩ hW ⟨by omega, by omega⟩ hS hl.1 (Nat.le_of_ble_eq_true rfl) dX7_init_94 (fun H locs hW hS => ?_)
  replace hW := cu_row (by decide) hk_6 hW
  refine n_put 7 (t := k) (n := k + 15) (v := .ref (b + (k + 13))) rfl inB7 tyX7 tyX7_ok nmX7 F hW ⟨by omega, by omega⟩ cu_k hS 9 (by decide) q_328 rfl (fun _ => ⟨hin, rfl⟩) rfl rfl rfl (Nat.le_of_ble_eq_true rfl) dX7_init_97 (fun H locs hW hS => ?_)
  replace hW : PW G b k (k + 15) (cu G b E k 15 7 [.int 0, .int 0, .int 0, .ref (b + (k + 1)), .ref (b + (k + 3)), .ref (b + (k + 5)), .ref (b + (k + 7)), .ref (b + (k + 9)), .ref (b + (k + 11)), .ref (b + (k + 13)), .null, .null]) H := cu_put hW
  refine lv_aload_n hx hb dX7_init_100 rfl (lv_at hl 0 rfl) ?_
  refine n_new 5 (fs := [.null]) (n := k + 15) rfl inB5 tyX5 tyX5_ok F q_304 q_127 q_8 hW ⟨by omega, by omega, by omega⟩ hS (fun j hj => by rcases (show j = 0 by omega) with rfl; rfl) ⟨Nat.le_of_ble_eq_true rfl, Nat.le_of_ble_eq_true rfl⟩ dX7_init_101 (fun H hW hS => ?_)
  refine lv_dup hx hb dX7_init_104 rfl ?_
  refine lv_bipush (v := (24 : Int32)) hx hb dX7_init_105 (by decide) ?_
  refine k_X5_new (t := k + 15) (N := 24) up_s ⟨by decide, by decide, by decide⟩ F q_305 ⟨by decide, by decide, Nat.le_of_ble_eq_true rfl, Nat.le_of_ble_eq_true rfl⟩ hW ⟨by omega, by omega⟩ hS hl.1 (Nat.le_of_ble_eq_true rfl) dX7_init_107 (fun H locs hW hS => ?_)
  replace hW := cu_row (by decide) hk_7 hW
  refine n_put 7 (t := k) (n := k + 17) (v := .ref (b + (k + 15))) rfl inB7 tyX7 tyX7_ok nmX7 F hW ⟨by omega, by omega⟩ cu_k hS 10 (by decide) q_330 rfl (fun _ => ⟨hin, rfl⟩) rfl rfl rfl (Nat.le_of_ble_eq_true rfl) dX7_init_110 (fun H locs hW hS => ?_)
  replace hW : PW G b k (k + 17) (cu G b E k 17 7 [.int 0, .int 0, .int 0, .ref (b + (k + 1)), .ref (b + (k + 3)), .ref (b + (k + 5)), .ref (b + (k + 7)), .ref (b + (k + 9)), .ref (b + (k + 11)), .ref (b + (k + 13)), .ref (b + (k + 15)), .null]) H := cu_put hW
  refine lv_aload_n hx hb dX7_init_113 rfl (lv_at hl 0 rfl) ?_
  refine n_new 5 (fs := [.null]) (n := k + 17) rfl inB5 tyX5 tyX5_ok F q_304 q_127 q_8 hW ⟨by omega, by omega, by omega⟩ hS (fun j hj => by rcases (show j = 0 by omega) with rfl; rfl) ⟨Nat.le_of_ble_eq_true rfl, Nat.le_of_ble_eq_true rfl⟩ dX7_init_114 (fun H hW hS => ?_)
  refine lv_dup hx hb dX7_init_117 rfl ?_
  refine lv_bipush (v := (24 : Int32)) hx hb dX7_init_118 (by decide) ?_
  refine k_X5_new (t := k + 17) (N := 24) up_s ⟨by decide, by decide, by decide⟩ F q_305 ⟨by decide, by decide, Nat.le_of_ble_eq_true rfl, Nat.le_of_ble_eq_true rfl⟩ hW ⟨by omega, by omega⟩ hS hl.1 (Nat.le_of_ble_eq_true rfl) dX7_init_120 (fun H locs hW hS => ?_)
  replace hW := cu_row (by decide) hk_8 hW
  refine n_put 7 (t := k) (n := k + 19) (v := .ref (b + (k + 17))) rfl inB7 tyX7 tyX7_ok nmX7 F hW ⟨by omega, by omega⟩ cu_k hS 11 (by decide) q_332 rfl (fun _ => ⟨hin, rfl⟩) rfl rfl rfl (Nat.le_of_ble_eq_true rfl) dX7_init_123 (fun H locs hW hS => ?_)
  replace hW : PW G b k (k + 19) (cu G b E k 19 7 [.int 0, .int 0, .int 0, .ref (b + (k + 1)), .ref (b + (k + 3)), .ref (b + (k + 5)), .ref (b + (k + 7)), .ref (b + (k + 9)), .ref (b + (k + 11)), .ref (b + (k + 13)), .ref (b + (k + 15)), .ref (b + (k + 17))]) H := cu_put hW
  have hf : wF G b mS k = .inr (7, [.int 0, .int 0, .int 0, .ref (b + (k + 1)), .ref (b + (k + 3)), .ref (b + (k + 5)), .ref (b + (k + 7)), .ref (b + (k + 9)), .ref (b + (k + 11)), .ref (b + (k + 13)), .ref (b + (k + 15)), .ref (b + (k + 17))]) := by
    rw [wF_7 hk0.1]
    simp only [fl7, zc_z hk0.2]
  exact n_void F hr hW (Nat.le_refl _) (cu_end hf) hS dX7_init_126
set_option maxHeartbeats 4000000 in
theorem c_X7_new {l : Launch} (hk : tbOk k) (hE : E k = .inr (7, [.int 0, .int 0, .int 0, .null, .null, .null, .null, .null, .null, .null, .null, .null])) : Met l yX7_init (wU (Cond.code yX7_init cX7_init 1 none)) ({ frames := 2, cells := 18, slots := 1065, locals := 35 } : Room) (PcG G b k (k + 1) E [.ref (b + k)]) (QNi G b k 19 (ov G b E k 19)) 18 1065 (fb (b + k)) :=
  gmet_of [.ref (b + k)] (by decide) (Nat.le_of_ble_eq_true rfl) (fun F hr hin hW hzs hl => wk_X7_new hk hE F hr hin hW hzs hl)
def lyOk (k : Nat) : Prop := (ky k = 1 ∧ zc k = true) ∧ meOk (k + 1) ∧ pgOk (k + 14) ∧ tbOk (k + 23)
set_option maxHeartbeats 8000000 in
set_option maxRecDepth 100000 in
theorem wk_X1_new (hk : lyOk k) (hE : E k = .inr (1, [.null, .null, .null, .int 0, .int 0])) (F : FX G b RX1 cX1_init 1 p s m args meth c) (hr : meth.sig.returnType = none) (hin : meth.name = "<init>") (hW : PW G b k (k + 1) E s.heap) (hzs : s.heap.size = b + (k + 1)) (hl : lv_has ls 1 [(0, .ref (b + k))]) : W p l e ({ frames := 3, cells := 41, slots := 1507, locals := 55 } : Room) s m args below meth c s.heap [] 0 0 (MQ below (QNi G b k 42 (ov G b E k 42)) args s 41 1507 (fb (b + k))) (F0 m 0 ls []) := by
  obtain ⟨hk0, hk_0, hk_1, hk_2⟩ := hk
  have hx := F.1
  have hb := F.2.1
  have hS : va_S (fb (b + k)) s.heap s.heap [] := va_S.rf
  replace hW := cu_1 hW hE
  refine lv_aload_n hx hb dX1_init_0 rfl (lv_at hl 0 rfl) ?_
  refine n_obj F hl.1 q_230 q_34 q_35 (Nat.le_of_ble_eq_true rfl) (Nat.le_of_ble_eq_true rfl) dX1_init_1 ?_
  refine lv_aload_n hx hb dX1_init_4 rfl (lv_at hl 0 rfl) ?_
  refine n_new 2 (fs := [.null, .null, .null, .null, .null, .null]) (n := k + 1) rfl inB2 tyX2 tyX2_ok F q_231 q_232 q_10 hW ⟨by omega, by omega, by omega⟩ hS (fun j hj => by rcases (show j = 0 ∨ j = 1 ∨ j = 2 ∨ j = 3 ∨ j = 4 ∨ j = 5 by omega) with rfl | rfl | rfl | rfl | rfl | rfl <;> rfl) ⟨Nat.le_of_ble_eq_true rfl, Nat.le_of_ble_eq_true rfl⟩ dX1_init_5 (fun H hW hS => ?_)
  refine lv_dup hx hb dX1_init_8 rfl ?_
  refine n_callN (As := []) (t := k + 1) (n := k + 1 + 1) (w := 13) (c_X2_new hk_0 up_s) ⟨rfl, rfl⟩ q_234 q_10 q_235 rfl ⟨by decide +kernel, by decide +kernel, (show (parseMethodDescriptor yX2_init.desc).map (fun d => d.parameters.length) = some 0 by decide +kernel)⟩ F (List.mem_of_getElem? (i := 3) rfl) ⟨by decide, by decide, Nat.le_of_ble_eq_true rfl, Nat.le_of_ble_eq_true rfl⟩ hW ⟨by omega, by omega, by omega⟩ (fun j hj => ov_lt hj) hS hl.1 (Nat.le_of_ble_eq_true rfl) rfl dX1_init_9 (fun H locs hW hS => ?_)
  replace hW := cu_sub (by decide) hW (by decide)
  refine n_put 1 (t := k) (n := k + 14) (v := .ref (b + (k + 1))) rfl inB1 tyX1 tyX1_ok nmX1 F hW ⟨by omega, by omega⟩ cu_k hS 0 (by decide) q_360 rfl (fun _ => ⟨hin, rfl⟩) rfl rfl rfl (Nat.le_of_ble_eq_true rfl) dX1_init_12 (fun H locs hW hS => ?_)
  replace hW : PW G b k (k + 14) (cu G b E k 14 1 [.ref (b + (k + 1)), .null, .null, .int 0, .int 0]) H := cu_put hW
  refine lv_aload_n hx hb dX1_init_15 rfl (lv_at hl 0 rfl) ?_
  refine n_new 3 (fs := [.null, .null, .null, .null, .int 0, .int 0]) (n := k + 14) rfl inB3 tyX3 tyX3_ok F q_263 q_264 q_11 hW ⟨by omega, by omega, by omega⟩ hS (fun j hj => by rcases (show j = 0 ∨ j = 1 ∨ j = 2 ∨ j = 3 ∨ j = 4 ∨ j = 5 by omega) with rfl | rfl | rfl | rfl | rfl | rfl <;> rfl) ⟨Nat.le_of_ble_eq_true rfl, Nat.le_of_ble_eq_true rfl⟩ dX1_init_16 (fun H hW hS => ?_)
  refine lv_dup hx hb dX1_init_19 rfl ?_
  refine n_callN (As := []) (t := k + 14) (n := k + 14 + 1) (w := 9) (c_X3_new hk_1 up_s) ⟨rfl, rfl⟩ q_266 q_11 q_267 rfl ⟨by decide +kernel, by decide +kernel, (show (parseMethodDescriptor yX3_init.desc).map (fun d => d.parameters.length) = some 0 by decide +kernel)⟩ F (List.mem_of_getElem? (i := 4) rfl) ⟨by decide, by decide, Nat.le_of_ble_eq_true rfl, Nat.le_of_ble_eq_true rfl⟩ hW ⟨by omega, by omega, by omega⟩ (fun j hj => ov_lt hj) hS hl.1 (Nat.le_of_ble_eq_true rfl) rfl dX1_init_20 (fun H locs hW hS => ?_)
  replace hW := cu_sub (by decide) hW (by decide)
  refine n_put 1 (t := k) (n := k + 23) (v := .ref (b + (k + 14))) rfl inB1 tyX1 tyX1_ok nmX1 F hW ⟨by omega, by omega⟩ cu_k hS 1 (by decide) q_362 rfl (fun _ => ⟨hin, rfl⟩) rfl rfl rfl (Nat.le_of_ble_eq_true rfl) dX1_init_23 (fun H locs hW hS => ?_)
  replace hW : PW G b k (k + 23) (cu G b E k 23 1 [.ref (b + (k + 1)), .ref (b + (k + 14)), .null, .int 0, .int 0]) H := cu_put hW
  refine lv_aload_n hx hb dX1_init_26 rfl (lv_at hl 0 rfl) ?_
  refine n_new 7 (fs := [.int 0, .int 0, .int 0, .null, .null, .null, .null, .null, .null, .null, .null, .null]) (n := k + 23) rfl inB7 tyX7 tyX7_ok F q_298 q_299 q_12 hW ⟨by omega, by omega, by omega⟩ hS (fun j hj => by rcases (show j = 0 ∨ j = 1 ∨ j = 2 ∨ j = 3 ∨ j = 4 ∨ j = 5 ∨ j = 6 ∨ j = 7 ∨ j = 8 ∨ j = 9 ∨ j = 10 ∨ j = 11 by omega) with rfl | rfl | rfl | rfl | rfl | rfl | rfl | rfl | rfl | rfl | rfl | rfl <;> rfl) ⟨Nat.le_of_ble_eq_true rfl, Nat.le_of_ble_eq_true rfl⟩ dX1_init_27 (fun H hW hS => ?_)
  refine lv_dup hx hb dX1_init_30 rfl ?_
  refine n_callN (As := []) (t := k + 23) (n := k + 23 + 1) (w := 19) (c_X7_new hk_2 up_s) ⟨rfl, rfl⟩ q_301 q_12 q_302 rfl ⟨by decide +kernel, by decide +kernel, (show (parseMethodDescriptor yX7_init.desc).map (fun d => d.parameters.length) = some 0 by decide +kernel)⟩ F (List.mem_of_getElem? (i := 5) rfl) ⟨by decide, by decide, Nat.le_of_ble_eq_true rfl, Nat.le_of_ble_eq_true rfl⟩ hW ⟨by omega, by omega, by omega⟩ (fun j hj => ov_lt hj) hS hl.1 (Nat.le_of_ble_eq_true rfl) rfl dX1_init_31 (fun H locs hW hS => ?_)
  replace hW := cu_sub (by decide) hW (by decide)
  refine n_put 1 (t := k) (n := k + 42) (v := .ref (b + (k + 23))) rfl inB1 tyX1 tyX1_ok nmX1 F hW ⟨by omega, by omega⟩ cu_k hS 2 (by decide) q_364 rfl (fun _ => ⟨hin, rfl⟩) rfl rfl rfl (Nat.le_of_ble_eq_true rfl) dX1_init_34 (fun H locs hW hS => ?_)
  replace hW : PW G b k (k + 42) (cu G b E k 42 1 [.ref (b + (k + 1)), .ref (b + (k + 14)), .ref (b + (k + 23)), .int 0, .int 0]) H := cu_put hW
  have hf : wF G b mS k = .inr (1, [.ref (b + (k + 1)), .ref (b + (k + 14)), .ref (b + (k + 23)), .int 0, .int 0]) := by
    rw [wF_1 hk0.1]
    simp only [fl1, zc_z hk0.2]
  exact n_void F hr hW (Nat.le_refl _) (cu_end hf) hS dX1_init_37
set_option maxHeartbeats 4000000 in
theorem c_X1_new {l : Launch} (hk : lyOk k) (hE : E k = .inr (1, [.null, .null, .null, .int 0, .int 0])) : Met l yX1_init (wU (Cond.code yX1_init cX1_init 1 none)) ({ frames := 3, cells := 41, slots := 1507, locals := 55 } : Room) (PcG G b k (k + 1) E [.ref (b + k)]) (QNi G b k 42 (ov G b E k 42)) 41 1507 (fb (b + k)) :=
  gmet_of [.ref (b + k)] (by decide) (Nat.le_of_ble_eq_true rfl) (fun F hr hin hW hzs hl => wk_X1_new hk hE F hr hin hW hzs hl)
def stOk (k : Nat) : Prop := (ky k = 6 ∧ zc k = true) ∧ bkOk (k + 1) ∧ bkOk (k + 14)
set_option maxHeartbeats 8000000 in
set_option maxRecDepth 100000 in
theorem wk_X6_new (hk : stOk k) (hE : E k = .inr (6, [.null, .null, .int 0])) (F : FX G b RX6 cX6_init 1 p s m args meth c) (hr : meth.sig.returnType = none) (hin : meth.name = "<init>") (hW : PW G b k (k + 1) E s.heap) (hzs : s.heap.size = b + (k + 1)) (hl : lv_has ls 1 [(0, .ref (b + k))]) : W p l e ({ frames := 3, cells := 26, slots := 622, locals := 62 } : Room) s m args below meth c s.heap [] 0 0 (MQ below (QNi G b k 27 (ov G b E k 27)) args s 26 622 (fb (b + k))) (F0 m 0 ls []) := by
  obtain ⟨hk0, hk_0, hk_1⟩ := hk
  have hx := F.1
  have hb := F.2.1
  have hS : va_S (fb (b + k)) s.heap s.heap [] := va_S.rf
  replace hW := cu_1 hW hE
  refine lv_aload_n hx hb dX6_init_0 rfl (lv_at hl 0 rfl) ?_
  refine n_obj F hl.1 q_119 q_34 q_35 (Nat.le_of_ble_eq_true rfl) (Nat.le_of_ble_eq_true rfl) dX6_init_1 ?_
  refine lv_aload_n hx hb dX6_init_4 rfl (lv_at hl 0 rfl) ?_
  refine n_new 0 (fs := [.null, .int 0, .int 0, .int 0, .null, .null, .null, .null, .null]) (n := k + 1) rfl inB0 tyX0 tyX0_ok F q_120 q_121 q_7 hW ⟨by omega, by omega, by omega⟩ hS (fun j hj => by rcases (show j = 0 ∨ j = 1 ∨ j = 2 ∨ j = 3 ∨ j = 4 ∨ j = 5 ∨ j = 6 ∨ j = 7 ∨ j = 8 by omega) with rfl | rfl | rfl | rfl | rfl | rfl | rfl | rfl | rfl <;> rfl) ⟨Nat.le_of_ble_eq_true rfl, Nat.le_of_ble_eq_true rfl⟩ dX6_init_5 (fun H hW hS => ?_)
  refine lv_dup hx hb dX6_init_8 rfl ?_
  refine n_call (As := []) (t := k + 1) (n := k + 1 + 1) (w := 13) (c_X0_new hk_0 up_s) ⟨rfl, rfl⟩ q_123 q_7 q_124 rfl ⟨by decide +kernel, by decide +kernel, (show (parseMethodDescriptor yX0_init.desc).map (fun d => d.parameters.length) = some 0 by decide +kernel)⟩ F q_122 ⟨by decide, by decide, Nat.le_of_ble_eq_true rfl, Nat.le_of_ble_eq_true rfl⟩ hW ⟨by omega, by omega, by omega⟩ (fun j hj => ov_lt hj) hS hl.1 (Nat.le_of_ble_eq_true rfl) rfl dX6_init_9 (fun H locs hW hS => ?_)
  replace hW := cu_sub (by decide) hW (by decide)
  refine n_put 6 (t := k) (n := k + 14) (v := .ref (b + (k + 1))) rfl inB6 tyX6 tyX6_ok nmX6 F hW ⟨by omega, by omega⟩ cu_k hS 0 (by decide) q_211 rfl (fun _ => ⟨hin, rfl⟩) rfl rfl rfl (Nat.le_of_ble_eq_true rfl) dX6_init_12 (fun H locs hW hS => ?_)
  replace hW : PW G b k (k + 14) (cu G b E k 14 6 [.ref (b + (k + 1)), .null, .int 0]) H := cu_put hW
  refine lv_aload_n hx hb dX6_init_15 rfl (lv_at hl 0 rfl) ?_
  refine n_new 0 (fs := [.null, .int 0, .int 0, .int 0, .null, .null, .null, .null, .null]) (n := k + 14) rfl inB0 tyX0 tyX0_ok F q_120 q_121 q_7 hW ⟨by omega, by omega, by omega⟩ hS (fun j hj => by rcases (show j = 0 ∨ j = 1 ∨ j = 2 ∨ j = 3 ∨ j = 4 ∨ j = 5 ∨ j = 6 ∨ j = 7 ∨ j = 8 by omega) with rfl | rfl | rfl | rfl | rfl | rfl | rfl | rfl | rfl <;> rfl) ⟨Nat.le_of_ble_eq_true rfl, Nat.le_of_ble_eq_true rfl⟩ dX6_init_16 (fun H hW hS => ?_)
  refine lv_dup hx hb dX6_init_19 rfl ?_
  refine n_call (As := []) (t := k + 14) (n := k + 14 + 1) (w := 13) (c_X0_new hk_1 up_s) ⟨rfl, rfl⟩ q_123 q_7 q_124 rfl ⟨by decide +kernel, by decide +kernel, (show (parseMethodDescriptor yX0_init.desc).map (fun d => d.parameters.length) = some 0 by decide +kernel)⟩ F q_122 ⟨by decide, by decide, Nat.le_of_ble_eq_true rfl, Nat.le_of_ble_eq_true rfl⟩ hW ⟨by omega, by omega, by omega⟩ (fun j hj => ov_lt hj) hS hl.1 (Nat.le_of_ble_eq_true rfl) rfl dX6_init_20 (fun H locs hW hS => ?_)
  replace hW := cu_sub (by decide) hW (by decide)
  refine n_put 6 (t := k) (n := k + 27) (v := .ref (b + (k + 14))) rfl inB6 tyX6 tyX6_ok nmX6 F hW ⟨by omega, by omega⟩ cu_k hS 1 (by decide) q_213 rfl (fun _ => ⟨hin, rfl⟩) rfl rfl rfl (Nat.le_of_ble_eq_true rfl) dX6_init_23 (fun H locs hW hS => ?_)
  replace hW : PW G b k (k + 27) (cu G b E k 27 6 [.ref (b + (k + 1)), .ref (b + (k + 14)), .int 0]) H := cu_put hW
  refine lv_aload_n hx hb dX6_init_26 rfl (lv_at hl 0 rfl) ?_
  refine lv_iconst (v := (0 : Int32)) hx hb dX6_init_27 (by decide) ?_
  refine n_put 6 (t := k) (n := k + 27) (v := .int 0) rfl inB6 tyX6 tyX6_ok nmX6 F hW ⟨by omega, by omega⟩ cu_k hS 2 (by decide) q_215 rfl (fun h => absurd h (by decide)) rfl rfl rfl (Nat.le_of_ble_eq_true rfl) dX6_init_28 (fun H locs hW hS => ?_)
  replace hW : PW G b k (k + 27) (cu G b E k 27 6 [.ref (b + (k + 1)), .ref (b + (k + 14)), .int 0]) H := cu_put hW
  have hf : wF G b mS k = .inr (6, [.ref (b + (k + 1)), .ref (b + (k + 14)), .int 0]) := by
    rw [wF_6 hk0.1]
    simp only [fl6, zc_z hk0.2]
  exact n_void F hr hW (Nat.le_refl _) (cu_end hf) hS dX6_init_31
set_option maxHeartbeats 4000000 in
theorem c_X6_new {l : Launch} (hk : stOk k) (hE : E k = .inr (6, [.null, .null, .int 0])) : Met l yX6_init (wU (Cond.code yX6_init cX6_init 1 none)) ({ frames := 3, cells := 26, slots := 622, locals := 62 } : Room) (PcG G b k (k + 1) E [.ref (b + k)]) (QNi G b k 27 (ov G b E k 27)) 26 622 (fb (b + k)) :=
  gmet_of [.ref (b + k)] (by decide) (Nat.le_of_ble_eq_true rfl) (fun F hr hin hW hzs hl => wk_X6_new hk hE F hr hin hW hzs hl)
def wsOk (k : Nat) : Prop := (ky k = 10 ∧ zc k = true) ∧ wrOk (k + 1) 192 ∧ rwOk (k + 3) 192
set_option maxHeartbeats 8000000 in
set_option maxRecDepth 100000 in
theorem wk_X10_new (hk : wsOk k) (hE : E k = .inr (10, [.null, .null, .int 0])) (F : FX G b RX10 cX10_init 1 p s m args meth c) (hr : meth.sig.returnType = none) (hin : meth.name = "<init>") (hW : PW G b k (k + 1) E s.heap) (hzs : s.heap.size = b + (k + 1)) (hl : lv_has ls 1 [(0, .ref (b + k))]) : W p l e ({ frames := 2, cells := 4, slots := 386, locals := 35 } : Room) s m args below meth c s.heap [] 0 0 (MQ below (QNi G b k 5 (ov G b E k 5)) args s 4 386 (fb (b + k))) (F0 m 0 ls []) := by
  obtain ⟨hk0, hk_0, hk_1⟩ := hk
  have hx := F.1
  have hb := F.2.1
  have hS : va_S (fb (b + k)) s.heap s.heap [] := va_S.rf
  replace hW := cu_1 hW hE
  refine lv_aload_n hx hb dX10_init_0 rfl (lv_at hl 0 rfl) ?_
  refine n_obj F hl.1 q_386 q_34 q_35 (Nat.le_of_ble_eq_true rfl) (Nat.le_of_ble_eq_true rfl) dX10_init_1 ?_
  refine lv_aload_n hx hb dX10_init_4 rfl (lv_at hl 0 rfl) ?_
  refine n_new 9 (fs := [.null]) (n := k + 1) rfl inB9 tyX9 tyX9_ok F q_387 q_60 q_5 hW ⟨by omega, by omega, by omega⟩ hS (fun j hj => by rcases (show j = 0 by omega) with rfl; rfl) ⟨Nat.le_of_ble_eq_true rfl, Nat.le_of_ble_eq_true rfl⟩ dX10_init_5 (fun H hW hS => ?_)
  refine lv_dup hx hb dX10_init_8 rfl ?_
  refine lv_sipush (v := (192 : Int32)) hx hb dX10_init_9 (by decide) ?_
  refine k_X9_new (t := k + 1) (N := 192) up_s ⟨by decide, by decide, by decide⟩ F q_388 ⟨by decide, by decide, Nat.le_of_ble_eq_true rfl, Nat.le_of_ble_eq_true rfl⟩ hW ⟨by omega, by omega⟩ hS hl.1 (Nat.le_of_ble_eq_true rfl) dX10_init_12 (fun H locs hW hS => ?_)
  replace hW := cu_wrow (by decide) hk_0 hW
  refine n_put 10 (t := k) (n := k + 3) (v := .ref (b + (k + 1))) rfl inB10 tyX10 tyX10_ok nmX10 F hW ⟨by omega, by omega⟩ cu_k hS 0 (by decide) q_391 rfl (fun _ => ⟨hin, rfl⟩) rfl rfl rfl (Nat.le_of_ble_eq_true rfl) dX10_init_15 (fun H locs hW hS => ?_)
  replace hW : PW G b k (k + 3) (cu G b E k 3 10 [.ref (b + (k + 1)), .null, .int 0]) H := cu_put hW
  refine lv_aload_n hx hb dX10_init_18 rfl (lv_at hl 0 rfl) ?_
  refine n_new 5 (fs := [.null]) (n := k + 3) rfl inB5 tyX5 tyX5_ok F q_389 q_127 q_8 hW ⟨by omega, by omega, by omega⟩ hS (fun j hj => by rcases (show j = 0 by omega) with rfl; rfl) ⟨Nat.le_of_ble_eq_true rfl, Nat.le_of_ble_eq_true rfl⟩ dX10_init_19 (fun H hW hS => ?_)
  refine lv_dup hx hb dX10_init_22 rfl ?_
  refine lv_sipush (v := (192 : Int32)) hx hb dX10_init_23 (by decide) ?_
  refine k_X5_new (t := k + 3) (N := 192) up_s ⟨by decide, by decide, by decide⟩ F q_390 ⟨by decide, by decide, Nat.le_of_ble_eq_true rfl, Nat.le_of_ble_eq_true rfl⟩ hW ⟨by omega, by omega⟩ hS hl.1 (Nat.le_of_ble_eq_true rfl) dX10_init_26 (fun H locs hW hS => ?_)
  replace hW := cu_row (by decide) hk_1 hW
  refine n_put 10 (t := k) (n := k + 5) (v := .ref (b + (k + 3))) rfl inB10 tyX10 tyX10_ok nmX10 F hW ⟨by omega, by omega⟩ cu_k hS 1 (by decide) q_392 rfl (fun _ => ⟨hin, rfl⟩) rfl rfl rfl (Nat.le_of_ble_eq_true rfl) dX10_init_29 (fun H locs hW hS => ?_)
  replace hW : PW G b k (k + 5) (cu G b E k 5 10 [.ref (b + (k + 1)), .ref (b + (k + 3)), .int 0]) H := cu_put hW
  refine lv_aload_n hx hb dX10_init_32 rfl (lv_at hl 0 rfl) ?_
  refine lv_iconst (v := (0 : Int32)) hx hb dX10_init_33 (by decide) ?_
  refine n_put 10 (t := k) (n := k + 5) (v := .int 0) rfl inB10 tyX10 tyX10_ok nmX10 F hW ⟨by omega, by omega⟩ cu_k hS 2 (by decide) q_394 rfl (fun h => absurd h (by decide)) rfl rfl rfl (Nat.le_of_ble_eq_true rfl) dX10_init_34 (fun H locs hW hS => ?_)
  replace hW : PW G b k (k + 5) (cu G b E k 5 10 [.ref (b + (k + 1)), .ref (b + (k + 3)), .int 0]) H := cu_put hW
  have hf : wF G b mS k = .inr (10, [.ref (b + (k + 1)), .ref (b + (k + 3)), .int 0]) := by
    rw [wF_10 hk0.1]
    simp only [fl10, zc_z hk0.2]
  exact n_void F hr hW (Nat.le_refl _) (cu_end hf) hS dX10_init_37
set_option maxHeartbeats 4000000 in
theorem c_X10_new {l : Launch} (hk : wsOk k) (hE : E k = .inr (10, [.null, .null, .int 0])) : Met l yX10_init (wU (Cond.code yX10_init cX10_init 1 none)) ({ frames := 2, cells := 4, slots := 386, locals := 35 } : Room) (PcG G b k (k + 1) E [.ref (b + k)]) (QNi G b k 5 (ov G b E k 5)) 4 386 (fb (b + k)) :=
  gmet_of [.ref (b + k)] (by decide) (Nat.le_of_ble_eq_true rfl) (fun F hr hin hW hzs hl => wk_X10_new hk hE F hr hin hW hzs hl)
def paOk (k : Nat) : Prop := k = 5 ∧ (ky 5 = 4) ∧ wrOk (5 + 1) 8 ∧ txOk (5 + 3) 0
set_option maxHeartbeats 8000000 in
set_option maxRecDepth 100000 in
theorem wk_X4_new (hk : paOk k) (hE : E k = .inr (4, [.int 0, .int 0, .null, .int 0, .null, .int 0, .int 0, .int 0, .int 0, .int 0, .int 0, .int 0])) (F : FX G b RX4 cX4_init 1 p s m args meth c) (hr : meth.sig.returnType = none) (hin : meth.name = "<init>") (hW : PW G b k (k + 1) E s.heap) (hzs : s.heap.size = b + (k + 1)) (hl : lv_has ls 1 [(0, .ref (b + k))]) : W p l e ({ frames := 2, cells := 4, slots := 11, locals := 35 } : Room) s m args below meth c s.heap [] 0 0 (MQ below (QNi G b k 5 (ov G b E k 5)) args s 4 11 (fb (b + k))) (F0 m 0 ls []) := by
  obtain ⟨rfl, hk0, hk_0, hk_1⟩ := hk
  have hx := F.1
  have hb := F.2.1
  have hS : va_S (fb (b + 5)) s.heap s.heap [] := va_S.rf
  replace hW := cu_1 hW hE
  refine lv_aload_n hx hb dX4_init_0 rfl (lv_at hl 0 rfl) ?_
  refine n_obj F hl.1 q_58 q_34 q_35 (Nat.le_of_ble_eq_true rfl) (Nat.le_of_ble_eq_true rfl) dX4_init_1 ?_
  refine lv_aload_n hx hb dX4_init_4 rfl (lv_at hl 0 rfl) ?_
  refine lv_iconst (v := (0 : Int32)) hx hb dX4_init_5 (by decide) ?_
  refine n_put 4 (t := 5) (n := 5 + 1) (v := .int 0) rfl inB4 tyX4 tyX4_ok nmX4 F hW ⟨by omega, by omega⟩ cu_k hS 0 (by decide) q_73 rfl (fun h => absurd h (by decide)) rfl rfl rfl (Nat.le_of_ble_eq_true rfl) dX4_init_6 (fun H locs hW hS => ?_)
  replace hW : PW G b 5 (5 + 1) (cu G b E 5 1 4 [.int 0, .int 0, .null, .int 0, .null, .int 0, .int 0, .int 0, .int 0, .int 0, .int 0, .int 0]) H := cu_put hW
  refine lv_aload_n hx hb dX4_init_9 rfl (lv_at hl 0 rfl) ?_
  refine lv_iconst (v := ((-1) : Int32)) hx hb dX4_init_10 (by decide) ?_
  refine n_put 4 (t := 5) (n := 5 + 1) (v := .int (-1)) rfl inB4 tyX4 tyX4_ok nmX4 F hW ⟨by omega, by omega⟩ cu_k hS 1 (by decide) q_75 rfl (fun h => absurd h (by decide)) rfl rfl rfl (Nat.le_of_ble_eq_true rfl) dX4_init_11 (fun H locs hW hS => ?_)
  replace hW : PW G b 5 (5 + 1) (cu G b E 5 1 4 [.int 0, .int (-1), .null, .int 0, .null, .int 0, .int 0, .int 0, .int 0, .int 0, .int 0, .int 0]) H := cu_put hW
  refine lv_aload_n hx hb dX4_init_14 rfl (lv_at hl 0 rfl) ?_
  refine n_new 9 (fs := [.null]) (n := 5 + 1) rfl inB9 tyX9 tyX9_ok F q_59 q_60 q_5 hW ⟨by omega, by omega, by omega⟩ hS (fun j hj => by rcases (show j = 0 by omega) with rfl; rfl) ⟨Nat.le_of_ble_eq_true rfl, Nat.le_of_ble_eq_true rfl⟩ dX4_init_15 (fun H hW hS => ?_)
  refine lv_dup hx hb dX4_init_18 rfl ?_
  refine lv_bipush (v := (8 : Int32)) hx hb dX4_init_19 (by decide) ?_
  refine k_X9_new (t := 5 + 1) (N := 8) up_s ⟨by decide, by decide, by decide⟩ F q_61 ⟨by decide, by decide, Nat.le_of_ble_eq_true rfl, Nat.le_of_ble_eq_true rfl⟩ hW ⟨by omega, by omega⟩ hS hl.1 (Nat.le_of_ble_eq_true rfl) dX4_init_21 (fun H locs hW hS => ?_)
  replace hW := cu_wrow (by decide) hk_0 hW
  refine n_put 4 (t := 5) (n := 5 + 3) (v := .ref (b + (5 + 1))) rfl inB4 tyX4 tyX4_ok nmX4 F hW ⟨by omega, by omega⟩ cu_k hS 2 (by decide) q_77 rfl (fun _ => ⟨hin, rfl⟩) rfl rfl rfl (Nat.le_of_ble_eq_true rfl) dX4_init_24 (fun H locs hW hS => ?_)
  replace hW : PW G b 5 (5 + 3) (cu G b E 5 3 4 [.int 0, .int (-1), .ref (b + (5 + 1)), .int 0, .null, .int 0, .int 0, .int 0, .int 0, .int 0, .int 0, .int 0]) H := cu_put hW
  refine lv_aload_n hx hb dX4_init_27 rfl (lv_at hl 0 rfl) ?_
  refine lv_iconst (v := (0 : Int32)) hx hb dX4_init_28 (by decide) ?_
  refine n_put 4 (t := 5) (n := 5 + 3) (v := .int 0) rfl inB4 tyX4 tyX4_ok nmX4 F hW ⟨by omega, by omega⟩ cu_k hS 3 (by decide) q_79 rfl (fun h => absurd h (by decide)) rfl rfl rfl (Nat.le_of_ble_eq_true rfl) dX4_init_29 (fun H locs hW hS => ?_)
  replace hW : PW G b 5 (5 + 3) (cu G b E 5 3 4 [.int 0, .int (-1), .ref (b + (5 + 1)), .int 0, .null, .int 0, .int 0, .int 0, .int 0, .int 0, .int 0, .int 0]) H := cu_put hW
  refine lv_aload_n hx hb dX4_init_32 rfl (lv_at hl 0 rfl) ?_
  refine n_new 8 (fs := [.null, .int 0]) (n := 5 + 3) rfl inB8 tyX8 tyX8_ok F q_71 q_37 q_2 hW ⟨by omega, by omega, by omega⟩ hS (fun j hj => by rcases (show j = 0 ∨ j = 1 by omega) with rfl | rfl <;> rfl) ⟨Nat.le_of_ble_eq_true rfl, Nat.le_of_ble_eq_true rfl⟩ dX4_init_33 (fun H hW hS => ?_)
  refine lv_dup hx hb dX4_init_36 rfl ?_
  refine lv_iconst (v := (0 : Int32)) hx hb dX4_init_37 (by decide) ?_
  refine k_X8_new (t := 5 + 3) (N := 0) up_s ⟨by decide, by decide, by decide⟩ F q_72 ⟨by decide, by decide, Nat.le_of_ble_eq_true rfl, Nat.le_of_ble_eq_true rfl⟩ hW ⟨by omega, by omega⟩ hS hl.1 (Nat.le_of_ble_eq_true rfl) dX4_init_38 (fun H locs hW hS => ?_)
  replace hW := cu_text (by decide) hk_1 hW
  refine n_put 4 (t := 5) (n := 5 + 5) (v := .ref (b + (5 + 3))) rfl inB4 tyX4 tyX4_ok nmX4 F hW ⟨by omega, by omega⟩ cu_k hS 4 (by decide) q_81 rfl (fun _ => ⟨hin, rfl⟩) rfl rfl rfl (Nat.le_of_ble_eq_true rfl) dX4_init_41 (fun H locs hW hS => ?_)
  replace hW : PW G b 5 (5 + 5) (cu G b E 5 5 4 [.int 0, .int (-1), .ref (b + (5 + 1)), .int 0, .ref (b + (5 + 3)), .int 0, .int 0, .int 0, .int 0, .int 0, .int 0, .int 0]) H := cu_put hW
  refine lv_aload_n hx hb dX4_init_44 rfl (lv_at hl 0 rfl) ?_
  refine lv_iconst (v := (0 : Int32)) hx hb dX4_init_45 (by decide) ?_
  refine n_put 4 (t := 5) (n := 5 + 5) (v := .int 0) rfl inB4 tyX4 tyX4_ok nmX4 F hW ⟨by omega, by omega⟩ cu_k hS 5 (by decide) q_82 rfl (fun h => absurd h (by decide)) rfl rfl rfl (Nat.le_of_ble_eq_true rfl) dX4_init_46 (fun H locs hW hS => ?_)
  replace hW : PW G b 5 (5 + 5) (cu G b E 5 5 4 [.int 0, .int (-1), .ref (b + (5 + 1)), .int 0, .ref (b + (5 + 3)), .int 0, .int 0, .int 0, .int 0, .int 0, .int 0, .int 0]) H := cu_put hW
  refine lv_aload_n hx hb dX4_init_49 rfl (lv_at hl 0 rfl) ?_
  refine lv_iconst (v := (0 : Int32)) hx hb dX4_init_50 (by decide) ?_
  refine n_put 4 (t := 5) (n := 5 + 5) (v := .int 0) rfl inB4 tyX4 tyX4_ok nmX4 F hW ⟨by omega, by omega⟩ cu_k hS 6 (by decide) q_83 rfl (fun h => absurd h (by decide)) rfl rfl rfl (Nat.le_of_ble_eq_true rfl) dX4_init_51 (fun H locs hW hS => ?_)
  replace hW : PW G b 5 (5 + 5) (cu G b E 5 5 4 [.int 0, .int (-1), .ref (b + (5 + 1)), .int 0, .ref (b + (5 + 3)), .int 0, .int 0, .int 0, .int 0, .int 0, .int 0, .int 0]) H := cu_put hW
  refine lv_aload_n hx hb dX4_init_54 rfl (lv_at hl 0 rfl) ?_
  refine lv_iconst (v := (0 : Int32)) hx hb dX4_init_55 (by decide) ?_
  refine n_put 4 (t := 5) (n := 5 + 5) (v := .int 0) rfl inB4 tyX4 tyX4_ok nmX4 F hW ⟨by omega, by omega⟩ cu_k hS 7 (by decide) q_84 rfl (fun h => absurd h (by decide)) rfl rfl rfl (Nat.le_of_ble_eq_true rfl) dX4_init_56 (fun H locs hW hS => ?_)
  replace hW : PW G b 5 (5 + 5) (cu G b E 5 5 4 [.int 0, .int (-1), .ref (b + (5 + 1)), .int 0, .ref (b + (5 + 3)), .int 0, .int 0, .int 0, .int 0, .int 0, .int 0, .int 0]) H := cu_put hW
  refine lv_aload_n hx hb dX4_init_59 rfl (lv_at hl 0 rfl) ?_
  refine lv_iconst (v := (0 : Int32)) hx hb dX4_init_60 (by decide) ?_
  refine n_put 4 (t := 5) (n := 5 + 5) (v := .int 0) rfl inB4 tyX4 tyX4_ok nmX4 F hW ⟨by omega, by omega⟩ cu_k hS 8 (by decide) q_85 rfl (fun h => absurd h (by decide)) rfl rfl rfl (Nat.le_of_ble_eq_true rfl) dX4_init_61 (fun H locs hW hS => ?_)
  replace hW : PW G b 5 (5 + 5) (cu G b E 5 5 4 [.int 0, .int (-1), .ref (b + (5 + 1)), .int 0, .ref (b + (5 + 3)), .int 0, .int 0, .int 0, .int 0, .int 0, .int 0, .int 0]) H := cu_put hW
  refine lv_aload_n hx hb dX4_init_64 rfl (lv_at hl 0 rfl) ?_
  refine lv_iconst (v := (0 : Int32)) hx hb dX4_init_65 (by decide) ?_
  refine n_put 4 (t := 5) (n := 5 + 5) (v := .int 0) rfl inB4 tyX4 tyX4_ok nmX4 F hW ⟨by omega, by omega⟩ cu_k hS 9 (by decide) q_86 rfl (fun h => absurd h (by decide)) rfl rfl rfl (Nat.le_of_ble_eq_true rfl) dX4_init_66 (fun H locs hW hS => ?_)
  replace hW : PW G b 5 (5 + 5) (cu G b E 5 5 4 [.int 0, .int (-1), .ref (b + (5 + 1)), .int 0, .ref (b + (5 + 3)), .int 0, .int 0, .int 0, .int 0, .int 0, .int 0, .int 0]) H := cu_put hW
  refine lv_aload_n hx hb dX4_init_69 rfl (lv_at hl 0 rfl) ?_
  refine lv_iconst (v := (0 : Int32)) hx hb dX4_init_70 (by decide) ?_
  refine n_put 4 (t := 5) (n := 5 + 5) (v := .int 0) rfl inB4 tyX4 tyX4_ok nmX4 F hW ⟨by omega, by omega⟩ cu_k hS 10 (by decide) q_87 rfl (fun h => absurd h (by decide)) rfl rfl rfl (Nat.le_of_ble_eq_true rfl) dX4_init_71 (fun H locs hW hS => ?_)
  replace hW : PW G b 5 (5 + 5) (cu G b E 5 5 4 [.int 0, .int (-1), .ref (b + (5 + 1)), .int 0, .ref (b + (5 + 3)), .int 0, .int 0, .int 0, .int 0, .int 0, .int 0, .int 0]) H := cu_put hW
  refine lv_aload_n hx hb dX4_init_74 rfl (lv_at hl 0 rfl) ?_
  refine lv_iconst (v := (0 : Int32)) hx hb dX4_init_75 (by decide) ?_
  refine n_put 4 (t := 5) (n := 5 + 5) (v := .int 0) rfl inB4 tyX4 tyX4_ok nmX4 F hW ⟨by omega, by omega⟩ cu_k hS 11 (by decide) q_88 rfl (fun h => absurd h (by decide)) rfl rfl rfl (Nat.le_of_ble_eq_true rfl) dX4_init_76 (fun H locs hW hS => ?_)
  replace hW : PW G b 5 (5 + 5) (cu G b E 5 5 4 [.int 0, .int (-1), .ref (b + (5 + 1)), .int 0, .ref (b + (5 + 3)), .int 0, .int 0, .int 0, .int 0, .int 0, .int 0, .int 0]) H := cu_put hW
  have hf : wF G b mS 5 = .inr (4, [.int 0, .int (-1), .ref (b + (5 + 1)), .int 0, .ref (b + (5 + 3)), .int 0, .int 0, .int 0, .int 0, .int 0, .int 0, .int 0]) := by
    rw [wF_4 hk0]
    rfl
  exact n_void F hr hW (Nat.le_refl _) (cu_end hf) hS dX4_init_79
set_option maxHeartbeats 4000000 in
theorem c_X4_new {l : Launch} (hk : paOk k) (hE : E k = .inr (4, [.int 0, .int 0, .null, .int 0, .null, .int 0, .int 0, .int 0, .int 0, .int 0, .int 0, .int 0])) : Met l yX4_init (wU (Cond.code yX4_init cX4_init 1 none)) ({ frames := 2, cells := 4, slots := 11, locals := 35 } : Room) (PcG G b k (k + 1) E [.ref (b + k)]) (QNi G b k 5 (ov G b E k 5)) 4 11 (fb (b + k)) :=
  gmet_of [.ref (b + k)] (by decide) (Nat.le_of_ble_eq_true rfl) (fun F hr hin hW hzs hl => wk_X4_new hk hE F hr hin hW hzs hl)
end NEW3
