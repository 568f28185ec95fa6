/-! CONSTRUCTORS: the class -/
def cv (G : Gt) (b : Nat) (E : Nat → va_E) (w : Nat) (fs : List Value) (a : va_E) : Nat → va_E := up (cu G b E 0 w 11 fs) 37 a
theorem cv_0 {G : Gt} {b : Nat} {E : Nat → va_E} {w : Nat} {fs : List Value} {a : va_E} : cv G b E w fs a 0 = .inr (11, fs) := (up_n (by omega)).trans cu_k
theorem cv_a {G : Gt} {b : Nat} {E : Nat → va_E} {w : Nat} {fs : List Value} {a : va_E} : cv G b E w fs a 37 = a := up_s
theorem cv_in {G : Gt} {b : Nat} {E : Nat → va_E} {w i : Nat} {fs : List Value} {a : va_E} (h : i ≠ 37) (h1 : 0 < i) (h2 : i < w) : cv G b E w fs a i = wF G b mS i := (up_n h).trans (cu_in h1 (by omega))
theorem cv_put {G : Gt} {b : Nat} {E : Nat → va_E} {w n : Nat} {fs fs' : List Value} {a : va_E} {H : Heap} (hW : PW G b 0 n (up (cv G b E w fs a) 0 (.inr (11, fs'))) H) : PW G b 0 n (cv G b E w fs' a) H := hW.cong (fun i h1 h2 => by
  by_cases h : i = 37
  · subst h
    rw [cv_a, up_n (by omega), cv_a]
  · unfold cv
    rw [up_n h]
    by_cases h0 : i = 0
    · subst h0
      rw [cu_k, up_s]
    · rw [up_n h0, up_n h]
      unfold cu
      rw [up_n h0, up_n h0])
theorem cv_set {G : Gt} {b : Nat} {E : Nat → va_E} {w n : Nat} {fs : List Value} {a a' : va_E} {H : Heap} (hW : PW G b 0 n (up (cv G b E w fs a) 37 a') H) : PW G b 0 n (cv G b E w fs a') H := by
  unfold cv at hW
  rw [up_up] at hW
  exact hW
theorem cv_new {G : Gt} {b : Nat} {E : Nat → va_E} {fs : List Value} {a : va_E} {H : Heap} (hW : PW G b 0 (37 + 1) (up (cu G b E 0 37 11 fs) 37 a) H) : PW G b 0 38 (cv G b E 38 fs a) H := hW.cong (fun i h1 h2 => by
  by_cases h : i = 37
  · subst h
    rw [cv_a, up_s]
  · rw [up_n h]
    by_cases h0 : i = 0
    · subst h0
      rw [cv_0, cu_k]
    · rw [cv_in h (by omega) (by omega), cu_in (by omega) (by omega)])
theorem cv_text {G : Gt} {b : Nat} {E : Nat → va_E} {w N : Nat} {fs : List Value} {x a : va_E} {H : Heap} (hw : 38 ≤ w) (hr : txOk w N) (hW : PW G b 0 (w + 2) (rowE G b (up (cv G b E w fs a) w x) w 8 [.ref (b + (w + 1)), .int 0] (.inl (G.2.1 0, N, .inl (fun _ => 0)))) H) : PW G b 0 (w + 2) (cv G b E (w + 2) fs a) H := hW.cong (fun i h1 h2 => by
  rcases Nat.lt_or_ge i w with h3 | h3
  · rw [rowE_n h3, up_n (by omega)]
    by_cases h : i = 37
    · subst h
      rw [cv_a, cv_a]
    · by_cases h0 : i = 0
      · subst h0
        rw [cv_0, cv_0]
      · rw [cv_in h (by omega) (by omega), cv_in h (by omega) h3]
  · rw [cv_in (by omega) (by omega) (by omega)]
    rcases (show i = w ∨ i = w + 1 by omega) with rfl | rfl
    · rw [tx_0 hr]
      unfold rowE
      rw [up_s]
    · rw [tx_1 hr]
      unfold rowE
      rw [up_n (by omega), up_s])
theorem cv_sub {G : Gt} {b : Nat} {E : Nat → va_E} {w v : Nat} {fs : List Value} {x a : va_E} {H : Heap} (hw : 38 ≤ w) (hW : PW G b 0 (w + v) (ov G b (up (cv G b E w fs a) w x) w v) H) (hv : 1 ≤ v) : PW G b 0 (w + v) (cv G b E (w + v) fs a) H := hW.cong (fun i h1 h2 => by
  rcases Nat.lt_or_ge i w with h3 | h3
  · rw [ov_lt h3, up_n (by omega)]
    by_cases h : i = 37
    · subst h
      rw [cv_a, cv_a]
    · by_cases h0 : i = 0
      · subst h0
        rw [cv_0, cv_0]
      · rw [cv_in h (by omega) (by omega), cv_in h (by omega) h3]
  · rw [cv_in (by omega) (by omega) (by omega)]
    exact (if_pos ⟨h3, h2⟩).symm)
/-- an array of references by its places alone -/
theorem at_arr {D : va_G} {cl : List vw_C} {q N : Nat} {cA : ClassId} {f f' : Nat → Option Nat} {H : Heap} (h : ∀ j, j < N → f j = f' j) (ha : va_at D cl (q, .inl (cA, N, .inr (.inr (.inr (.inr f))))) H) : va_at D cl (q, .inl (cA, N, .inr (.inr (.inr (.inr f'))))) H := by
  have e : (arrV cA N fun j => va_rf (f j)) = arrV cA N fun j => va_rf (f' j) := by
    unfold arrV
    congr 1
    congr 1
    funext j
    show va_rf (f j.1) = va_rf (f' j.1)
    rw [h j.1 j.2]
  exact (show H[q]? = some (arrV cA N fun j => va_rf (f j)) from ha).trans (by rw [e]; rfl)
theorem va_AO_of {s : State} {b : Addr} (h : (Cond.arrayOver (.object "ContentsSetter$State")).before #[Value.ref b] s = true) : va_AO "ContentsSetter$State" s := h
def ear (b : Nat) : Nat → Nat → Option Nat
  | 0 => fun _ => none
  | j + 1 => va_up (ear b j) j (some (b + (144 + 27 * j)))
theorem ear_6 {b j : Nat} (h : j < 6) : ear b 6 j = some (b + (144 + 27 * j)) := by
  rcases (show j = 0 ∨ j = 1 ∨ j = 2 ∨ j = 3 ∨ j = 4 ∨ j = 5 by omega) with rfl | rfl | rfl | rfl | rfl | rfl <;> rfl
abbrev eaC (G : Gt) (b j : Nat) : va_E := .inl (G.2.1 4, 6, .inr (.inr (.inr (.inr (ear b j)))))
section NEW4
variable {p : Program} {l : Launch} {e : Env} {R : Room} {s : State} {m : MethodId} {args : Array Value} {below : List Frame} {meth : Method} {c : Code} {H : Heap} {locs : List Loc} {cells slots : Nat} {Q : State → Prop}
variable {cc : ByteArray} {pc : Nat} {ls : Array Slot} {rest : List Value} {G : Gt} {b k t w n N : Nat} {E E1 : Nat → va_E} {own : String} {nL : Nat} {z i v : Int32}
theorem okLa38 : okLa 38 := by (repeat' apply And.intro) <;> rfl
theorem okBk11 : okBk 11 := by (repeat' apply And.intro) <;> rfl
theorem cu_row8 {w N : Nat} {fs : List Value} {x : va_E} (hw : 1 ≤ w) (hr : txOk w N) (hW : PW G b 0 (w + 2) (rowE G b (up (cu G b E 0 w 11 fs) w x) w 8 [.ref (b + (w + 1)), .int 0] (.inl (G.2.1 0, N, .inl (fun _ => 0)))) H) : PW G b 0 (w + 2) (cu G b E 0 (w + 2) 11 fs) H := hW.cong (fun i h1 h2 => by
  rcases Nat.lt_or_ge i w with h3 | h3
  · rw [rowE_n h3, up_n (by omega)]
    rcases Nat.lt_or_ge 0 i with h4 | h4
    · rw [cu_in h4 (by omega), cu_in h4 (by omega)]
    · obtain rfl : i = 0 := by omega
      rw [cu_k, cu_k]
  · rw [cu_in (by omega) (by omega)]
    rcases (show i = w ∨ i = w + 1 by omega) with rfl | rfl
    · rw [tx_0 hr]
      unfold rowE
      rw [up_s]
    · rw [tx_1 hr]
      unfold rowE
      rw [up_n (by omega), up_s])
theorem cu_sub8 {w v : Nat} {fs : List Value} {x : va_E} (hw : 1 ≤ w) (hW : PW G b 0 (w + v) (ov G b (up (cu G b E 0 w 11 fs) w x) w v) H) (hv : 1 ≤ v) : PW G b 0 (w + v) (cu G b E 0 (w + v) 11 fs) H := hW.cong (fun i h1 h2 => by
  rcases Nat.lt_or_ge i w with h3 | h3
  · rw [ov_lt h3, up_n (by omega)]
    rcases Nat.lt_or_ge 0 i with h4 | h4
    · rw [cu_in h4 (by omega), cu_in h4 (by omega)]
    · obtain rfl : i = 0 := by omega
      rw [cu_k, cu_k]
  · rw [cu_in (by omega) (by omega)]
    exact (if_pos ⟨h3, h2⟩).symm)
theorem hq_4_5 : paOk 5 := by (repeat' apply And.intro) <;> rfl
theorem hq_6_10 : stOk 10 := by (repeat' apply And.intro) <;> rfl
theorem hq_1_38 : lyOk 38 := by (repeat' apply And.intro) <;> rfl
theorem hq_10_80 : wsOk 80 := by (repeat' apply And.intro) <;> rfl
theorem hq_0_85 : bkOk 85 := by (repeat' apply And.intro) <;> rfl
theorem hq_1_98 : lyOk 98 := by (repeat' apply And.intro) <;> rfl
theorem hq_6_144 : stOk 144 := by (repeat' apply And.intro) <;> rfl
theorem hq_6_171 : stOk 171 := by (repeat' apply And.intro) <;> rfl
theorem hq_6_198 : stOk 198 := by (repeat' apply And.intro) <;> rfl
theorem hq_6_225 : stOk 225 := by (repeat' apply And.intro) <;> rfl
theorem hq_6_252 : stOk 252 := by (repeat' apply And.intro) <;> rfl
theorem hq_6_279 : stOk 279 := by (repeat' apply And.intro) <;> rfl
set_option maxHeartbeats 16000000 in
set_option maxRecDepth 100000 in
theorem wk_X11_new {n : Nat} {μ1 : Mm} (hn0 : G.2.2.2 13 = 0) (h : sh_X1_layAnew n 38 11 mS = some μ1) (hAO : va_AO "ContentsSetter$State" s) (hE : E 0 = .inr (11, [.null, .null, .null, .int 0, .int 0, .null, .null, .int 0, .int 0, .null, .null, .null, .null, .null, .null])) (F : FX G b RX11 cX11_init 2 p s m args meth c) (hr : meth.sig.returnType = none) (hin : meth.name = "<init>") (hW : PW G b 0 1 E s.heap) (hzs : s.heap.size = b + 1) (hl : lv_has ls 2 [(0, .ref (b + 0))]) : W p l e ({ frames := 6, cells := 305, slots := 24836, locals := 143 } : Room) s m args below meth c s.heap [] 0 0 (MQ below (QW G b μ1 none) args s 305 24836 (fb b)) (F0 m 0 ls []) := by
  have hx := F.1
  have hb := F.2.1
  have hS : va_S (fb (b + 0)) s.heap s.heap [] := va_S.rf
  replace hW : PW G b 0 1 (cu G b E 0 1 11 [.null, .null, .null, .int 0, .int 0, .null, .null, .int 0, .int 0, .null, .null, .null, .null, .null, .null]) s.heap := cu_1 hW hE
  refine lv_aload_n hx hb dX11_init_0 rfl (lv_at hl 0 rfl) ?_
  refine n_obj F hl.1 q_33 q_34 q_35 (Nat.le_of_ble_eq_true rfl) (Nat.le_of_ble_eq_true rfl) dX11_init_1 ?_
  refine lv_aload_n hx hb dX11_init_4 rfl (lv_at hl 0 rfl) ?_
  refine n_new 8 (fs := [.null, .int 0]) (n := 1) rfl inB8 tyX8 tyX8_ok F q_36 q_37 q_2 hW ⟨by omega, by omega, by omega⟩ hS (fun j hj => by rcases (show j = 0 ∨ j = 1 by omega) with rfl | rfl <;> rfl) ⟨Nat.le_of_ble_eq_true rfl, Nat.le_of_ble_eq_true rfl⟩ dX11_init_5 (fun H hW hS => ?_)
  refine lv_dup hx hb dX11_init_8 rfl ?_
  refine lv_sipush (v := (1100 : Int32)) hx hb dX11_init_9 (by decide) ?_
  refine k_X8_new (t := 1) (N := 1100) up_s ⟨by decide, by decide, by decide⟩ F q_38 ⟨by decide, by decide, Nat.le_of_ble_eq_true rfl, Nat.le_of_ble_eq_true rfl⟩ hW ⟨by omega, by omega⟩ hS hl.1 (Nat.le_of_ble_eq_true rfl) dX11_init_12 (fun H locs hW hS => ?_)
  replace hW : PW G b 0 3 (cu G b E 0 3 11 [.null, .null, .null, .int 0, .int 0, .null, .null, .int 0, .int 0, .null, .null, .null, .null, .null, .null]) H := by
    have := cu_row8 (w := 1) (by decide) (show txOk 1 1100 from ⟨⟨rfl, rfl⟩, rfl, rfl, rfl⟩) hW
    exact this
  refine n_put 11 (t := 0) (n := 3) (v := .ref (b + 1)) rfl inB11 tyX11 tyX11_ok nmX11 F hW ⟨by omega, by omega⟩ cu_k hS 0 (by decide) q_532 rfl (fun _ => ⟨hin, rfl⟩) rfl rfl rfl (Nat.le_of_ble_eq_true rfl) dX11_init_15 (fun H locs hW hS => ?_)
  replace hW : PW G b 0 3 (cu G b E 0 3 11 [.ref (b + 1), .null, .null, .int 0, .int 0, .null, .null, .int 0, .int 0, .null, .null, .null, .null, .null, .null]) H := cu_put hW
  refine lv_aload_n hx hb dX11_init_18 rfl (lv_at hl 0 rfl) ?_
  refine n_new 8 (fs := [.null, .int 0]) (n := 3) rfl inB8 tyX8 tyX8_ok F q_36 q_37 q_2 hW ⟨by omega, by omega, by omega⟩ hS (fun j hj => by rcases (show j = 0 ∨ j = 1 by omega) with rfl | rfl <;> rfl) ⟨Nat.le_of_ble_eq_true rfl, Nat.le_of_ble_eq_true rfl⟩ dX11_init_19 (fun H hW hS => ?_)
  refine lv_dup hx hb dX11_init_22 rfl ?_
  refine lv_sipush (v := (14400 : Int32)) hx hb dX11_init_23 (by decide) ?_
  refine k_X8_new (t := 3) (N := 14400) up_s ⟨by decide, by decide, by decide⟩ F q_38 ⟨by decide, by decide, Nat.le_of_ble_eq_true rfl, Nat.le_of_ble_eq_true rfl⟩ hW ⟨by omega, by omega⟩ hS hl.1 (Nat.le_of_ble_eq_true rfl) dX11_init_26 (fun H locs hW hS => ?_)
  replace hW : PW G b 0 5 (cu G b E 0 5 11 [.ref (b + 1), .null, .null, .int 0, .int 0, .null, .null, .int 0, .int 0, .null, .null, .null, .null, .null, .null]) H := by
    have := cu_row8 (w := 3) (by decide) (show txOk 3 14400 from ⟨⟨rfl, rfl⟩, rfl, rfl, rfl⟩) hW
    exact this
  refine n_put 11 (t := 0) (n := 5) (v := .ref (b + 3)) rfl inB11 tyX11 tyX11_ok nmX11 F hW ⟨by omega, by omega⟩ cu_k hS 1 (by decide) q_533 rfl (fun _ => ⟨hin, rfl⟩) rfl rfl rfl (Nat.le_of_ble_eq_true rfl) dX11_init_29 (fun H locs hW hS => ?_)
  replace hW : PW G b 0 5 (cu G b E 0 5 11 [.ref (b + 1), .ref (b + 3), .null, .int 0, .int 0, .null, .null, .int 0, .int 0, .null, .null, .null, .null, .null, .null]) H := cu_put hW
  refine lv_aload_n hx hb dX11_init_32 rfl (lv_at hl 0 rfl) ?_
  refine n_new 4 (fs := [.int 0, .int 0, .null, .int 0, .null, .int 0, .int 0, .int 0, .int 0, .int 0, .int 0, .int 0]) (n := 5) rfl inB4 tyX4 tyX4_ok F q_53 q_54 q_4 hW ⟨by omega, by omega, by omega⟩ hS (fun j hj => by rcases (show j = 0 ∨ j = 1 ∨ j = 2 ∨ j = 3 ∨ j = 4 ∨ j = 5 ∨ j = 6 ∨ j = 7 ∨ j = 8 ∨ j = 9 ∨ j = 10 ∨ j = 11 by omega) with rfl | rfl | rfl | rfl | rfl | rfl | rfl | rfl | rfl | rfl | rfl | rfl <;> rfl) ⟨Nat.le_of_ble_eq_true rfl, Nat.le_of_ble_eq_true rfl⟩ dX11_init_33 (fun H hW hS => ?_)
  refine lv_dup hx hb dX11_init_36 rfl ?_
  refine n_callN (As := []) (t := 5) (n := 5 + 1) (w := 5) (c_X4_new (hq_4_5) up_s) ⟨rfl, rfl⟩ q_56 q_4 q_57 rfl ⟨by decide +kernel, by decide +kernel, (show (parseMethodDescriptor yX4_init.desc).map (fun d => d.parameters.length) = some 0 by decide +kernel)⟩ F (List.mem_of_getElem? (i := 0) rfl) ⟨by decide, by decide, Nat.le_of_ble_eq_true rfl, Nat.le_of_ble_eq_true rfl⟩ hW ⟨by omega, by omega, by omega⟩ (fun j hj => ov_lt hj) hS hl.1 (Nat.le_of_ble_eq_true rfl) rfl dX11_init_37 (fun H locs hW hS => ?_)
  replace hW : PW G b 0 10 (cu G b E 0 10 11 [.ref (b + 1), .ref (b + 3), .null, .int 0, .int 0, .null, .null, .int 0, .int 0, .null, .null, .null, .null, .null, .null]) H := cu_sub8 (w := 5) (by decide) hW (by decide)
  refine n_put 11 (t := 0) (n := 10) (v := .ref (b + 5)) rfl inB11 tyX11 tyX11_ok nmX11 F hW ⟨by omega, by omega⟩ cu_k hS 2 (by decide) q_534 rfl (fun _ => ⟨hin, rfl⟩) rfl rfl rfl (Nat.le_of_ble_eq_true rfl) dX11_init_40 (fun H locs hW hS => ?_)
  replace hW : PW G b 0 10 (cu G b E 0 10 11 [.ref (b + 1), .ref (b + 3), .ref (b + 5), .int 0, .int 0, .null, .null, .int 0, .int 0, .null, .null, .null, .null, .null, .null]) H := cu_put hW
  refine lv_aload_n hx hb dX11_init_43 rfl (lv_at hl 0 rfl) ?_
  refine lv_iconst (v := (0 : Int32)) hx hb dX11_init_44 (by decide) ?_
  refine n_put 11 (t := 0) (n := 10) (v := .int 0) rfl inB11 tyX11 tyX11_ok nmX11 F hW ⟨by omega, by omega⟩ cu_k hS 3 (by decide) q_535 rfl (fun h => absurd h (by decide)) rfl rfl rfl (Nat.le_of_ble_eq_true rfl) dX11_init_45 (fun H locs hW hS => ?_)
  replace hW : PW G b 0 10 (cu G b E 0 10 11 [.ref (b + 1), .ref (b + 3), .ref (b + 5), .int 0, .int 0, .null, .null, .int 0, .int 0, .null, .null, .null, .null, .null, .null]) H := cu_put hW
  refine lv_aload_n hx hb dX11_init_48 rfl (lv_at hl 0 rfl) ?_
  refine lv_iconst (v := ((-1) : Int32)) hx hb dX11_init_49 (by decide) ?_
  refine n_put 11 (t := 0) (n := 10) (v := .int (-1)) rfl inB11 tyX11 tyX11_ok nmX11 F hW ⟨by omega, by omega⟩ cu_k hS 4 (by decide) q_536 rfl (fun h => absurd h (by decide)) rfl rfl rfl (Nat.le_of_ble_eq_true rfl) dX11_init_50 (fun H locs hW hS => ?_)
  replace hW : PW G b 0 10 (cu G b E 0 10 11 [.ref (b + 1), .ref (b + 3), .ref (b + 5), .int 0, .int (-1), .null, .null, .int 0, .int 0, .null, .null, .null, .null, .null, .null]) H := cu_put hW
  refine lv_aload_n hx hb dX11_init_53 rfl (lv_at hl 0 rfl) ?_
  refine n_new 6 (fs := [.null, .null, .int 0]) (n := 10) rfl inB6 tyX6 tyX6_ok F q_114 q_115 q_6 hW ⟨by omega, by omega, by omega⟩ hS (fun j hj => by rcases (show j = 0 ∨ j = 1 ∨ j = 2 by omega) with rfl | rfl | rfl <;> rfl) ⟨Nat.le_of_ble_eq_true rfl, Nat.le_of_ble_eq_true rfl⟩ dX11_init_54 (fun H hW hS => ?_)
  refine lv_dup hx hb dX11_init_57 rfl ?_
  refine n_callN (As := []) (t := 10) (n := 10 + 1) (w := 27) (c_X6_new (hq_6_10) up_s) ⟨rfl, rfl⟩ q_117 q_6 q_118 rfl ⟨by decide +kernel, by decide +kernel, (show (parseMethodDescriptor yX6_init.desc).map (fun d => d.parameters.length) = some 0 by decide +kernel)⟩ F (List.mem_of_getElem? (i := 1) rfl) ⟨by decide, by decide, Nat.le_of_ble_eq_true rfl, Nat.le_of_ble_eq_true rfl⟩ hW ⟨by omega, by omega, by omega⟩ (fun j hj => ov_lt hj) hS hl.1 (Nat.le_of_ble_eq_true rfl) rfl dX11_init_58 (fun H locs hW hS => ?_)
  replace hW : PW G b 0 37 (cu G b E 0 37 11 [.ref (b + 1), .ref (b + 3), .ref (b + 5), .int 0, .int (-1), .null, .null, .int 0, .int 0, .null, .null, .null, .null, .null, .null]) H := cu_sub8 (w := 10) (by decide) hW (by decide)
  refine n_put 11 (t := 0) (n := 37) (v := .ref (b + 10)) rfl inB11 tyX11 tyX11_ok nmX11 F hW ⟨by omega, by omega⟩ cu_k hS 5 (by decide) q_537 rfl (fun _ => ⟨hin, rfl⟩) rfl rfl rfl (Nat.le_of_ble_eq_true rfl) dX11_init_61 (fun H locs hW hS => ?_)
  replace hW : PW G b 0 37 (cu G b E 0 37 11 [.ref (b + 1), .ref (b + 3), .ref (b + 5), .int 0, .int (-1), .ref (b + 10), .null, .int 0, .int 0, .null, .null, .null, .null, .null, .null]) H := cu_put hW
  refine lv_aload_n hx hb dX11_init_64 rfl (lv_at hl 0 rfl) ?_
  refine lv_bipush (v := (6 : Int32)) hx hb dX11_init_65 (by decide) ?_
  refine n_newq (C := "ContentsSetter$State") (n := 37) (N := 6) rfl F q_114 hAO hW ⟨by omega, by omega, by omega⟩ hS (by decide) (by decide) (by decide) ⟨Nat.le_of_ble_eq_true rfl, Nat.le_of_ble_eq_true rfl⟩ dX11_init_67 (fun H hW hS => ?_)
  replace hW : PW G b 0 38 (cv G b E 38 [.ref (b + 1), .ref (b + 3), .ref (b + 5), .int 0, .int (-1), .ref (b + 10), .null, .int 0, .int 0, .null, .null, .null, .null, .null, .null] (eaC G b 0)) H := cv_new hW
  refine n_put 11 (t := 0) (n := 38) (v := .ref (b + 37)) rfl inB11 tyX11 tyX11_ok nmX11 F hW ⟨by omega, by omega⟩ cv_0 hS 6 (by decide) q_538 rfl (fun _ => ⟨hin, rfl⟩) rfl rfl rfl (Nat.le_of_ble_eq_true rfl) dX11_init_70 (fun H locs hW hS => ?_)
  replace hW : PW G b 0 38 (cv G b E 38 [.ref (b + 1), .ref (b + 3), .ref (b + 5), .int 0, .int (-1), .ref (b + 10), .ref (b + 37), .int 0, .int 0, .null, .null, .null, .null, .null, .null] (eaC G b 0)) H := cv_put hW
  refine lv_aload_n hx hb dX11_init_73 rfl (lv_at hl 0 rfl) ?_
  refine lv_iconst (v := (0 : Int32)) hx hb dX11_init_74 (by decide) ?_
  refine n_put 11 (t := 0) (n := 38) (v := .int 0) rfl inB11 tyX11 tyX11_ok nmX11 F hW ⟨by omega, by omega⟩ cv_0 hS 7 (by decide) q_539 rfl (fun h => absurd h (by decide)) rfl rfl rfl (Nat.le_of_ble_eq_true rfl) dX11_init_75 (fun H locs hW hS => ?_)
  replace hW : PW G b 0 38 (cv G b E 38 [.ref (b + 1), .ref (b + 3), .ref (b + 5), .int 0, .int (-1), .ref (b + 10), .ref (b + 37), .int 0, .int 0, .null, .null, .null, .null, .null, .null] (eaC G b 0)) H := cv_put hW
  refine lv_aload_n hx hb dX11_init_78 rfl (lv_at hl 0 rfl) ?_
  refine lv_iconst (v := (0 : Int32)) hx hb dX11_init_79 (by decide) ?_
  refine n_put 11 (t := 0) (n := 38) (v := .int 0) rfl inB11 tyX11 tyX11_ok nmX11 F hW ⟨by omega, by omega⟩ cv_0 hS 8 (by decide) q_540 rfl (fun h => absurd h (by decide)) rfl rfl rfl (Nat.le_of_ble_eq_true rfl) dX11_init_80 (fun H locs hW hS => ?_)
  replace hW : PW G b 0 38 (cv G b E 38 [.ref (b + 1), .ref (b + 3), .ref (b + 5), .int 0, .int (-1), .ref (b + 10), .ref (b + 37), .int 0, .int 0, .null, .null, .null, .null, .null, .null] (eaC G b 0)) H := cv_put hW
  refine lv_aload_n hx hb dX11_init_83 rfl (lv_at hl 0 rfl) ?_
  refine n_new 1 (fs := [.null, .null, .null, .int 0, .int 0]) (n := 38) rfl inB1 tyX1 tyX1_ok F q_225 q_226 q_9 hW ⟨by omega, by omega, by omega⟩ hS (fun j hj => by rcases (show j = 0 ∨ j = 1 ∨ j = 2 ∨ j = 3 ∨ j = 4 by omega) with rfl | rfl | rfl | rfl | rfl <;> rfl) ⟨Nat.le_of_ble_eq_true rfl, Nat.le_of_ble_eq_true rfl⟩ dX11_init_84 (fun H hW hS => ?_)
  refine lv_dup hx hb dX11_init_87 rfl ?_
  refine n_callN (As := []) (t := 38) (n := 38 + 1) (w := 42) (c_X1_new (hq_1_38) up_s) ⟨rfl, rfl⟩ q_228 q_9 q_229 rfl ⟨by decide +kernel, by decide +kernel, (show (parseMethodDescriptor yX1_init.desc).map (fun d => d.parameters.length) = some 0 by decide +kernel)⟩ F (List.mem_of_getElem? (i := 2) rfl) ⟨by decide, by decide, Nat.le_of_ble_eq_true rfl, Nat.le_of_ble_eq_true rfl⟩ hW ⟨by omega, by omega, by omega⟩ (fun j hj => ov_lt hj) hS hl.1 (Nat.le_of_ble_eq_true rfl) rfl dX11_init_88 (fun H locs hW hS => ?_)
  replace hW := cv_sub (by decide) hW (by decide)
  refine n_put 11 (t := 0) (n := 80) (v := .ref (b + 38)) rfl inB11 tyX11 tyX11_ok nmX11 F hW ⟨by omega, by omega⟩ cv_0 hS 9 (by decide) q_541 rfl (fun _ => ⟨hin, rfl⟩) rfl rfl rfl (Nat.le_of_ble_eq_true rfl) dX11_init_91 (fun H locs hW hS => ?_)
  replace hW : PW G b 0 80 (cv G b E 80 [.ref (b + 1), .ref (b + 3), .ref (b + 5), .int 0, .int (-1), .ref (b + 10), .ref (b + 37), .int 0, .int 0, .ref (b + 38), .null, .null, .null, .null, .null] (eaC G b 0)) H := cv_put hW
  refine lv_aload_n hx hb dX11_init_94 rfl (lv_at hl 0 rfl) ?_
  refine n_new 10 (fs := [.null, .null, .int 0]) (n := 80) rfl inB10 tyX10 tyX10_ok F q_381 q_382 q_13 hW ⟨by omega, by omega, by omega⟩ hS (fun j hj => by rcases (show j = 0 ∨ j = 1 ∨ j = 2 by omega) with rfl | rfl | rfl <;> rfl) ⟨Nat.le_of_ble_eq_true rfl, Nat.le_of_ble_eq_true rfl⟩ dX11_init_95 (fun H hW hS => ?_)
  refine lv_dup hx hb dX11_init_98 rfl ?_
  refine n_callN (As := []) (t := 80) (n := 80 + 1) (w := 5) (c_X10_new (hq_10_80) up_s) ⟨rfl, rfl⟩ q_384 q_13 q_385 rfl ⟨by decide +kernel, by decide +kernel, (show (parseMethodDescriptor yX10_init.desc).map (fun d => d.parameters.length) = some 0 by decide +kernel)⟩ F (List.mem_of_getElem? (i := 6) rfl) ⟨by decide, by decide, Nat.le_of_ble_eq_true rfl, Nat.le_of_ble_eq_true rfl⟩ hW ⟨by omega, by omega, by omega⟩ (fun j hj => ov_lt hj) hS hl.1 (Nat.le_of_ble_eq_true rfl) rfl dX11_init_99 (fun H locs hW hS => ?_)
  replace hW := cv_sub (by decide) hW (by decide)
  refine n_put 11 (t := 0) (n := 85) (v := .ref (b + 80)) rfl inB11 tyX11 tyX11_ok nmX11 F hW ⟨by omega, by omega⟩ cv_0 hS 10 (by decide) q_542 rfl (fun _ => ⟨hin, rfl⟩) rfl rfl rfl (Nat.le_of_ble_eq_true rfl) dX11_init_102 (fun H locs hW hS => ?_)
  replace hW : PW G b 0 85 (cv G b E 85 [.ref (b + 1), .ref (b + 3), .ref (b + 5), .int 0, .int (-1), .ref (b + 10), .ref (b + 37), .int 0, .int 0, .ref (b + 38), .ref (b + 80), .null, .null, .null, .null] (eaC G b 0)) H := cv_put hW
  refine lv_aload_n hx hb dX11_init_105 rfl (lv_at hl 0 rfl) ?_
  refine n_new 0 (fs := [.null, .int 0, .int 0, .int 0, .null, .null, .null, .null, .null]) (n := 85) rfl inB0 tyX0 tyX0_ok F q_403 q_121 q_7 hW ⟨by omega, by omega, by omega⟩ hS (fun j hj => by rcases (show j = 0 ∨ j = 1 ∨ j = 2 ∨ j = 3 ∨ j = 4 ∨ j = 5 ∨ j = 6 ∨ j = 7 ∨ j = 8 by omega) with rfl | rfl | rfl | rfl | rfl | rfl | rfl | rfl | rfl <;> rfl) ⟨Nat.le_of_ble_eq_true rfl, Nat.le_of_ble_eq_true rfl⟩ dX11_init_106 (fun H hW hS => ?_)
  refine lv_dup hx hb dX11_init_109 rfl ?_
  refine n_call (As := []) (t := 85) (n := 85 + 1) (w := 13) (c_X0_new (hq_0_85) up_s) ⟨rfl, rfl⟩ q_123 q_7 q_124 rfl ⟨by decide +kernel, by decide +kernel, (show (parseMethodDescriptor yX0_init.desc).map (fun d => d.parameters.length) = some 0 by decide +kernel)⟩ F q_404 ⟨by decide, by decide, Nat.le_of_ble_eq_true rfl, Nat.le_of_ble_eq_true rfl⟩ hW ⟨by omega, by omega, by omega⟩ (fun j hj => ov_lt hj) hS hl.1 (Nat.le_of_ble_eq_true rfl) rfl dX11_init_110 (fun H locs hW hS => ?_)
  replace hW := cv_sub (by decide) hW (by decide)
  refine n_put 11 (t := 0) (n := 98) (v := .ref (b + 85)) rfl inB11 tyX11 tyX11_ok nmX11 F hW ⟨by omega, by omega⟩ cv_0 hS 11 (by decide) q_543 rfl (fun _ => ⟨hin, rfl⟩) rfl rfl rfl (Nat.le_of_ble_eq_true rfl) dX11_init_113 (fun H locs hW hS => ?_)
  replace hW : PW G b 0 98 (cv G b E 98 [.ref (b + 1), .ref (b + 3), .ref (b + 5), .int 0, .int (-1), .ref (b + 10), .ref (b + 37), .int 0, .int 0, .ref (b + 38), .ref (b + 80), .ref (b + 85), .null, .null, .null] (eaC G b 0)) H := cv_put hW
  refine lv_aload_n hx hb dX11_init_116 rfl (lv_at hl 0 rfl) ?_
  refine n_new 1 (fs := [.null, .null, .null, .int 0, .int 0]) (n := 98) rfl inB1 tyX1 tyX1_ok F q_225 q_226 q_9 hW ⟨by omega, by omega, by omega⟩ hS (fun j hj => by rcases (show j = 0 ∨ j = 1 ∨ j = 2 ∨ j = 3 ∨ j = 4 by omega) with rfl | rfl | rfl | rfl | rfl <;> rfl) ⟨Nat.le_of_ble_eq_true rfl, Nat.le_of_ble_eq_true rfl⟩ dX11_init_117 (fun H hW hS => ?_)
  refine lv_dup hx hb dX11_init_120 rfl ?_
  refine n_callN (As := []) (t := 98) (n := 98 + 1) (w := 42) (c_X1_new (hq_1_98) up_s) ⟨rfl, rfl⟩ q_228 q_9 q_229 rfl ⟨by decide +kernel, by decide +kernel, (show (parseMethodDescriptor yX1_init.desc).map (fun d => d.parameters.length) = some 0 by decide +kernel)⟩ F (List.mem_of_getElem? (i := 2) rfl) ⟨by decide, by decide, Nat.le_of_ble_eq_true rfl, Nat.le_of_ble_eq_true rfl⟩ hW ⟨by omega, by omega, by omega⟩ (fun j hj => ov_lt hj) hS hl.1 (Nat.le_of_ble_eq_true rfl) rfl dX11_init_121 (fun H locs hW hS => ?_)
  replace hW := cv_sub (by decide) hW (by decide)
  refine n_put 11 (t := 0) (n := 140) (v := .ref (b + 98)) rfl inB11 tyX11 tyX11_ok nmX11 F hW ⟨by omega, by omega⟩ cv_0 hS 12 (by decide) q_544 rfl (fun _ => ⟨hin, rfl⟩) rfl rfl rfl (Nat.le_of_ble_eq_true rfl) dX11_init_124 (fun H locs hW hS => ?_)
  replace hW : PW G b 0 140 (cv G b E 140 [.ref (b + 1), .ref (b + 3), .ref (b + 5), .int 0, .int (-1), .ref (b + 10), .ref (b + 37), .int 0, .int 0, .ref (b + 38), .ref (b + 80), .ref (b + 85), .ref (b + 98), .null, .null] (eaC G b 0)) H := cv_put hW
  refine lv_aload_n hx hb dX11_init_127 rfl (lv_at hl 0 rfl) ?_
  refine n_new 8 (fs := [.null, .int 0]) (n := 140) rfl inB8 tyX8 tyX8_ok F q_36 q_37 q_2 hW ⟨by omega, by omega, by omega⟩ hS (fun j hj => by rcases (show j = 0 ∨ j = 1 by omega) with rfl | rfl <;> rfl) ⟨Nat.le_of_ble_eq_true rfl, Nat.le_of_ble_eq_true rfl⟩ dX11_init_128 (fun H hW hS => ?_)
  refine lv_dup hx hb dX11_init_131 rfl ?_
  refine lv_sipush (v := (600 : Int32)) hx hb dX11_init_132 (by decide) ?_
  refine k_X8_new (t := 140) (N := 600) up_s ⟨by decide, by decide, by decide⟩ F q_38 ⟨by decide, by decide, Nat.le_of_ble_eq_true rfl, Nat.le_of_ble_eq_true rfl⟩ hW ⟨by omega, by omega⟩ hS hl.1 (Nat.le_of_ble_eq_true rfl) dX11_init_135 (fun H locs hW hS => ?_)
  replace hW := cv_text (by decide) (show txOk 140 600 from ⟨⟨rfl, rfl⟩, rfl, rfl, rfl⟩) hW
  refine n_put 11 (t := 0) (n := 142) (v := .ref (b + 140)) rfl inB11 tyX11 tyX11_ok nmX11 F hW ⟨by omega, by omega⟩ cv_0 hS 13 (by decide) q_545 rfl (fun _ => ⟨hin, rfl⟩) rfl rfl rfl (Nat.le_of_ble_eq_true rfl) dX11_init_138 (fun H locs hW hS => ?_)
  replace hW : PW G b 0 142 (cv G b E 142 [.ref (b + 1), .ref (b + 3), .ref (b + 5), .int 0, .int (-1), .ref (b + 10), .ref (b + 37), .int 0, .int 0, .ref (b + 38), .ref (b + 80), .ref (b + 85), .ref (b + 98), .ref (b + 140), .null] (eaC G b 0)) H := cv_put hW
  refine lv_aload_n hx hb dX11_init_141 rfl (lv_at hl 0 rfl) ?_
  refine n_new 8 (fs := [.null, .int 0]) (n := 142) rfl inB8 tyX8 tyX8_ok F q_36 q_37 q_2 hW ⟨by omega, by omega, by omega⟩ hS (fun j hj => by rcases (show j = 0 ∨ j = 1 by omega) with rfl | rfl <;> rfl) ⟨Nat.le_of_ble_eq_true rfl, Nat.le_of_ble_eq_true rfl⟩ dX11_init_142 (fun H hW hS => ?_)
  refine lv_dup hx hb dX11_init_145 rfl ?_
  refine lv_sipush (v := (600 : Int32)) hx hb dX11_init_146 (by decide) ?_
  refine k_X8_new (t := 142) (N := 600) up_s ⟨by decide, by decide, by decide⟩ F q_38 ⟨by decide, by decide, Nat.le_of_ble_eq_true rfl, Nat.le_of_ble_eq_true rfl⟩ hW ⟨by omega, by omega⟩ hS hl.1 (Nat.le_of_ble_eq_true rfl) dX11_init_149 (fun H locs hW hS => ?_)
  replace hW := cv_text (by decide) (show txOk 142 600 from ⟨⟨rfl, rfl⟩, rfl, rfl, rfl⟩) hW
  refine n_put 11 (t := 0) (n := 144) (v := .ref (b + 142)) rfl inB11 tyX11 tyX11_ok nmX11 F hW ⟨by omega, by omega⟩ cv_0 hS 14 (by decide) q_546 rfl (fun _ => ⟨hin, rfl⟩) rfl rfl rfl (Nat.le_of_ble_eq_true rfl) dX11_init_152 (fun H locs hW hS => ?_)
  replace hW : PW G b 0 144 (cv G b E 144 [.ref (b + 1), .ref (b + 3), .ref (b + 5), .int 0, .int (-1), .ref (b + 10), .ref (b + 37), .int 0, .int 0, .ref (b + 38), .ref (b + 80), .ref (b + 85), .ref (b + 98), .ref (b + 140), .ref (b + 142)] (eaC G b 0)) H := cv_put hW
  refine lv_iconst (v := (0 : Int32)) hx hb dX11_init_155 (by decide) ?_
  refine lv_istore_n (i := 1) (lv' := [(1, .int 0), (0, .ref (b + 0))]) hx hb dX11_init_156 rfl hl (by decide) rfl (fun ls hl => ?_)
  refine lv_iload_n hx hb dX11_init_157 rfl (lv_at hl 0 rfl) ?_
  refine lv_aload_n hx hb dX11_init_158 rfl (lv_at hl 1 rfl) ?_
  refine n_get 11 (t := 0) (n := 144) (v := .ref (b + 37)) rfl inB11 F hW ⟨by omega, by omega⟩ cv_0 6 (by decide) q_538 rfl rfl dX11_init_159 ?_
  refine va_alen (ty := .object "ContentsSetter$State") (x := (6, .inr (.inr (.inr (.inr (ear b 0)))))) hx hb F.2.2.2.2.2.1 (pl_P hW) (37 - 0) 4 (by rw [pl_get (by omega) (by omega), cv_a]) rfl rfl dX11_init_162 ?_
  refine lv_icmp_ge (tgt := 185) hx hb dX11_init_163 (by decide) (fun cc => absurd cc (show ¬ (nI 6 ≤ (0 : Int32)) by decide)) (fun cc => ?_)
  refine lv_aload_n hx hb dX11_init_166 rfl (lv_at hl 1 rfl) ?_
  refine n_get 11 (t := 0) (n := 144) (v := .ref (b + 37)) rfl inB11 F hW ⟨by omega, by omega⟩ cv_0 6 (by decide) q_538 rfl rfl dX11_init_167 ?_
  refine lv_iload_n hx hb dX11_init_170 rfl (lv_at hl 0 rfl) ?_
  refine n_new 6 (fs := [.null, .null, .int 0]) (n := 144) rfl inB6 tyX6 tyX6_ok F q_114 q_115 q_6 hW ⟨by omega, by omega, by omega⟩ hS (fun j hj => by rcases (show j = 0 ∨ j = 1 ∨ j = 2 by omega) with rfl | rfl | rfl <;> rfl) ⟨Nat.le_of_ble_eq_true rfl, Nat.le_of_ble_eq_true rfl⟩ dX11_init_171 (fun H hW hS => ?_)
  refine lv_dup hx hb dX11_init_174 rfl ?_
  refine n_callN (As := []) (t := 144) (n := 144 + 1) (w := 27) (c_X6_new (hq_6_144) up_s) ⟨rfl, rfl⟩ q_117 q_6 q_118 rfl ⟨by decide +kernel, by decide +kernel, (show (parseMethodDescriptor yX6_init.desc).map (fun d => d.parameters.length) = some 0 by decide +kernel)⟩ F (List.mem_of_getElem? (i := 1) rfl) ⟨by decide, by decide, Nat.le_of_ble_eq_true rfl, Nat.le_of_ble_eq_true rfl⟩ hW ⟨by omega, by omega, by omega⟩ (fun j hj => ov_lt hj) hS hl.1 (Nat.le_of_ble_eq_true rfl) rfl dX11_init_175 (fun H locs hW hS => ?_)
  replace hW := cv_sub (by decide) hW (by decide)
  refine n_aast (t := 37) (v := 144) (n := 144 + 27) (ci := 6) (N := 6) (f := ear b 0) F hW ⟨by omega, by omega⟩ cv_a ⟨by omega, by omega⟩ ((cv_in (by omega) (by omega) (by omega)).trans (wF_6 rfl)) rfl rfl hS (inb_in (by decide)) dX11_init_178 (fun H locs hW hS => ?_)
  replace hW : PW G b 0 171 (cv G b E 171 [.ref (b + 1), .ref (b + 3), .ref (b + 5), .int 0, .int (-1), .ref (b + 10), .ref (b + 37), .int 0, .int 0, .ref (b + 38), .ref (b + 80), .ref (b + 85), .ref (b + 98), .ref (b + 140), .ref (b + 142)] (eaC G b 1)) H := cv_set hW
  refine lv_iinc (v := (1 : Int32)) (lv' := [(1, .int (1 : Int32)), (0, .ref (b + 0))]) hx hb dX11_init_179 hl (k := 0) rfl rfl (by decide) rfl (fun ls hl => ?_)
  refine lv_goto (tgt := 157) hx hb dX11_init_182 (by decide) ?_
  refine lv_iload_n hx hb dX11_init_157 rfl (lv_at hl 0 rfl) ?_
  refine lv_aload_n hx hb dX11_init_158 rfl (lv_at hl 1 rfl) ?_
  refine n_get 11 (t := 0) (n := 171) (v := .ref (b + 37)) rfl inB11 F hW ⟨by omega, by omega⟩ cv_0 6 (by decide) q_538 rfl rfl dX11_init_159 ?_
  refine va_alen (ty := .object "ContentsSetter$State") (x := (6, .inr (.inr (.inr (.inr (ear b 1)))))) hx hb F.2.2.2.2.2.1 (pl_P hW) (37 - 0) 4 (by rw [pl_get (by omega) (by omega), cv_a]) rfl rfl dX11_init_162 ?_
  refine lv_icmp_ge (tgt := 185) hx hb dX11_init_163 (by decide) (fun cc => absurd cc (show ¬ (nI 6 ≤ (1 : Int32)) by decide)) (fun cc => ?_)
  refine lv_aload_n hx hb dX11_init_166 rfl (lv_at hl 1 rfl) ?_
  refine n_get 11 (t := 0) (n := 171) (v := .ref (b + 37)) rfl inB11 F hW ⟨by omega, by omega⟩ cv_0 6 (by decide) q_538 rfl rfl dX11_init_167 ?_
  refine lv_iload_n hx hb dX11_init_170 rfl (lv_at hl 0 rfl) ?_
  refine n_new 6 (fs := [.null, .null, .int 0]) (n := 171) rfl inB6 tyX6 tyX6_ok F q_114 q_115 q_6 hW ⟨by omega, by omega, by omega⟩ hS (fun j hj => by rcases (show j = 0 ∨ j = 1 ∨ j = 2 by omega) with rfl | rfl | rfl <;> rfl) ⟨Nat.le_of_ble_eq_true rfl, Nat.le_of_ble_eq_true rfl⟩ dX11_init_171 (fun H hW hS => ?_)
  refine lv_dup hx hb dX11_init_174 rfl ?_
  refine n_callN (As := []) (t := 171) (n := 171 + 1) (w := 27) (c_X6_new (hq_6_171) up_s) ⟨rfl, rfl⟩ q_117 q_6 q_118 rfl ⟨by decide +kernel, by decide +kernel, (show (parseMethodDescriptor yX6_init.desc).map (fun d => d.parameters.length) = some 0 by decide +kernel)⟩ F (List.mem_of_getElem? (i := 1) rfl) ⟨by decide, by decide, Nat.le_of_ble_eq_true rfl, Nat.le_of_ble_eq_true rfl⟩ hW ⟨by omega, by omega, by omega⟩ (fun j hj => ov_lt hj) hS hl.1 (Nat.le_of_ble_eq_true rfl) rfl dX11_init_175 (fun H locs hW hS => ?_)
  replace hW := cv_sub (by decide) hW (by decide)
  refine n_aast (t := 37) (v := 171) (n := 171 + 27) (ci := 6) (N := 6) (f := ear b 1) F hW ⟨by omega, by omega⟩ cv_a ⟨by omega, by omega⟩ ((cv_in (by omega) (by omega) (by omega)).trans (wF_6 rfl)) rfl rfl hS (inb_in (by decide)) dX11_init_178 (fun H locs hW hS => ?_)
  replace hW : PW G b 0 198 (cv G b E 198 [.ref (b + 1), .ref (b + 3), .ref (b + 5), .int 0, .int (-1), .ref (b + 10), .ref (b + 37), .int 0, .int 0, .ref (b + 38), .ref (b + 80), .ref (b + 85), .ref (b + 98), .ref (b + 140), .ref (b + 142)] (eaC G b 2)) H := cv_set hW
  refine lv_iinc (v := (2 : Int32)) (lv' := [(1, .int (2 : Int32)), (0, .ref (b + 0))]) hx hb dX11_init_179 hl (k := 0) rfl rfl (by decide) rfl (fun ls hl => ?_)
  refine lv_goto (tgt := 157) hx hb dX11_init_182 (by decide) ?_
  refine lv_iload_n hx hb dX11_init_157 rfl (lv_at hl 0 rfl) ?_
  refine lv_aload_n hx hb dX11_init_158 rfl (lv_at hl 1 rfl) ?_
  refine n_get 11 (t := 0) (n := 198) (v := .ref (b + 37)) rfl inB11 F hW ⟨by omega, by omega⟩ cv_0 6 (by decide) q_538 rfl rfl dX11_init_159 ?_
  refine va_alen (ty := .object "ContentsSetter$State") (x := (6, .inr (.inr (.inr (.inr (ear b 2)))))) hx hb F.2.2.2.2.2.1 (pl_P hW) (37 - 0) 4 (by rw [pl_get (by omega) (by omega), cv_a]) rfl rfl dX11_init_162 ?_
  refine lv_icmp_ge (tgt := 185) hx hb dX11_init_163 (by decide) (fun cc => absurd cc (show ¬ (nI 6 ≤ (2 : Int32)) by decide)) (fun cc => ?_)
  refine lv_aload_n hx hb dX11_init_166 rfl (lv_at hl 1 rfl) ?_
  refine n_get 11 (t := 0) (n := 198) (v := .ref (b + 37)) rfl inB11 F hW ⟨by omega, by omega⟩ cv_0 6 (by decide) q_538 rfl rfl dX11_init_167 ?_
  refine lv_iload_n hx hb dX11_init_170 rfl (lv_at hl 0 rfl) ?_
  refine n_new 6 (fs := [.null, .null, .int 0]) (n := 198) rfl inB6 tyX6 tyX6_ok F q_114 q_115 q_6 hW ⟨by omega, by omega, by omega⟩ hS (fun j hj => by rcases (show j = 0 ∨ j = 1 ∨ j = 2 by omega) with rfl | rfl | rfl <;> rfl) ⟨Nat.le_of_ble_eq_true rfl, Nat.le_of_ble_eq_true rfl⟩ dX11_init_171 (fun H hW hS => ?_)
  refine lv_dup hx hb dX11_init_174 rfl ?_
  refine n_callN (As := []) (t := 198) (n := 198 + 1) (w := 27) (c_X6_new (hq_6_198) up_s) ⟨rfl, rfl⟩ q_117 q_6 q_118 rfl ⟨by decide +kernel, by decide +kernel, (show (parseMethodDescriptor yX6_init.desc).map (fun d => d.parameters.length) = some 0 by decide +kernel)⟩ F (List.mem_of_getElem? (i := 1) rfl) ⟨by decide, by decide, Nat.le_of_ble_eq_true rfl, Nat.le_of_ble_eq_true rfl⟩ hW ⟨by omega, by omega, by omega⟩ (fun j hj => ov_lt hj) hS hl.1 (Nat.le_of_ble_eq_true rfl) rfl dX11_init_175 (fun H locs hW hS => ?_)
  replace hW := cv_sub (by decide) hW (by decide)
  refine n_aast (t := 37) (v := 198) (n := 198 + 27) (ci := 6) (N := 6) (f := ear b 2) F hW ⟨by omega, by omega⟩ cv_a ⟨by omega, by omega⟩ ((cv_in (by omega) (by omega) (by omega)).trans (wF_6 rfl)) rfl rfl hS (inb_in (by decide)) dX11_init_178 (fun H locs hW hS => ?_)
  replace hW : PW G b 0 225 (cv G b E 225 [.ref (b + 1), .ref (b + 3), .ref (b + 5), .int 0, .int (-1), .ref (b + 10), .ref (b + 37), .int 0, .int 0, .ref (b + 38), .ref (b + 80), .ref (b + 85), .ref (b + 98), .ref (b + 140), .ref (b + 142)] (eaC G b 3)) H := cv_set hW
  refine lv_iinc (v := (3 : Int32)) (lv' := [(1, .int (3 : Int32)), (0, .ref (b + 0))]) hx hb dX11_init_179 hl (k := 0) rfl rfl (by decide) rfl (fun ls hl => ?_)
  refine lv_goto (tgt := 157) hx hb dX11_init_182 (by decide) ?_
  refine lv_iload_n hx hb dX11_init_157 rfl (lv_at hl 0 rfl) ?_
  refine lv_aload_n hx hb dX11_init_158 rfl (lv_at hl 1 rfl) ?_
  refine n_get 11 (t := 0) (n := 225) (v := .ref (b + 37)) rfl inB11 F hW ⟨by omega, by omega⟩ cv_0 6 (by decide) q_538 rfl rfl dX11_init_159 ?_
  refine va_alen (ty := .object "ContentsSetter$State") (x := (6, .inr (.inr (.inr (.inr (ear b 3)))))) hx hb F.2.2.2.2.2.1 (pl_P hW) (37 - 0) 4 (by rw [pl_get (by omega) (by omega), cv_a]) rfl rfl dX11_init_162 ?_
  refine lv_icmp_ge (tgt := 185) hx hb dX11_init_163 (by decide) (fun cc => absurd cc (show ¬ (nI 6 ≤ (3 : Int32)) by decide)) (fun cc => ?_)
  refine lv_aload_n hx hb dX11_init_166 rfl (lv_at hl 1 rfl) ?_
  refine n_get 11 (t := 0) (n := 225) (v := .ref (b + 37)) rfl inB11 F hW ⟨by omega, by omega⟩ cv_0 6 (by decide) q_538 rfl rfl dX11_init_167 ?_
  refine lv_iload_n hx hb dX11_init_170 rfl (lv_at hl 0 rfl) ?_
  refine n_new 6 (fs := [.null, .null, .int 0]) (n := 225) rfl inB6 tyX6 tyX6_ok F q_114 q_115 q_6 hW ⟨by omega, by omega, by omega⟩ hS (fun j hj => by rcases (show j = 0 ∨ j = 1 ∨ j = 2 by omega) with rfl | rfl | rfl <;> rfl) ⟨Nat.le_of_ble_eq_true rfl, Nat.le_of_ble_eq_true rfl⟩ dX11_init_171 (fun H hW hS => ?_)
  refine lv_dup hx hb dX11_init_174 rfl ?_
  refine n_callN (As := []) (t := 225) (n := 225 + 1) (w := 27) (c_X6_new (hq_6_225) up_s) ⟨rfl, rfl⟩ q_117 q_6 q_118 rfl ⟨by decide +kernel, by decide +kernel, (show (parseMethodDescriptor yX6_init.desc).map (fun d => d.parameters.length) = some 0 by decide +kernel)⟩ F (List.mem_of_getElem? (i := 1) rfl) ⟨by decide, by decide, Nat.le_of_ble_eq_true rfl, Nat.le_of_ble_eq_true rfl⟩ hW ⟨by omega, by omega, by omega⟩ (fun j hj => ov_lt hj) hS hl.1 (Nat.le_of_ble_eq_true rfl) rfl dX11_init_175 (fun H locs hW hS => ?_)
  replace hW := cv_sub (by decide) hW (by decide)
  refine n_aast (t := 37) (v := 225) (n := 225 + 27) (ci := 6) (N := 6) (f := ear b 3) F hW ⟨by omega, by omega⟩ cv_a ⟨by omega, by omega⟩ ((cv_in (by omega) (by omega) (by omega)).trans (wF_6 rfl)) rfl rfl hS (inb_in (by decide)) dX11_init_178 (fun H locs hW hS => ?_)
  replace hW : PW G b 0 252 (cv G b E 252 [.ref (b + 1), .ref (b + 3), .ref (b + 5), .int 0, .int (-1), .ref (b + 10), .ref (b + 37), .int 0, .int 0, .ref (b + 38), .ref (b + 80), .ref (b + 85), .ref (b + 98), .ref (b + 140), .ref (b + 142)] (eaC G b 4)) H := cv_set hW
  refine lv_iinc (v := (4 : Int32)) (lv' := [(1, .int (4 : Int32)), (0, .ref (b + 0))]) hx hb dX11_init_179 hl (k := 0) rfl rfl (by decide) rfl (fun ls hl => ?_)
  refine lv_goto (tgt := 157) hx hb dX11_init_182 (by decide) ?_
  refine lv_iload_n hx hb dX11_init_157 rfl (lv_at hl 0 rfl) ?_
  refine lv_aload_n hx hb dX11_init_158 rfl (lv_at hl 1 rfl) ?_
  refine n_get 11 (t := 0) (n := 252) (v := .ref (b + 37)) rfl inB11 F hW ⟨by omega, by omega⟩ cv_0 6 (by decide) q_538 rfl rfl dX11_init_159 ?_
  refine va_alen (ty := .object "ContentsSetter$State") (x := (6, .inr (.inr (.inr (.inr (ear b 4)))))) hx hb F.2.2.2.2.2.1 (pl_P hW) (37 - 0) 4 (by rw [pl_get (by omega) (by omega), cv_a]) rfl rfl dX11_init_162 ?_
  refine lv_icmp_ge (tgt := 185) hx hb dX11_init_163 (by decide) (fun cc => absurd cc (show ¬ (nI 6 ≤ (4 : Int32)) by decide)) (fun cc => ?_)
  refine lv_aload_n hx hb dX11_init_166 rfl (lv_at hl 1 rfl) ?_
  refine n_get 11 (t := 0) (n := 252) (v := .ref (b + 37)) rfl inB11 F hW ⟨by omega, by omega⟩ cv_0 6 (by decide) q_538 rfl rfl dX11_init_167 ?_
  refine lv_iload_n hx hb dX11_init_170 rfl (lv_at hl 0 rfl) ?_
  refine n_new 6 (fs := [.null, .null, .int 0]) (n := 252) rfl inB6 tyX6 tyX6_ok F q_114 q_115 q_6 hW ⟨by omega, by omega, by omega⟩ hS (fun j hj => by rcases (show j = 0 ∨ j = 1 ∨ j = 2 by omega) with rfl | rfl | rfl <;> rfl) ⟨Nat.le_of_ble_eq_true rfl, Nat.le_of_ble_eq_true rfl⟩ dX11_init_171 (fun H hW hS => ?_)
  refine lv_dup hx hb dX11_init_174 rfl ?_
  refine n_callN (As := []) (t := 252) (n := 252 + 1) (w := 27) (c_X6_new (hq_6_252) up_s) ⟨rfl, rfl⟩ q_117 q_6 q_118 rfl ⟨by decide +kernel, by decide +kernel, (show (parseMethodDescriptor yX6_init.desc).map (fun d => d.parameters.length) = some 0 by decide +kernel)⟩ F (List.mem_of_getElem? (i := 1) rfl) ⟨by decide, by decide, Nat.le_of_ble_eq_true rfl, Nat.le_of_ble_eq_true rfl⟩ hW ⟨by omega, by omega, by omega⟩ (fun j hj => ov_lt hj) hS hl.1 (Nat.le_of_ble_eq_true rfl) rfl dX11_init_175 (fun H locs hW hS => ?_)
  replace hW := cv_sub (by decide) hW (by decide)
  refine n_aast (t := 37) (v := 252) (n := 252 + 27) (ci := 6) (N := 6) (f := ear b 4) F hW ⟨by omega, by omega⟩ cv_a ⟨by omega, by omega⟩ ((cv_in (by omega) (by omega) (by omega)).trans (wF_6 rfl)) rfl rfl hS (inb_in (by decide)) dX11_init_178 (fun H locs hW hS => ?_)
  replace hW : PW G b 0 279 (cv G b E 279 [.ref (b + 1), .ref (b + 3), .ref (b + 5), .int 0, .int (-1), .ref (b + 10), .ref (b + 37), .int 0, .int 0, .ref (b + 38), .ref (b + 80), .ref (b + 85), .ref (b + 98), .ref (b + 140), .ref (b + 142)] (eaC G b 5)) H := cv_set hW
  refine lv_iinc (v := (5 : Int32)) (lv' := [(1, .int (5 : Int32)), (0, .ref (b + 0))]) hx hb dX11_init_179 hl (k := 0) rfl rfl (by decide) rfl (fun ls hl => ?_)
  refine lv_goto (tgt := 157) hx hb dX11_init_182 (by decide) ?_
  refine lv_iload_n hx hb dX11_init_157 rfl (lv_at hl 0 rfl) ?_
  refine lv_aload_n hx hb dX11_init_158 rfl (lv_at hl 1 rfl) ?_
  refine n_get 11 (t := 0) (n := 279) (v := .ref (b + 37)) rfl inB11 F hW ⟨by omega, by omega⟩ cv_0 6 (by decide) q_538 rfl rfl dX11_init_159 ?_
  refine va_alen (ty := .object "ContentsSetter$State") (x := (6, .inr (.inr (.inr (.inr (ear b 5)))))) hx hb F.2.2.2.2.2.1 (pl_P hW) (37 - 0) 4 (by rw [pl_get (by omega) (by omega), cv_a]) rfl rfl dX11_init_162 ?_
  refine lv_icmp_ge (tgt := 185) hx hb dX11_init_163 (by decide) (fun cc => absurd cc (show ¬ (nI 6 ≤ (5 : Int32)) by decide)) (fun cc => ?_)
  refine lv_aload_n hx hb dX11_init_166 rfl (lv_at hl 1 rfl) ?_
  refine n_get 11 (t := 0) (n := 279) (v := .ref (b + 37)) rfl inB11 F hW ⟨by omega, by omega⟩ cv_0 6 (by decide) q_538 rfl rfl dX11_init_167 ?_
  refine lv_iload_n hx hb dX11_init_170 rfl (lv_at hl 0 rfl) ?_
  refine n_new 6 (fs := [.null, .null, .int 0]) (n := 279) rfl inB6 tyX6 tyX6_ok F q_114 q_115 q_6 hW ⟨by omega, by omega, by omega⟩ hS (fun j hj => by rcases (show j = 0 ∨ j = 1 ∨ j = 2 by omega) with rfl | rfl | rfl <;> rfl) ⟨Nat.le_of_ble_eq_true rfl, Nat.le_of_ble_eq_true rfl⟩ dX11_init_171 (fun H hW hS => ?_)
  refine lv_dup hx hb dX11_init_174 rfl ?_
  refine n_callN (As := []) (t := 279) (n := 279 + 1) (w := 27) (c_X6_new (hq_6_279) up_s) ⟨rfl, rfl⟩ q_117 q_6 q_118 rfl ⟨by decide +kernel, by decide +kernel, (show (parseMethodDescriptor yX6_init.desc).map (fun d => d.parameters.length) = some 0 by decide +kernel)⟩ F (List.mem_of_getElem? (i := 1) rfl) ⟨by decide, by decide, Nat.le_of_ble_eq_true rfl, Nat.le_of_ble_eq_true rfl⟩ hW ⟨by omega, by omega, by omega⟩ (fun j hj => ov_lt hj) hS hl.1 (Nat.le_of_ble_eq_true rfl) rfl dX11_init_175 (fun H locs hW hS => ?_)
  replace hW := cv_sub (by decide) hW (by decide)
  refine n_aast (t := 37) (v := 279) (n := 279 + 27) (ci := 6) (N := 6) (f := ear b 5) F hW ⟨by omega, by omega⟩ cv_a ⟨by omega, by omega⟩ ((cv_in (by omega) (by omega) (by omega)).trans (wF_6 rfl)) rfl rfl hS (inb_in (by decide)) dX11_init_178 (fun H locs hW hS => ?_)
  replace hW : PW G b 0 306 (cv G b E 306 [.ref (b + 1), .ref (b + 3), .ref (b + 5), .int 0, .int (-1), .ref (b + 10), .ref (b + 37), .int 0, .int 0, .ref (b + 38), .ref (b + 80), .ref (b + 85), .ref (b + 98), .ref (b + 140), .ref (b + 142)] (eaC G b 6)) H := cv_set hW
  refine lv_iinc (v := (6 : Int32)) (lv' := [(1, .int (6 : Int32)), (0, .ref (b + 0))]) hx hb dX11_init_179 hl (k := 0) rfl rfl (by decide) rfl (fun ls hl => ?_)
  refine lv_goto (tgt := 157) hx hb dX11_init_182 (by decide) ?_
  refine lv_iload_n hx hb dX11_init_157 rfl (lv_at hl 0 rfl) ?_
  refine lv_aload_n hx hb dX11_init_158 rfl (lv_at hl 1 rfl) ?_
  refine n_get 11 (t := 0) (n := 306) (v := .ref (b + 37)) rfl inB11 F hW ⟨by omega, by omega⟩ cv_0 6 (by decide) q_538 rfl rfl dX11_init_159 ?_
  refine va_alen (ty := .object "ContentsSetter$State") (x := (6, .inr (.inr (.inr (.inr (ear b 6)))))) hx hb F.2.2.2.2.2.1 (pl_P hW) (37 - 0) 4 (by rw [pl_get (by omega) (by omega), cv_a]) rfl rfl dX11_init_162 ?_
  refine lv_icmp_ge (tgt := 185) hx hb dX11_init_163 (by decide) (fun cc => ?_) (fun cc => absurd (show (nI 6 ≤ (6 : Int32)) by decide) cc)
  have hf : wF G b mS 0 = .inr (11, [.ref (b + 1), .ref (b + 3), .ref (b + 5), .int 0, .int (-1), .ref (b + 10), .ref (b + 37), .int 0, .int 0, .ref (b + 38), .ref (b + 80), .ref (b + 85), .ref (b + 98), .ref (b + 140), .ref (b + 142)]) := (wF_11 rfl).trans rfl
  have hH : WH G b mS H := by
    refine ⟨fun i hi => ?_, Or.inl rfl, rfl, rfl⟩
    have hi : i < 306 := by unfold nn at hi; omega
    have h := hW i (Nat.zero_le i) hi
    by_cases h7 : i = 37
    · subst h7
      rw [cv_a] at h
      rw [wF_17 rfl]
      exact at_arr (fun j hj => ear_6 hj) h
    · by_cases h0 : i = 0
      · subst h0
        rw [cv_0] at h
        rw [hf]
        exact h
      · rw [cv_in h7 (by omega) hi] at h
        exact h
  have hS : va_S (fb b) s.heap H locs := hS
  refine lv_aload_n hx hb dX11_init_185 rfl (lv_at hl 1 rfl) ?_
  refine n_get 11 (t := 0) (n := 306) (v := .ref (b + 38)) rfl inB11 F hW ⟨by omega, by omega⟩ cv_0 9 (by decide) q_541 rfl rfl dX11_init_186 ?_
  refine lv_aload_n hx hb dX11_init_189 rfl (lv_at hl 1 rfl) ?_
  refine n_get 11 (t := 0) (n := 306) (v := .ref (b + 10)) rfl inB11 F hW ⟨by omega, by omega⟩ cv_0 5 (by decide) q_537 rfl rfl dX11_init_190 ?_
  refine n_get 6 (t := 10) (n := 306) (v := .ref (b + 11)) rfl inB6 F hW ⟨by omega, by omega⟩ ((cv_in (by omega) (by omega) (by omega)).trans (wF_6 rfl)) 0 (by decide) q_212 rfl rfl dX11_init_193 ?_
  refine k_X1_layAnew (t := 38) (a1 := 11) F okLa38 okBk11 h q_405 ⟨by decide, by decide, Nat.le_of_ble_eq_true rfl, Nat.le_of_ble_eq_true rfl⟩ hH hS hl.1 (Nat.le_of_ble_eq_true rfl) dX11_init_196 (fun H locs hW hS => ?_)
  exact r_void F hr hW hS dX11_init_199
end NEW4
/-- what the class's constructor asks of its start -/
def PcS (G : Gt) (b : Nat) (E : Nat → va_E) (av : List Value) : Array Value → State → Prop := va_Pc av (fun U => (PW G b 0 1 E U.heap ∧ U.heap.size = b + 1) ∧ WK G U ∧ NW U ∧ SW G b U U.heap ∧ va_AO "ContentsSetter$State" U)
theorem PcS.blind {G : Gt} {b : Nat} {E : Nat → va_E} {av : List Value} : FrameBlind (PcS G b E av) := fun a U g mk h => ⟨h.1, h.2.1, va_K.moved (u := U) (U := U.calling g mk a) (Vm.Alike.refl U.vm) h.2.2.1, NW.same (u := U) (U := U.calling g mk a) rfl h.2.2.2.1, SW.calling h.2.2.2.2.1, h.2.2.2.2.2⟩
set_option maxHeartbeats 4000000 in
theorem c_X11_new {l : Launch} {G : Gt} {b n : Nat} {E : Nat → va_E} {μ1 : Mm} (hn0 : G.2.2.2 13 = 0) (h : sh_X1_layAnew n 38 11 mS = some μ1) (hE : E 0 = .inr (11, [.null, .null, .null, .int 0, .int 0, .null, .null, .int 0, .int 0, .null, .null, .null, .null, .null, .null])) : Met l yX11_init (wU (Cond.code yX11_init cX11_init 2 none)) ({ frames := 6, cells := 305, slots := 24836, locals := 143 } : Room) (PcS G b E [.ref (b + 0)]) (QW G b μ1 none) 305 24836 (fb b) := by
  refine Met.ofW (cc := cX11_init) (maxL := 2) (ret := none) (by decide) rfl ?_
  intro p e s m args below meth c s₁ B hml hv
  obtain ⟨rfl, ⟨hW, hz⟩, hK, hN, hSW, hAO⟩ := hv
  have hts := atoms_spec (ws := wU (Cond.code yX11_init cX11_init 2 none)) B.pre
  have F : FX G b yX11_init.cls cX11_init 2 p s m ([.ref (b + 0)] : List Value).toArray meth c := ⟨B.exec, B.bytes, hml, findClass_of_methodNamed B.named, fun w hw => hts w (List.mem_cons_of_mem _ hw), hK, hN, hSW, B.notSynchronized⟩
  have hl := lv_entry ([.ref (b + 0)]) (n := 2) (Nat.le_of_ble_eq_true rfl)
  rw [lg_entry_eq]
  generalize (lg_sl ([.ref (b + 0)]) ++ List.replicate (2 - (lg_sl ([.ref (b + 0)])).length) Slot.unset).toArray = ls at hl ⊢
  exact wk_X11_new hn0 h hAO hE F B.returns (name_of_methodNamed B.named B.method).1 hW hz hl
