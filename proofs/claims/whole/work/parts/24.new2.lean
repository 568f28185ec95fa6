/-! CONSTRUCTORS: the book -/
theorem up_up {E : Nat → va_E} {k : Nat} {a c : va_E} : up (up E k a) k c = up E k c := by
  funext i
  unfold up
  split <;> rfl
theorem up_id {E : Nat → va_E} {k : Nat} {a : va_E} (h : E k = a) : up E k a = E := by
  funext i
  unfold up
  split
  · next q => rw [q, h]
  · rfl
theorem PW.cong {G : Gt} {b k n : Nat} {E E' : Nat → va_E} {H : Heap} (h : PW G b k n E H) (he : ∀ i, k ≤ i → i < n → E' i = E i) : PW G b k n E' H := fun i h1 h2 => by
  rw [he i h1 h2]
  exact h i h1 h2
def bkF (b k : Nat) : List Value := [.ref (b + (k + 1)), .int 0, .int 0, .int 0, .ref (b + (k + 3)), .ref (b + (k + 5)), .ref (b + (k + 7)), .ref (b + (k + 9)), .ref (b + (k + 11))]
def set8 : Nat → Int32 := upd (upd (upd (upd (upd (upd (upd (upd (fun _ => 0) 0 60) 1 40) 2 40) 3 2) 4 3) 5 1) 6 2) 7 3
section NEW2
variable {p : Program} {l : Launch} {e : Env} {R : Room} {s : State} {m : MethodId} {args : Array Value} {below : List Frame} {meth : Method} {c : Code} {H : Heap} {locs : List Loc} {cells slots : Nat} {Q : State → Prop}
variable {cc : ByteArray} {pc : Nat} {ls : Array Slot} {rest : List Value} {G : Gt} {b k t w n N : Nat} {E E1 : Nat → va_E} {own : String} {nL : Nat} {z i v : Int32} {f : Nat → Int32}
set_option maxHeartbeats 4000000 in
set_option maxRecDepth 100000 in
theorem wk_X5_putN (h0 : E t = .inr (5, [.ref (b + (t + 1))])) (h1 : E (t + 1) = .inl (G.2.1 1, 8, .inl f)) (hi : ¬ i < 0 ∧ ¬ nI 8 ≤ i ∧ vp_in i 8) (hn : t + 1 < n) (F : FX G b RX5 cX5_put 3 p s m args meth c) (hr : meth.sig.returnType = none) (hW : PW G b t n E s.heap) (hl : lv_has ls 3 [(0, .ref (b + t)), (1, .int i), (2, .int v)]) : W p l e ({ frames := 0, cells := 0, slots := 0, locals := 0 } : Room) s m args below meth c s.heap [] 0 0 (MQ below (QNi G b t (n - t) (up E (t + 1) (.inl (G.2.1 1, 8, .inl (upd f i.toNatClampNeg v))))) args s 0 0 (fb (b + t))) (F0 m 0 ls []) := by
  have hx := F.1
  have hb := F.2.1
  have hS : va_S (fb (b + t)) s.heap s.heap [] := va_S.rf
  refine lv_iload_n hx hb dX5_put_0 rfl (lv_at hl 1 rfl) ?_
  refine lv_if_lt (tgt := 20) hx hb dX5_put_1 (by decide) (fun cc => absurd cc hi.1) (fun cc => ?_)
  refine lv_iload_n hx hb dX5_put_4 rfl (lv_at hl 1 rfl) ?_
  refine lv_aload_n hx hb dX5_put_5 rfl (lv_at hl 0 rfl) ?_
  refine n_get 5 rfl inB5 F hW ⟨by omega, by omega⟩ h0 0 (by decide) q_133 rfl rfl dX5_put_6 ?_
  refine va_alen (ty := .int) (x := (8, .inl f)) hx hb F.2.2.2.2.2.1 (pl_P hW) (t + 1 - t) 1 (by rw [pl_get (by omega) hn, h1]) rfl rfl dX5_put_9 ?_
  refine lv_icmp_ge (tgt := 20) hx hb dX5_put_10 (by decide) (fun cc => absurd cc hi.2.1) (fun cc => ?_)
  refine lv_aload_n hx hb dX5_put_13 rfl (lv_at hl 0 rfl) ?_
  refine n_get 5 rfl inB5 F hW ⟨by omega, by omega⟩ h0 0 (by decide) q_133 rfl rfl dX5_put_14 ?_
  refine lv_iload_n hx hb dX5_put_17 rfl (lv_at hl 1 rfl) ?_
  refine lv_iload_n hx hb dX5_put_18 rfl (lv_at hl 2 rfl) ?_
  refine n_iast F hW ⟨by omega, hn⟩ h1 hS hi.2.2 dX5_put_19 (fun H locs hW hS => ?_)
  exact n_void F hr hW (by omega) (fun _ _ _ => rfl) hS dX5_put_20
set_option maxHeartbeats 4000000 in
theorem k_X5_putN (h0 : E t = .inr (5, [.ref (b + (t + 1))])) (h1 : E (t + 1) = .inl (G.2.1 1, 8, .inl f)) (hi : ¬ i < 0 ∧ ¬ nI 8 ≤ i ∧ vp_in i 8) (F : FX G b own cc nL p s m args meth c) {index : Nat} (hl : Cond.methodLink own index yX5_put ∈ TBG) (hR : 1 ≤ R.frames ∧ 22 ≤ R.locals ∧ cells ≤ R.cells ∧ slots ≤ R.slots) (hW : PW G b k n E H) (hkt : k ≤ t ∧ t + 1 < n ∧ s.heap.size + cells = b + n) (hS : va_S (fb (b + k)) s.heap H locs) (hsz : ls.size = nL) (hrest : (rest.map fun v => v.category).sum ≤ 8) (hdg : decode cc pc = .ok (.invokevirtual index, 3))
    (kk : ∀ (H1 : Heap) (locs1 : List Loc), PW G b k n (up E (t + 1) (.inl (G.2.1 1, 8, .inl (upd f i.toNatClampNeg v)))) H1 → va_S (fb (b + k)) s.heap H1 locs1 → W p l e R s m args below meth c H1 locs1 cells slots Q (F0 m (pc + 3) ls rest)) : W p l e R s m args below meth c H locs cells slots Q (F0 m pc ls (.int v :: .int i :: .ref (b + t) :: rest)) := by
  refine n_eq hW ⟨by omega, hkt.2.2⟩ (fun hz => ?_)
  have hM : Met l yX5_put (wU (Cond.code yX5_put cX5_put 3 none)) ({ frames := 0, cells := 0, slots := 0, locals := 0 } : Room) (PcG G b t n E [.ref (b + t), .int i, .int v]) (QNi G b t (n - t) (up E (t + 1) (.inl (G.2.1 1, 8, .inl (upd f i.toNatClampNeg v))))) 0 0 (fb (b + t)) :=
    gmet_of [.ref (b + t), .int i, .int v] (by decide) (Nat.le_of_ble_eq_true rfl) (fun F hr hin hW hzs hl => wk_X5_putN h0 h1 hi hkt.2.1 F hr hW hl)
  refine n_callV (As := [.int i, .int v]) (ci := 5) hM ⟨rfl, rfl⟩ rfl h0 q_145 q_146 q_8 q_147 rfl ⟨by decide +kernel, by decide +kernel, (show (parseMethodDescriptor yX5_put.desc).map (fun d => d.parameters.length) = some 2 by decide +kernel)⟩ F hl ⟨hR.1, hR.2.1, hR.2.2⟩ hW ⟨hkt.1, by omega⟩ hz (fun j hj => up_n (by omega)) hS hsz hrest rfl hdg (fun H1 locs1 hW1 hS1 => ?_)
  rw [show t + (n - t) = n by omega] at hW1
  exact kk H1 locs1 hW1 hS1
set_option maxHeartbeats 4000000 in
set_option maxRecDepth 100000 in
theorem wk_X0_emptyN (h0 : E k = .inr (0, bkF b k)) (h1 : E (k + 1) = .inr (5, [.ref (b + (k + 2))])) (h2 : E (k + 2) = .inl (G.2.1 1, 8, .inl (fun _ => 0))) (hn : k + 2 < n) (F : FX G b RX0 cX0_empty 1 p s m args meth c) (hr : meth.sig.returnType = none) (hW : PW G b k n E s.heap) (hzs : s.heap.size = b + n) (hl : lv_has ls 1 [(0, .ref (b + k))]) : W p l e ({ frames := 1, cells := 0, slots := 0, locals := 22 } : Room) s m args below meth c s.heap [] 0 0 (MQ below (QNi G b k (n - k) (up E (k + 2) (.inl (G.2.1 1, 8, .inl set8)))) args s 0 0 (fb (b + k))) (F0 m 0 ls []) := by
  have hx := F.1
  have hb := F.2.1
  have hS : va_S (fb (b + k)) s.heap s.heap [] := va_S.rf
  refine lv_aload_n hx hb dX0_empty_0 rfl (lv_at hl 0 rfl) ?_
  refine n_get 0 rfl inB0 F hW ⟨by omega, by omega⟩ h0 0 (by decide) q_148 rfl rfl dX0_empty_1 ?_
  refine lv_iconst (v := (0 : Int32)) hx hb dX0_empty_4 (by decide) ?_
  refine lv_bipush (v := (60 : Int32)) hx hb dX0_empty_5 (by decide) ?_
  refine k_X5_putN (t := k + 1) h1 h2 ⟨by decide, by decide, inb_in (by decide)⟩ F q_144 ⟨by decide, by decide, Nat.zero_le _, Nat.zero_le _⟩ hW ⟨by omega, by omega, by omega⟩ hS hl.1 (by decide) dX0_empty_7 (fun H locs hW hS => ?_)
  refine lv_aload_n hx hb dX0_empty_10 rfl (lv_at hl 0 rfl) ?_
  refine n_get 0 rfl inB0 F hW ⟨by omega, by omega⟩ ((up_n (by omega)).trans h0) 0 (by decide) q_148 rfl rfl dX0_empty_11 ?_
  refine lv_iconst (v := (1 : Int32)) hx hb dX0_empty_14 (by decide) ?_
  refine lv_bipush (v := (40 : Int32)) hx hb dX0_empty_15 (by decide) ?_
  refine k_X5_putN (t := k + 1) ((up_n (by omega)).trans h1) up_s ⟨by decide, by decide, inb_in (by decide)⟩ F q_144 ⟨by decide, by decide, Nat.zero_le _, Nat.zero_le _⟩ hW ⟨by omega, by omega, by omega⟩ hS hl.1 (by decide) dX0_empty_17 (fun H locs hW hS => ?_)
  rw [up_up] at hW
  refine lv_aload_n hx hb dX0_empty_20 rfl (lv_at hl 0 rfl) ?_
  refine n_get 0 rfl inB0 F hW ⟨by omega, by omega⟩ ((up_n (by omega)).trans h0) 0 (by decide) q_148 rfl rfl dX0_empty_21 ?_
  refine lv_iconst (v := (2 : Int32)) hx hb dX0_empty_24 (by decide) ?_
  refine lv_bipush (v := (40 : Int32)) hx hb dX0_empty_25 (by decide) ?_
  refine k_X5_putN (t := k + 1) ((up_n (by omega)).trans h1) up_s ⟨by decide, by decide, inb_in (by decide)⟩ F q_144 ⟨by decide, by decide, Nat.zero_le _, Nat.zero_le _⟩ hW ⟨by omega, by omega, by omega⟩ hS hl.1 (by decide) dX0_empty_27 (fun H locs hW hS => ?_)
  rw [up_up] at hW
  refine lv_aload_n hx hb dX0_empty_30 rfl (lv_at hl 0 rfl) ?_
  refine n_get 0 rfl inB0 F hW ⟨by omega, by omega⟩ ((up_n (by omega)).trans h0) 0 (by decide) q_148 rfl rfl dX0_empty_31 ?_
  refine lv_iconst (v := (3 : Int32)) hx hb dX0_empty_34 (by decide) ?_
  refine lv_iconst (v := (2 : Int32)) hx hb dX0_empty_35 (by decide) ?_
  refine k_X5_putN (t := k + 1) ((up_n (by omega)).trans h1) up_s ⟨by decide, by decide, inb_in (by decide)⟩ F q_144 ⟨by decide, by decide, Nat.zero_le _, Nat.zero_le _⟩ hW ⟨by omega, by omega, by omega⟩ hS hl.1 (by decide) dX0_empty_36 (fun H locs hW hS => ?_)
  rw [up_up] at hW
  refine lv_aload_n hx hb dX0_empty_39 rfl (lv_at hl 0 rfl) ?_
  refine n_get 0 rfl inB0 F hW ⟨by omega, by omega⟩ ((up_n (by omega)).trans h0) 0 (by decide) q_148 rfl rfl dX0_empty_40 ?_
  refine lv_iconst (v := (4 : Int32)) hx hb dX0_empty_43 (by decide) ?_
  refine lv_iconst (v := (3 : Int32)) hx hb dX0_empty_44 (by decide) ?_
  refine k_X5_putN (t := k + 1) ((up_n (by omega)).trans h1) up_s ⟨by decide, by decide, inb_in (by decide)⟩ F q_144 ⟨by decide, by decide, Nat.zero_le _, Nat.zero_le _⟩ hW ⟨by omega, by omega, by omega⟩ hS hl.1 (by decide) dX0_empty_45 (fun H locs hW hS => ?_)
  rw [up_up] at hW
  refine lv_aload_n hx hb dX0_empty_48 rfl (lv_at hl 0 rfl) ?_
  refine n_get 0 rfl inB0 F hW ⟨by omega, by omega⟩ ((up_n (by omega)).trans h0) 0 (by decide) q_148 rfl rfl dX0_empty_49 ?_
  refine lv_iconst (v := (5 : Int32)) hx hb dX0_empty_52 (by decide) ?_
  refine lv_iconst (v := (1 : Int32)) hx hb dX0_empty_53 (by decide) ?_
  refine k_X5_putN (t := k + 1) ((up_n (by omega)).trans h1) up_s ⟨by decide, by decide, inb_in (by decide)⟩ F q_144 ⟨by decide, by decide, Nat.zero_le _, Nat.zero_le _⟩ hW ⟨by omega, by omega, by omega⟩ hS hl.1 (by decide) dX0_empty_54 (fun H locs hW hS => ?_)
  rw [up_up] at hW
  refine lv_aload_n hx hb dX0_empty_57 rfl (lv_at hl 0 rfl) ?_
  refine n_get 0 rfl inB0 F hW ⟨by omega, by omega⟩ ((up_n (by omega)).trans h0) 0 (by decide) q_148 rfl rfl dX0_empty_58 ?_
  refine lv_bipush (v := (6 : Int32)) hx hb dX0_empty_61 (by decide) ?_
  refine lv_iconst (v := (2 : Int32)) hx hb dX0_empty_63 (by decide) ?_
  refine k_X5_putN (t := k + 1) ((up_n (by omega)).trans h1) up_s ⟨by decide, by decide, inb_in (by decide)⟩ F q_144 ⟨by decide, by decide, Nat.zero_le _, Nat.zero_le _⟩ hW ⟨by omega, by omega, by omega⟩ hS hl.1 (by decide) dX0_empty_64 (fun H locs hW hS => ?_)
  rw [up_up] at hW
  refine lv_aload_n hx hb dX0_empty_67 rfl (lv_at hl 0 rfl) ?_
  refine n_get 0 rfl inB0 F hW ⟨by omega, by omega⟩ ((up_n (by omega)).trans h0) 0 (by decide) q_148 rfl rfl dX0_empty_68 ?_
  refine lv_bipush (v := (7 : Int32)) hx hb dX0_empty_71 (by decide) ?_
  refine lv_iconst (v := (3 : Int32)) hx hb dX0_empty_73 (by decide) ?_
  refine k_X5_putN (t := k + 1) ((up_n (by omega)).trans h1) up_s ⟨by decide, by decide, inb_in (by decide)⟩ F q_144 ⟨by decide, by decide, Nat.zero_le _, Nat.zero_le _⟩ hW ⟨by omega, by omega, by omega⟩ hS hl.1 (by decide) dX0_empty_74 (fun H locs hW hS => ?_)
  rw [up_up] at hW
  have hW : PW G b k n (up E (k + 2) (.inl (G.2.1 1, 8, .inl set8))) H := hW
  have g0 : (up E (k + 2) (.inl (G.2.1 1, 8, .inl set8))) k = .inr (0, bkF b k) := (up_n (by omega)).trans h0
  refine lv_aload_n hx hb dX0_empty_77 rfl (lv_at hl 0 rfl) ?_
  refine lv_iconst (v := (0 : Int32)) hx hb dX0_empty_78 (by decide) ?_
  refine n_put 0 rfl inB0 tyX0 tyX0_ok nmX0 F hW ⟨by omega, by omega⟩ g0 hS 1 (by decide) q_155 rfl (fun h => absurd h (by decide)) rfl rfl rfl (Nat.le_of_ble_eq_true rfl) dX0_empty_79 (fun H locs hW hS => ?_)
  rw [show (bkF b k).set 1 (.int 0) = bkF b k from rfl, up_id g0] at hW
  refine lv_aload_n hx hb dX0_empty_82 rfl (lv_at hl 0 rfl) ?_
  refine lv_iconst (v := (0 : Int32)) hx hb dX0_empty_83 (by decide) ?_
  refine n_put 0 rfl inB0 tyX0 tyX0_ok nmX0 F hW ⟨by omega, by omega⟩ g0 hS 2 (by decide) q_162 rfl (fun h => absurd h (by decide)) rfl rfl rfl (Nat.le_of_ble_eq_true rfl) dX0_empty_84 (fun H locs hW hS => ?_)
  rw [show (bkF b k).set 2 (.int 0) = bkF b k from rfl, up_id g0] at hW
  refine lv_aload_n hx hb dX0_empty_87 rfl (lv_at hl 0 rfl) ?_
  refine lv_iconst (v := (0 : Int32)) hx hb dX0_empty_88 (by decide) ?_
  refine n_put 0 rfl inB0 tyX0 tyX0_ok nmX0 F hW ⟨by omega, by omega⟩ g0 hS 3 (by decide) q_167 rfl (fun h => absurd h (by decide)) rfl rfl rfl (Nat.le_of_ble_eq_true rfl) dX0_empty_89 (fun H locs hW hS => ?_)
  rw [show (bkF b k).set 3 (.int 0) = bkF b k from rfl, up_id g0] at hW
  exact n_void F hr hW (by omega) (fun _ _ _ => rfl) hS dX0_empty_92
/-- cells that are nothing but zero at the start -/
def zc (k : Nat) : Bool := !(setRow k) && (k != 0) && (k != 5) && (k != 306)
theorem zc_z {k : Nat} (h : zc k = true) : mS.1 k = fun _ => 0 := by
  simp only [zc, Bool.and_eq_true, Bool.not_eq_true', bne_iff_ne, ne_eq] at h
  obtain ⟨⟨⟨h1, h2⟩, h3⟩, h4⟩ := h
  funext j
  show (if setRow k = true then jv (R0 j) else if k = 0 ∧ j = 4 ∨ k = 5 ∧ j = 1 ∨ k = 306 ∧ j = 12 then jv (-1) else jv 0) = 0
  rw [if_neg (by rw [h1]; decide), if_neg (by omega)]
  rfl
theorem sr_z {k : Nat} (h : setRow k = true) : mS.1 k = set8 := by
  funext j
  show (if setRow k = true then jv (R0 j) else _) = set8 j
  rw [if_pos h]
  by_cases hj : j < 8
  · rcases (show j = 0 ∨ j = 1 ∨ j = 2 ∨ j = 3 ∨ j = 4 ∨ j = 5 ∨ j = 6 ∨ j = 7 by omega) with rfl | rfl | rfl | rfl | rfl | rfl | rfl | rfl <;> rfl
  · rw [R0_0 (by omega)]
    simp only [set8, upd]
    rw [if_neg (by omega), if_neg (by omega), if_neg (by omega), if_neg (by omega), if_neg (by omega), if_neg (by omega), if_neg (by omega), if_neg (by omega)]
    rfl
def rwOk (k N : Nat) : Prop := ky k = 5 ∧ ky (k + 1) = 14 ∧ ln (k + 1) = N ∧ zc (k + 1) = true
def wrOk (k N : Nat) : Prop := ky k = 9 ∧ ky (k + 1) = 15 ∧ ln (k + 1) = N
def bkOk (k : Nat) : Prop := (ky k = 0 ∧ zc k = true) ∧ (ky (k + 1) = 5 ∧ ky (k + 2) = 14 ∧ ln (k + 2) = 8 ∧ setRow (k + 2) = true) ∧ rwOk (k + 3) 24 ∧ rwOk (k + 5) 24 ∧ rwOk (k + 7) 24 ∧ wrOk (k + 9) 192 ∧ rwOk (k + 11) 24
theorem rowE_n {i c : Nat} {fs : List Value} {a : va_E} (h : i < t) : rowE G b E t c fs a i = E i := by
  unfold rowE
  rw [up_n (by omega), up_n (by omega)]
theorem rw_0 {k N : Nat} (h : rwOk k N) : wF G b mS k = .inr (5, [.ref (b + (k + 1))]) := (wF_5 h.1).trans rfl
theorem rw_1 {k N : Nat} (h : rwOk k N) : wF G b mS (k + 1) = .inl (G.2.1 1, N, .inl (fun _ => 0)) := by rw [wF_14 h.2.1, h.2.2.1, zc_z h.2.2.2]
theorem wr_0 {k N : Nat} (h : wrOk k N) : wF G b mS k = .inr (9, [.ref (b + (k + 1))]) := (wF_9 h.1).trans rfl
theorem wr_1 {k N : Nat} (h : wrOk k N) : wF G b mS (k + 1) = .inl (G.2.1 2, N, .inr (.inl (fun _ => 0))) := by rw [wF_15 h.2.1, h.2.2]; rfl
theorem bk_0 (h : bkOk k) : wF G b mS k = .inr (0, bkF b k) := by
  rw [wF_0 h.1.1]
  simp only [fl0, bkF, zc_z h.1.2]
set_option maxHeartbeats 4000000 in
set_option maxRecDepth 100000 in
theorem wk_X0_new (hk : bkOk k) (hE : E k = .inr (0, [.null, .int 0, .int 0, .int 0, .null, .null, .null, .null, .null])) (F : FX G b RX0 cX0_init 1 p s m args meth c) (hr : meth.sig.returnType = none) (hin : meth.name = "<init>") (hW : PW G b k (k + 1) E s.heap) (hzs : s.heap.size = b + (k + 1)) (hl : lv_has ls 1 [(0, .ref (b + k))]) : W p l e ({ frames := 2, cells := 12, slots := 302, locals := 42 } : Room) s m args below meth c s.heap [] 0 0 (MQ below (QNi G b k 13 (ov G b E k 13)) args s 12 302 (fb (b + k))) (F0 m 0 ls []) := by
  have hx := F.1
  have hb := F.2.1
  have hS : va_S (fb (b + k)) s.heap s.heap [] := va_S.rf
  refine lv_aload_n hx hb dX0_init_0 rfl (lv_at hl 0 rfl) ?_
  refine n_obj F hl.1 q_125 q_34 q_35 (Nat.le_of_ble_eq_true rfl) (Nat.le_of_ble_eq_true rfl) dX0_init_1 ?_
  refine lv_aload_n hx hb dX0_init_4 rfl (lv_at hl 0 rfl) ?_
  refine n_new 5 (fs := [.null]) rfl inB5 tyX5 tyX5_ok F q_126 q_127 q_8 (n := k + 1) hW ⟨by omega, by omega, by omega⟩ hS (fun j hj => by rcases (show j = 0 by omega) with rfl; rfl) ⟨Nat.le_of_ble_eq_true rfl, Nat.le_of_ble_eq_true rfl⟩ dX0_init_5 (fun H hW hS => ?_)
  refine lv_dup hx hb dX0_init_8 rfl ?_
  refine lv_bipush (v := (8 : Int32)) hx hb dX0_init_9 (by decide) ?_
  refine k_X5_new (t := k + 1) (N := 8) up_s ⟨by decide, by decide, by decide⟩ F q_128 ⟨by decide, by decide, Nat.le_of_ble_eq_true rfl, Nat.le_of_ble_eq_true rfl⟩ hW ⟨by omega, by omega⟩ hS hl.1 (Nat.le_of_ble_eq_true rfl) dX0_init_11 (fun H locs hW hS => ?_)
  refine n_put 0 (t := k) (n := k + 3) rfl inB0 tyX0 tyX0_ok nmX0 F hW ⟨by omega, by omega⟩ ((rowE_n (by omega)).trans ((up_n (by omega)).trans hE)) hS 0 (by decide) q_148 rfl (fun _ => ⟨hin, rfl⟩) rfl rfl rfl (Nat.le_of_ble_eq_true rfl) dX0_init_14 (fun H locs hW hS => ?_)
  refine lv_aload_n hx hb dX0_init_17 rfl (lv_at hl 0 rfl) ?_
  refine n_new 5 (fs := [.null]) rfl inB5 tyX5 tyX5_ok F q_126 q_127 q_8 (n := k + 3) hW ⟨by omega, by omega, by omega⟩ hS (fun j hj => by rcases (show j = 0 by omega) with rfl; rfl) ⟨Nat.le_of_ble_eq_true rfl, Nat.le_of_ble_eq_true rfl⟩ dX0_init_18 (fun H hW hS => ?_)
  refine lv_dup hx hb dX0_init_21 rfl ?_
  refine lv_bipush (v := (24 : Int32)) hx hb dX0_init_22 (by decide) ?_
  refine k_X5_new (t := k + 3) (N := 24) up_s ⟨by decide, by decide, by decide⟩ F q_128 ⟨by decide, by decide, Nat.le_of_ble_eq_true rfl, Nat.le_of_ble_eq_true rfl⟩ hW ⟨by omega, by omega⟩ hS hl.1 (Nat.le_of_ble_eq_true rfl) dX0_init_24 (fun H locs hW hS => ?_)
  refine n_put 0 (t := k) (n := k + 5) rfl inB0 tyX0 tyX0_ok nmX0 F hW ⟨by omega, by omega⟩ ((rowE_n (by omega)).trans ((up_n (by omega)).trans up_s)) hS 4 (by decide) q_169 rfl (fun _ => ⟨hin, rfl⟩) rfl rfl rfl (Nat.le_of_ble_eq_true rfl) dX0_init_27 (fun H locs hW hS => ?_)
  refine lv_aload_n hx hb dX0_init_30 rfl (lv_at hl 0 rfl) ?_
  refine n_new 5 (fs := [.null]) rfl inB5 tyX5 tyX5_ok F q_126 q_127 q_8 (n := k + 5) hW ⟨by omega, by omega, by omega⟩ hS (fun j hj => by rcases (show j = 0 by omega) with rfl; rfl) ⟨Nat.le_of_ble_eq_true rfl, Nat.le_of_ble_eq_true rfl⟩ dX0_init_31 (fun H hW hS => ?_)
  refine lv_dup hx hb dX0_init_34 rfl ?_
  refine lv_bipush (v := (24 : Int32)) hx hb dX0_init_35 (by decide) ?_
  refine k_X5_new (t := k + 5) (N := 24) up_s ⟨by decide, by decide, by decide⟩ F q_128 ⟨by decide, by decide, Nat.le_of_ble_eq_true rfl, Nat.le_of_ble_eq_true rfl⟩ hW ⟨by omega, by omega⟩ hS hl.1 (Nat.le_of_ble_eq_true rfl) dX0_init_37 (fun H locs hW hS => ?_)
  refine n_put 0 (t := k) (n := k + 7) rfl inB0 tyX0 tyX0_ok nmX0 F hW ⟨by omega, by omega⟩ ((rowE_n (by omega)).trans ((up_n (by omega)).trans up_s)) hS 5 (by decide) q_176 rfl (fun _ => ⟨hin, rfl⟩) rfl rfl rfl (Nat.le_of_ble_eq_true rfl) dX0_init_40 (fun H locs hW hS => ?_)
  refine lv_aload_n hx hb dX0_init_43 rfl (lv_at hl 0 rfl) ?_
  refine n_new 5 (fs := [.null]) rfl inB5 tyX5 tyX5_ok F q_126 q_127 q_8 (n := k + 7) hW ⟨by omega, by omega, by omega⟩ hS (fun j hj => by rcases (show j = 0 by omega) with rfl; rfl) ⟨Nat.le_of_ble_eq_true rfl, Nat.le_of_ble_eq_true rfl⟩ dX0_init_44 (fun H hW hS => ?_)
  refine lv_dup hx hb dX0_init_47 rfl ?_
  refine lv_bipush (v := (24 : Int32)) hx hb dX0_init_48 (by decide) ?_
  refine k_X5_new (t := k + 7) (N := 24) up_s ⟨by decide, by decide, by decide⟩ F q_128 ⟨by decide, by decide, Nat.le_of_ble_eq_true rfl, Nat.le_of_ble_eq_true rfl⟩ hW ⟨by omega, by omega⟩ hS hl.1 (Nat.le_of_ble_eq_true rfl) dX0_init_50 (fun H locs hW hS => ?_)
  refine n_put 0 (t := k) (n := k + 9) rfl inB0 tyX0 tyX0_ok nmX0 F hW ⟨by omega, by omega⟩ ((rowE_n (by omega)).trans ((up_n (by omega)).trans up_s)) hS 6 (by decide) q_180 rfl (fun _ => ⟨hin, rfl⟩) rfl rfl rfl (Nat.le_of_ble_eq_true rfl) dX0_init_53 (fun H locs hW hS => ?_)
  refine lv_aload_n hx hb dX0_init_56 rfl (lv_at hl 0 rfl) ?_
  refine n_new 9 (fs := [.null]) rfl inB9 tyX9 tyX9_ok F q_138 q_60 q_5 (n := k + 9) hW ⟨by omega, by omega, by omega⟩ hS (fun j hj => by rcases (show j = 0 by omega) with rfl; rfl) ⟨Nat.le_of_ble_eq_true rfl, Nat.le_of_ble_eq_true rfl⟩ dX0_init_57 (fun H hW hS => ?_)
  refine lv_dup hx hb dX0_init_60 rfl ?_
  refine lv_sipush (v := (192 : Int32)) hx hb dX0_init_61 (by decide) ?_
  refine k_X9_new (t := k + 9) (N := 192) up_s ⟨by decide, by decide, by decide⟩ F q_139 ⟨by decide, by decide, Nat.le_of_ble_eq_true rfl, Nat.le_of_ble_eq_true rfl⟩ hW ⟨by omega, by omega⟩ hS hl.1 (Nat.le_of_ble_eq_true rfl) dX0_init_64 (fun H locs hW hS => ?_)
  refine n_put 0 (t := k) (n := k + 11) rfl inB0 tyX0 tyX0_ok nmX0 F hW ⟨by omega, by omega⟩ ((rowE_n (by omega)).trans ((up_n (by omega)).trans up_s)) hS 7 (by decide) q_185 rfl (fun _ => ⟨hin, rfl⟩) rfl rfl rfl (Nat.le_of_ble_eq_true rfl) dX0_init_67 (fun H locs hW hS => ?_)
  refine lv_aload_n hx hb dX0_init_70 rfl (lv_at hl 0 rfl) ?_
  refine n_new 5 (fs := [.null]) rfl inB5 tyX5 tyX5_ok F q_126 q_127 q_8 (n := k + 11) hW ⟨by omega, by omega, by omega⟩ hS (fun j hj => by rcases (show j = 0 by omega) with rfl; rfl) ⟨Nat.le_of_ble_eq_true rfl, Nat.le_of_ble_eq_true rfl⟩ dX0_init_71 (fun H hW hS => ?_)
  refine lv_dup hx hb dX0_init_74 rfl ?_
  refine lv_bipush (v := (24 : Int32)) hx hb dX0_init_75 (by decide) ?_
  refine k_X5_new (t := k + 11) (N := 24) up_s ⟨by decide, by decide, by decide⟩ F q_128 ⟨by decide, by decide, Nat.le_of_ble_eq_true rfl, Nat.le_of_ble_eq_true rfl⟩ hW ⟨by omega, by omega⟩ hS hl.1 (Nat.le_of_ble_eq_true rfl) dX0_init_77 (fun H locs hW hS => ?_)
  refine n_put 0 (t := k) (n := k + 13) rfl inB0 tyX0 tyX0_ok nmX0 F hW ⟨by omega, by omega⟩ ((rowE_n (by omega)).trans ((up_n (by omega)).trans up_s)) hS 8 (by decide) q_189 rfl (fun _ => ⟨hin, rfl⟩) rfl rfl rfl (Nat.le_of_ble_eq_true rfl) dX0_init_80 (fun H locs hW hS => ?_)
  have c0 := bk_0 (G := G) (b := b) hk
  obtain ⟨hk0, hk1, hk3, hk5, hk7, hk9, hk11⟩ := hk
  have c1 : wF G b mS (k + 1) = .inr (5, [.ref (b + (k + 2))]) := (wF_5 hk1.1).trans rfl
  have c2 : wF G b mS (k + 2) = .inl (G.2.1 1, 8, .inl set8) := by rw [wF_14 hk1.2.1, hk1.2.2.1, sr_z hk1.2.2.2]
  have c3 : wF G b mS (k + 3) = .inr (5, [.ref (b + (k + 4))]) := rw_0 hk3
  have c4 : wF G b mS (k + 4) = .inl (G.2.1 1, 24, .inl (fun _ => 0)) := rw_1 hk3
  have c5 : wF G b mS (k + 5) = .inr (5, [.ref (b + (k + 6))]) := rw_0 hk5
  have c6 : wF G b mS (k + 6) = .inl (G.2.1 1, 24, .inl (fun _ => 0)) := rw_1 hk5
  have c7 : wF G b mS (k + 7) = .inr (5, [.ref (b + (k + 8))]) := rw_0 hk7
  have c8 : wF G b mS (k + 8) = .inl (G.2.1 1, 24, .inl (fun _ => 0)) := rw_1 hk7
  have c9 : wF G b mS (k + 9) = .inr (9, [.ref (b + (k + 10))]) := wr_0 hk9
  have c10 : wF G b mS (k + 10) = .inl (G.2.1 2, 192, .inr (.inl (fun _ => 0))) := wr_1 hk9
  have c11 : wF G b mS (k + 11) = .inr (5, [.ref (b + (k + 12))]) := rw_0 hk11
  have c12 : wF G b mS (k + 12) = .inl (G.2.1 1, 24, .inl (fun _ => 0)) := rw_1 hk11
  have hW : PW G b k (k + 13) (up (ov G b E k 13) (k + 2) (.inl (G.2.1 1, 8, .inl (fun _ => 0)))) H := by
    refine hW.cong (fun i h1 h2 => ?_)
    obtain ⟨j, rfl⟩ : ∃ j, i = k + j := ⟨i - k, by omega⟩
    have hj : j < 13 := by omega
    rcases (show j = 0 ∨ j = 1 ∨ j = 2 ∨ j = 3 ∨ j = 4 ∨ j = 5 ∨ j = 6 ∨ j = 7 ∨ j = 8 ∨ j = 9 ∨ j = 10 ∨ j = 11 ∨ j = 12 by omega) with rfl | rfl | rfl | rfl | rfl | rfl | rfl | rfl | rfl | rfl | rfl | rfl | rfl
    · simp [up, ov, c0]
      rfl
    all_goals simp [up, rowE, ov, c1, c2, c3, c4, c5, c6, c7, c8, c9, c10, c11, c12]
  have d0 : up (ov G b E k 13) (k + 2) (.inl (G.2.1 1, 8, .inl (fun _ => 0))) k = .inr (0, bkF b k) := by simp [up, ov, c0]
  have d1 : up (ov G b E k 13) (k + 2) (.inl (G.2.1 1, 8, .inl (fun _ => 0))) (k + 1) = .inr (5, [.ref (b + (k + 2))]) := by simp [up, ov, c1]
  refine lv_aload_n hx hb dX0_init_83 rfl (lv_at hl 0 rfl) ?_
  refine n_eq hW ⟨by omega, by omega⟩ (fun hz => ?_)
  have hM : Met l yX0_empty (wU (Cond.code yX0_empty cX0_empty 1 none)) ({ frames := 1, cells := 0, slots := 0, locals := 22 } : Room) (PcG G b k (k + 13) (up (ov G b E k 13) (k + 2) (.inl (G.2.1 1, 8, .inl (fun _ => 0)))) [.ref (b + k)]) (QNi G b k (k + 13 - k) (up (up (ov G b E k 13) (k + 2) (.inl (G.2.1 1, 8, .inl (fun _ => 0)))) (k + 2) (.inl (G.2.1 1, 8, .inl set8)))) 0 0 (fb (b + k)) :=
    gmet_of [.ref (b + k)] (by decide) (Nat.le_of_ble_eq_true rfl) (fun F hr hin hW hzs hl => wk_X0_emptyN d0 d1 up_s (by omega) F hr hW hzs hl)
  refine n_callV (As := []) (ci := 0) hM ⟨rfl, rfl⟩ rfl d0 q_141 q_142 q_7 q_143 rfl ⟨by decide +kernel, by decide +kernel, (show (parseMethodDescriptor yX0_empty.desc).map (fun d => d.parameters.length) = some 0 by decide +kernel)⟩ F q_140 ⟨by decide, by decide, Nat.le_of_ble_eq_true rfl, Nat.le_of_ble_eq_true rfl⟩ hW ⟨by omega, by omega⟩ hz (fun j hj => up_n (by omega)) hS hl.1 (Nat.le_of_ble_eq_true rfl) rfl dX0_init_84 (fun H locs hW hS => ?_)
  refine n_void F hr hW (by omega) (fun i h1 h2 => ?_) hS dX0_init_87
  by_cases hi : i = k + 2
  · subst hi
    rw [up_s]
    simp [ov, c2]
  · rw [up_n hi, up_n hi]
set_option maxHeartbeats 4000000 in
theorem c_X0_new {l : Launch} (hk : bkOk k) (hE : E k = .inr (0, [.null, .int 0, .int 0, .int 0, .null, .null, .null, .null, .null])) : Met l yX0_init (wU (Cond.code yX0_init cX0_init 1 none)) ({ frames := 2, cells := 12, slots := 302, locals := 42 } : Room) (PcG G b k (k + 1) E [.ref (b + k)]) (QNi G b k 13 (ov G b E k 13)) 12 302 (fb (b + k)) :=
  gmet_of [.ref (b + k)] (by decide) (Nat.le_of_ble_eq_true rfl) (fun F hr hin hW hzs hl => wk_X0_new hk hE F hr hin hW hzs hl)
end NEW2
