theorem chS_some {w : Nat} {i x : Int32} (h : chS w i = some x) : inb i (lenS.getD w 0) = true ∧ (bytS.getD w []).getD (ix i) 0 = x := by
  unfold chS at h
  split at h
  · next q => exact ⟨q, Option.some.inj h⟩
  · cases h
theorem str_sh : ∀ w, w < 13 → nI (lenS.getD w 0) >>> ((0 : Int32) &&& 31) = nI (lenS.getD w 0) := by decide +kernel
theorem str_len : ∀ w, w < 13 → lenS.getD w 0 < 16 := by decide +kernel
theorem str_ch : ∀ w, w < 13 → ∀ j, j < 16 → (((((bytS.getD w []).getD j 0) &&& 255) : Int32).toUInt32 % 65536).toInt32 = (bytS.getD w []).getD j 0 := by decide +kernel
section STRS
variable {p : Program} {l : Launch} {e : Env} {R : Room} {s : State} {m : MethodId} {args : Array Value} {below : List Frame} {meth : Method} {c : Code} {H : Heap} {locs : List Loc} {cells slots : Nat} {Q : State → Prop}
variable {cc : ByteArray} {pc : Nat} {ls : Array Slot} {rest : List Value} {G : Gt} {b : Nat} {μ μ' : Mm} {own : String} {nL : Nat}
theorem f_callSx {v : Option Value} {y : MethodName} {bytes : ByteArray} {maxL : Nat} {ret : Option FieldType} {rm : Room} {As : List Value} {index : Nat} {st0 : List Value}
    (hM : Met l y (wU (Cond.code y bytes maxL ret)) rm (PcW G b μ As) (QW G b μ' v) 0 0 (fb b)) (hrm : rm.cells = 0 ∧ rm.slots = 0)
    (hi : Cond.static y ∈ TBG) (hini : Cond.initialized y.cls ∈ TBG) (hcd : Cond.code y bytes maxL ret ∈ TBG) (hd : y.cls ≠ "java/lang/invoke/MethodHandle" ∧ y.cls ≠ "java/lang/invoke/VarHandle" ∧ (parseMethodDescriptor y.desc).map (fun d => d.parameters.length) = some As.length)
    (F : FX G b own cc nL p s m args meth c) (hl : Cond.methodLink own index y ∈ TBG) (hR : rm.frames + 1 ≤ R.frames ∧ 8 + (maxL + 11) + rm.locals ≤ R.locals ∧ cells ≤ R.cells ∧ slots ≤ R.slots) (hW : WH G b μ H) (hS : va_S (fb b) s.heap H locs) (hsz : ls.size = nL) (hrest : (rest.map fun v => v.category).sum ≤ 8)
    (hst : st0 = As.reverse ++ rest) (hdg : decode cc pc = .ok (.invokestatic index, 3))
    (kk : ∀ (H1 : Heap) (locs1 : List Loc), WH G b μ' H1 → va_S (fb b) s.heap H1 locs1 → W p l e R s m args below meth c H1 locs1 cells slots Q (F0 m (pc + 3) ls (v.toList ++ rest))) : W p l e R s m args below meth c H locs cells slots Q (F0 m pc ls st0) := by
  have hpre := f_pre (As := As) F hW hS
  obtain ⟨hx, hb, hml, hown, hts, hK, hN, hSW, hlk⟩ := F
  exact f_after (va_runS (As := As) (rest := rest) ⟨hx, hb, hml, hown, hts⟩ hM ⟨callB_of (bytes := bytes) (maxL := maxL) (ret := ret) As.length hts (wT_in hcd) rfl hrm.1 hrm.2 (hts _ hini) (hts _ hl) hd ⟨hR.1, hR.2.1⟩, hts _ hi⟩ ⟨PcW.blind, hpre⟩ rfl rfl hsz hst (lv_room hrest) hdg ⟨hR.2.2.1, hR.2.2.2⟩) hS kk
theorem f_callStr {v : Option Value} {y : MethodName} {bytes : ByteArray} {maxL : Nat} {ret : Option FieldType} {rm : Room} {As : List Value} {w index : Nat} {st0 : List Value}
    (hM : Met l y (wU (Cond.code y bytes maxL ret)) rm (PcW G b μ (.ref (G.2.2.1 w) :: As)) (QW G b μ' v) 0 0 (fb b)) (hrm : rm.cells = 0 ∧ rm.slots = 0) (hw : w < 13)
    (hi : Cond.instanceMethod y ∈ TBG) (hse : Cond.selects "java/lang/String" y y ∈ TBG) (hini : Cond.initialized "java/lang/String" ∈ TBG) (hcd : Cond.code y bytes maxL ret ∈ TBG) (hyc : y.cls = "java/lang/String") (hd : y.cls ≠ "java/lang/invoke/MethodHandle" ∧ y.cls ≠ "java/lang/invoke/VarHandle" ∧ (parseMethodDescriptor y.desc).map (fun d => d.parameters.length) = some As.length)
    (F : FX G b own cc nL p s m args meth c) (hl : Cond.methodLink own index y ∈ TBG) (hR : rm.frames + 1 ≤ R.frames ∧ 8 + (maxL + 11) + rm.locals ≤ R.locals ∧ cells ≤ R.cells ∧ slots ≤ R.slots) (hW : WH G b μ H) (hS : va_S (fb b) s.heap H locs) (hsz : ls.size = nL) (hrest : (rest.map fun v => v.category).sum ≤ 8)
    (hst : st0 = As.reverse ++ .ref (G.2.2.1 w) :: rest) (hdg : decode cc pc = .ok (.invokevirtual index, 3))
    (kk : ∀ (H1 : Heap) (locs1 : List Loc), WH G b μ' H1 → va_S (fb b) s.heap H1 locs1 → W p l e R s m args below meth c H1 locs1 cells slots Q (F0 m (pc + 3) ls (v.toList ++ rest))) : W p l e R s m args below meth c H locs cells slots Q (F0 m pc ls st0) := by
  have hpre := f_pre (As := .ref (G.2.2.1 w) :: As) F hW hS
  obtain ⟨hx, hb, hml, hown, hts, hK, hN, hSW, hlk⟩ := F
  have hrc := vk_recv (hSW.1 w hw) (i := 0) (by decide) hS
  exact f_after (va_runV (As := As) (rest := rest) ⟨hx, hb, hml, hown, hts⟩ hM ⟨callB_of (bytes := bytes) (maxL := maxL) (ret := ret) As.length hts (wT_in hcd) rfl hrm.1 hrm.2 (by rw [hyc]; exact hts _ hini) (hts _ hl) hd ⟨hR.1, hR.2.1⟩, hts _ hi, hts _ hse⟩ ⟨PcW.blind, hrc, hpre⟩ rfl rfl hsz hst (lv_room hrest) hdg ⟨hR.2.2.1, hR.2.2.2⟩) hS kk
theorem r_nar (F : FX G b own cc nL p s m args meth c) {ty : FieldType} (hr : meth.sig.returnType = some ty) {v : Int32} (hv : narrow ty (.int v) = .int v) (hW : WH G b μ H) (hS : va_S (fb b) s.heap H locs) (hdg : decode cc pc = .ok (.ireturn, 1)) : W p l e R s m args below meth c H locs cells slots (MQ below (QW G b μ (some (.int v))) args s cells slots (fb b)) (F0 m pc ls [.int v]) :=
  W.zret F.1 F.2.1 hr hv (fun t ht _ => ⟨rfl, by rw [ht]; exact hW, hS.F ht⟩) hS.2.2 hdg F.2.2.2.2.2.2.2.2
end STRS
set_option maxHeartbeats 4000000 in
set_option maxRecDepth 100000 in
theorem c_J0_coder {l : Launch} {G : Gt} {b : Nat} {w : Nat} {μ : Mm} (hw : w < 13) : Met l yJ0_coder_7d493 (wU (Cond.code yJ0_coder_7d493 cJ0_coder_7d493 1 (some .byte))) ({ frames := 0, cells := 0, slots := 0, locals := 0 } : Room) (PcW G b μ [.ref (G.2.2.1 w)]) (QW G b μ (some (.int 0))) 0 0 (fb b) :=
  met_of [.ref (G.2.2.1 w)] (by decide) (Nat.le_of_ble_eq_true rfl) (fun F hr hW hl => by
    have hx := F.1
    have hb := F.2.1
    have hl : lv_has _ 1 [(0, .ref (G.2.2.1 w))] := hl
    refine va_gets (C := "java/lang/String") (n := "COMPACT_STRINGS") (d := "Z") (own := "java/lang/String") (ref := "java/lang/String") hx hb F.2.2.2.2.2.2.2.1.2.2.1 va_S.rf F.2.2.2.1 (F.2.2.2.2.1 _ q_625) (fun _ h => h) dJ0_coder_7d493_0 ?_
    refine lv_if_eq (tgt := 13) hx hb dJ0_coder_7d493_3 (by decide) (fun cc => absurd cc (by decide)) (fun _ => ?_)
    refine lv_aload_n hx hb dJ0_coder_7d493_6 rfl (lv_at hl 0 rfl) ?_
    refine vk_getf (o := "java/lang/String") (n := "coder") (d := "B") (own := "java/lang/String") (ref := "java/lang/String") hx hb ((F.2.2.2.2.2.2.2.1.1 w hw).1 0 (by decide)).2.1 va_S.rf F.2.2.2.1 (F.2.2.2.2.1 _ q_2187) (fun _ h => h) dJ0_coder_7d493_7 ?_
    refine lv_goto (tgt := 14) hx hb dJ0_coder_7d493_10 (by decide) ?_
    exact r_nar F hr rfl hW va_S.rf dJ0_coder_7d493_14)
set_option maxHeartbeats 4000000 in
set_option maxRecDepth 100000 in
theorem c_J0_isLatin1 {l : Launch} {G : Gt} {b : Nat} {w : Nat} {μ : Mm} (hw : w < 13) : Met l yJ0_isLatin1_aae02 (wU (Cond.code yJ0_isLatin1_aae02 cJ0_isLatin1_aae02 1 (some .boolean))) ({ frames := 0, cells := 0, slots := 0, locals := 0 } : Room) (PcW G b μ [.ref (G.2.2.1 w)]) (QW G b μ (some (.int 1))) 0 0 (fb b) :=
  met_of [.ref (G.2.2.1 w)] (by decide) (Nat.le_of_ble_eq_true rfl) (fun F hr hW hl => by
    have hx := F.1
    have hb := F.2.1
    have hl : lv_has _ 1 [(0, .ref (G.2.2.1 w))] := hl
    refine va_gets (C := "java/lang/String") (n := "COMPACT_STRINGS") (d := "Z") (own := "java/lang/String") (ref := "java/lang/String") hx hb F.2.2.2.2.2.2.2.1.2.2.1 va_S.rf F.2.2.2.1 (F.2.2.2.2.1 _ q_625) (fun _ h => h) dJ0_isLatin1_aae02_0 ?_
    refine lv_if_eq (tgt := 17) hx hb dJ0_isLatin1_aae02_3 (by decide) (fun cc => absurd cc (by decide)) (fun _ => ?_)
    refine lv_aload_n hx hb dJ0_isLatin1_aae02_6 rfl (lv_at hl 0 rfl) ?_
    refine vk_getf (o := "java/lang/String") (n := "coder") (d := "B") (own := "java/lang/String") (ref := "java/lang/String") hx hb ((F.2.2.2.2.2.2.2.1.1 w hw).1 0 (by decide)).2.1 va_S.rf F.2.2.2.1 (F.2.2.2.2.1 _ q_2187) (fun _ h => h) dJ0_isLatin1_aae02_7 ?_
    refine lv_if_ne (tgt := 17) hx hb dJ0_isLatin1_aae02_10 (by decide) (fun cc => absurd rfl cc) (fun _ => ?_)
    refine lv_iconst (v := (1 : Int32)) hx hb dJ0_isLatin1_aae02_13 (by decide) ?_
    refine lv_goto (tgt := 18) hx hb dJ0_isLatin1_aae02_14 (by decide) ?_
    exact r_nar F hr rfl hW va_S.rf dJ0_isLatin1_aae02_18)
set_option maxHeartbeats 4000000 in
set_option maxRecDepth 100000 in
theorem c_J0_length {l : Launch} {G : Gt} {b : Nat} {w : Nat} {μ : Mm} (hw : w < 13) : Met l yJ0_length_8abf5 (wU (Cond.code yJ0_length_8abf5 cJ0_length_8abf5 1 (some .int))) ({ frames := 1, cells := 0, slots := 0, locals := 20 } : Room) (PcW G b μ [.ref (G.2.2.1 w)]) (QW G b μ (some (.int (nI (lenS.getD w 0))))) 0 0 (fb b) :=
  met_of [.ref (G.2.2.1 w)] (by decide) (Nat.le_of_ble_eq_true rfl) (fun F hr hW hl => by
    have hx := F.1
    have hb := F.2.1
    have hl : lv_has _ 1 [(0, .ref (G.2.2.1 w))] := hl
    refine lv_aload_n hx hb dJ0_length_8abf5_0 rfl (lv_at hl 0 rfl) ?_
    refine vk_getf (o := "java/lang/String") (n := "value") (d := "[B") (own := "java/lang/String") (ref := "java/lang/String") hx hb ((F.2.2.2.2.2.2.2.1.1 w hw).1 0 (by decide)).2.2.1 va_S.rf F.2.2.2.1 (F.2.2.2.2.1 _ q_2186) (fun _ h => h) dJ0_length_8abf5_1 ?_
    refine va_tlen (v := nI (lenS.getD w 0)) hx hb ((F.2.2.2.2.2.2.2.1.1 w hw).1 0 (by decide)).2.2.2 va_S.rf rfl dJ0_length_8abf5_4 ?_
    refine lv_aload_n hx hb dJ0_length_8abf5_5 rfl (lv_at hl 0 rfl) ?_
    refine f_callStr (As := []) (c_J0_coder hw) ⟨rfl, rfl⟩ hw q_622 q_623 q_20 q_624 rfl ⟨by decide +kernel, by decide +kernel, (show (parseMethodDescriptor yJ0_coder_7d493.desc).map (fun d => d.parameters.length) = some 0 by decide +kernel)⟩ F q_621 ⟨Nat.le_of_ble_eq_true rfl, Nat.le_of_ble_eq_true rfl, Nat.le_of_ble_eq_true rfl, Nat.le_of_ble_eq_true rfl⟩ hW va_S.rf hl.1 (Nat.le_of_ble_eq_true rfl) rfl dJ0_length_8abf5_6 (fun H locs hW hS => ?_)
    refine lv_ishr hx hb dJ0_length_8abf5_9 ?_
    rw [str_sh w hw]
    exact r_int F hr hW hS dJ0_length_8abf5_10)
set_option maxHeartbeats 4000000 in
set_option maxRecDepth 100000 in
theorem c_J3_checkIndex {l : Launch} {G : Gt} {b : Nat} {i n : Int32} {v : Value} (hv : v.category = 1) {μ : Mm} (h0 : ¬ i < 0) (h1 : i < n) : Met l yJ3_checkIndex_8e157 (wU (Cond.code yJ3_checkIndex_8e157 cJ3_checkIndex_8e157 3 (some .int))) ({ frames := 0, cells := 0, slots := 0, locals := 0 } : Room) (PcW G b μ [.int i, .int n, v]) (QW G b μ (some (.int i))) 0 0 (fb b) :=
  met_of [.int i, .int n, v] (by decide) (by have e1 : (Value.int i).category = 1 := rfl; have e2 : (Value.int n).category = 1 := rfl; simp [lg_sl, hv, e1, e2]) (fun F hr hW hl => by
    have hx := F.1
    have hb := F.2.1
    have hl : lv_has _ 3 [(0, .int i), (1, .int n), (2, v)] := hl
    refine lv_iload_n hx hb dJ3_checkIndex_8e157_0 rfl (lv_at hl 0 rfl) ?_
    refine lv_if_lt (tgt := 9) hx hb dJ3_checkIndex_8e157_1 (by decide) (fun cc => absurd cc h0) (fun _ => ?_)
    refine lv_iload_n hx hb dJ3_checkIndex_8e157_4 rfl (lv_at hl 0 rfl) ?_
    refine lv_iload_n hx hb dJ3_checkIndex_8e157_5 rfl (lv_at hl 1 rfl) ?_
    refine lv_icmp_lt (tgt := 16) hx hb dJ3_checkIndex_8e157_6 (by decide) (fun _ => ?_) (fun cc => absurd h1 cc)
    refine lv_iload_n hx hb dJ3_checkIndex_8e157_16 rfl (lv_at hl 0 rfl) ?_
    exact r_int F hr hW va_S.rf dJ3_checkIndex_8e157_17)
set_option maxHeartbeats 4000000 in
set_option maxRecDepth 100000 in
theorem c_J0_checkIndex {l : Launch} {G : Gt} {b : Nat} {i n : Int32} {μ : Mm} (h0 : ¬ i < 0) (h1 : i < n) : Met l yJ0_checkIndex_df160 (wU (Cond.code yJ0_checkIndex_df160 cJ0_checkIndex_df160 2 none)) ({ frames := 1, cells := 0, slots := 0, locals := 22 } : Room) (PcW G b μ [.int i, .int n]) (QW G b μ none) 0 0 (fb b) :=
  met_of [.int i, .int n] (by decide) (Nat.le_of_ble_eq_true rfl) (fun F hr hW hl => by
    have hx := F.1
    have hb := F.2.1
    have hl : lv_has _ 2 [(0, .int i), (1, .int n)] := hl
    refine lv_iload_n hx hb dJ0_checkIndex_df160_0 rfl (lv_at hl 0 rfl) ?_
    refine lv_iload_n hx hb dJ0_checkIndex_df160_1 rfl (lv_at hl 1 rfl) ?_
    rcases F.2.2.2.2.2.2.2.1.2.2.2.2.2 with z | ⟨t, z⟩
    · refine va_gets (own := "java/lang/String") (ref := "jdk/internal/util/Preconditions") hx hb z va_S.rf F.2.2.2.1 (F.2.2.2.2.1 _ q_641) (fun _ h => h) dJ0_checkIndex_df160_2 ?_
      refine f_callSx (As := [.int i, .int n, .null]) (c_J3_checkIndex rfl h0 h1) ⟨rfl, rfl⟩ q_644 q_22 q_645 ⟨by decide +kernel, by decide +kernel, (show (parseMethodDescriptor yJ3_checkIndex_8e157.desc).map (fun d => d.parameters.length) = some 3 by decide +kernel)⟩ F q_643 ⟨Nat.le_of_ble_eq_true rfl, Nat.le_of_ble_eq_true rfl, Nat.le_of_ble_eq_true rfl, Nat.le_of_ble_eq_true rfl⟩ hW va_S.rf hl.1 (Nat.le_of_ble_eq_true rfl) rfl dJ0_checkIndex_df160_5 (fun H locs hW hS => ?_)
      refine lv_pop hx hb dJ0_checkIndex_df160_8 rfl ?_
      exact r_void F hr hW hS dJ0_checkIndex_df160_9
    · refine va_gets (own := "java/lang/String") (ref := "jdk/internal/util/Preconditions") hx hb z va_S.rf F.2.2.2.1 (F.2.2.2.2.1 _ q_641) (fun _ h => h) dJ0_checkIndex_df160_2 ?_
      refine f_callSx (As := [.int i, .int n, .ref t]) (c_J3_checkIndex rfl h0 h1) ⟨rfl, rfl⟩ q_644 q_22 q_645 ⟨by decide +kernel, by decide +kernel, (show (parseMethodDescriptor yJ3_checkIndex_8e157.desc).map (fun d => d.parameters.length) = some 3 by decide +kernel)⟩ F q_643 ⟨Nat.le_of_ble_eq_true rfl, Nat.le_of_ble_eq_true rfl, Nat.le_of_ble_eq_true rfl, Nat.le_of_ble_eq_true rfl⟩ hW va_S.rf hl.1 (Nat.le_of_ble_eq_true rfl) rfl dJ0_checkIndex_df160_5 (fun H locs hW hS => ?_)
      refine lv_pop hx hb dJ0_checkIndex_df160_8 rfl ?_
      exact r_void F hr hW hS dJ0_checkIndex_df160_9)
theorem inb_lt {i : Int32} {n : Nat} (hn : n < 16) (h : inb i n = true) : ¬ i < 0 ∧ i < nI n ∧ ix i < n := by
  simp only [inb, Bool.and_eq_true, decide_eq_true_eq] at h
  obtain ⟨h1, h2⟩ := h
  refine ⟨h1, ?_, h2⟩
  rw [Int32.lt_iff_toInt_lt, nI_toInt (by omega)]
  have h3 : ¬ i.toInt < 0 := fun q => h1 (by rw [Int32.lt_iff_toInt_lt]; simpa using q)
  have h4 : i.toInt.toNat < n := h2
  omega
set_option maxHeartbeats 4000000 in
set_option maxRecDepth 100000 in
theorem c_J1_charAt {l : Launch} {G : Gt} {b : Nat} {w : Nat} {i x : Int32} {μ : Mm} (hw : w < 13) (h : chS w i = some x) : Met l yJ1_charAt_3b067 (wU (Cond.code yJ1_charAt_3b067 cJ1_charAt_3b067 2 (some .char))) ({ frames := 2, cells := 0, slots := 0, locals := 43 } : Room) (PcW G b μ [.ref (G.2.2.2 w), .int i]) (QW G b μ (some (.int x))) 0 0 (fb b) :=
  met_of [.ref (G.2.2.2 w), .int i] (by decide) (Nat.le_of_ble_eq_true rfl) (fun F hr hW hl => by
    have hx := F.1
    have hb := F.2.1
    obtain ⟨hin, hxe⟩ := chS_some h
    obtain ⟨h0, h1, h2⟩ := inb_lt (str_len w hw) hin
    have hl : lv_has _ 2 [(0, .ref (G.2.2.2 w)), (1, .int i)] := hl
    have hT := ((F.2.2.2.2.2.2.2.1.1 w hw).1 0 (by decide)).2.2.2
    refine lv_iload_n hx hb dJ1_charAt_3b067_0 rfl (lv_at hl 1 rfl) ?_
    refine lv_aload_n hx hb dJ1_charAt_3b067_1 rfl (lv_at hl 0 rfl) ?_
    refine va_tlen (v := nI (lenS.getD w 0)) hx hb hT va_S.rf rfl dJ1_charAt_3b067_2 ?_
    refine f_callSx (As := [.int i, .int (nI (lenS.getD w 0))]) (c_J0_checkIndex h0 h1) ⟨rfl, rfl⟩ q_639 q_20 q_640 ⟨by decide +kernel, by decide +kernel, (show (parseMethodDescriptor yJ0_checkIndex_df160.desc).map (fun d => d.parameters.length) = some 2 by decide +kernel)⟩ F q_638 ⟨Nat.le_of_ble_eq_true rfl, Nat.le_of_ble_eq_true rfl, Nat.le_of_ble_eq_true rfl, Nat.le_of_ble_eq_true rfl⟩ hW va_S.rf hl.1 (Nat.le_of_ble_eq_true rfl) rfl dJ1_charAt_3b067_3 (fun H locs hW hS => ?_)
    refine lv_aload_n hx hb dJ1_charAt_3b067_6 rfl (lv_at hl 0 rfl) ?_
    refine lv_iload_n hx hb dJ1_charAt_3b067_7 rfl (lv_at hl 1 rfl) ?_
    refine va_tb (v := .int x) hx hb hT hS (inb_in hin) (congrArg Value.int hxe) dJ1_charAt_3b067_8 ?_
    refine lv_sipush (v := (255 : Int32)) hx hb dJ1_charAt_3b067_9 (by decide) ?_
    refine lv_iand hx hb dJ1_charAt_3b067_12 ?_
    refine lv_i2c (v := x) hx hb dJ1_charAt_3b067_13 (by rw [← hxe]; exact str_ch w hw _ (Nat.lt_trans h2 (str_len w hw))) ?_
    exact r_nar F hr (by
      have key : ∀ w, w < 13 → ∀ j, j < 16 → narrow .char (.int ((bytS.getD w []).getD j 0)) = .int ((bytS.getD w []).getD j 0) := by decide +kernel
      rw [← hxe]
      exact key w hw _ (Nat.lt_trans h2 (str_len w hw))) hW hS dJ1_charAt_3b067_14)
set_option maxHeartbeats 4000000 in
set_option maxRecDepth 100000 in
theorem c_J0_charAt {l : Launch} {G : Gt} {b : Nat} {w : Nat} {i x : Int32} {μ : Mm} (hw : w < 13) (h : chS w i = some x) : Met l yJ0_charAt_5068e (wU (Cond.code yJ0_charAt_5068e cJ0_charAt_5068e 2 (some .char))) ({ frames := 3, cells := 0, slots := 0, locals := 64 } : Room) (PcW G b μ [.ref (G.2.2.1 w), .int i]) (QW G b μ (some (.int x))) 0 0 (fb b) :=
  met_of [.ref (G.2.2.1 w), .int i] (by decide) (Nat.le_of_ble_eq_true rfl) (fun F hr hW hl => by
    have hx := F.1
    have hb := F.2.1
    obtain ⟨hin, hxe⟩ := chS_some h
    obtain ⟨h0, h1, h2⟩ := inb_lt (str_len w hw) hin
    have hl : lv_has _ 2 [(0, .ref (G.2.2.1 w)), (1, .int i)] := hl
    refine lv_aload_n hx hb dJ0_charAt_5068e_0 rfl (lv_at hl 0 rfl) ?_
    refine f_callStr (As := []) (c_J0_isLatin1 hw) ⟨rfl, rfl⟩ hw q_632 q_633 q_20 q_634 rfl ⟨by decide +kernel, by decide +kernel, (show (parseMethodDescriptor yJ0_isLatin1_aae02.desc).map (fun d => d.parameters.length) = some 0 by decide +kernel)⟩ F q_631 ⟨Nat.le_of_ble_eq_true rfl, Nat.le_of_ble_eq_true rfl, Nat.le_of_ble_eq_true rfl, Nat.le_of_ble_eq_true rfl⟩ hW va_S.rf hl.1 (Nat.le_of_ble_eq_true rfl) rfl dJ0_charAt_5068e_1 (fun H locs hW hS => ?_)
    refine lv_if_eq (tgt := 16) hx hb dJ0_charAt_5068e_4 (by decide) (fun cc => absurd cc (by decide)) (fun _ => ?_)
    refine lv_aload_n hx hb dJ0_charAt_5068e_7 rfl (lv_at hl 0 rfl) ?_
    refine vk_getf (o := "java/lang/String") (n := "value") (d := "[B") (own := "java/lang/String") (ref := "java/lang/String") hx hb ((F.2.2.2.2.2.2.2.1.1 w hw).1 0 (by decide)).2.2.1 hS F.2.2.2.1 (F.2.2.2.2.1 _ q_2186) (fun _ h => h) dJ0_charAt_5068e_8 ?_
    refine lv_iload_n hx hb dJ0_charAt_5068e_11 rfl (lv_at hl 1 rfl) ?_
    refine f_callSx (As := [.ref (G.2.2.2 w), .int i]) (c_J1_charAt hw h) ⟨rfl, rfl⟩ q_636 q_21 q_637 ⟨by decide +kernel, by decide +kernel, (show (parseMethodDescriptor yJ1_charAt_3b067.desc).map (fun d => d.parameters.length) = some 2 by decide +kernel)⟩ F q_635 ⟨Nat.le_of_ble_eq_true rfl, Nat.le_of_ble_eq_true rfl, Nat.le_of_ble_eq_true rfl, Nat.le_of_ble_eq_true rfl⟩ hW hS hl.1 (Nat.le_of_ble_eq_true rfl) rfl dJ0_charAt_5068e_12 (fun H locs hW hS => ?_)
    exact r_nar F hr (by
      have key : ∀ w, w < 13 → ∀ j, j < 16 → narrow .char (.int ((bytS.getD w []).getD j 0)) = .int ((bytS.getD w []).getD j 0) := by decide +kernel
      rw [← hxe]
      exact key w hw _ (Nat.lt_trans h2 (str_len w hw))) hW hS dJ0_charAt_5068e_15)
section STRK
variable {p : Program} {l : Launch} {e : Env} {R : Room} {s : State} {m : MethodId} {args : Array Value} {below : List Frame} {meth : Method} {c : Code} {H : Heap} {locs : List Loc} {cells slots : Nat} {Q : State → Prop}
variable {cc : ByteArray} {pc : Nat} {ls : Array Slot} {rest : List Value} {G : Gt} {b : Nat} {μ μ' : Mm} {own : String} {nL : Nat}
theorem k_J0_length {w : Nat} (F : FX G b own cc nL p s m args meth c) (hw : w < 13) {index : Nat} (hl : Cond.methodLink own index yJ0_length_8abf5 ∈ TBG) (hR : 1 + 1 ≤ R.frames ∧ 8 + (1 + 11) + 20 ≤ R.locals ∧ cells ≤ R.cells ∧ slots ≤ R.slots) (hW : WH G b μ H) (hS : va_S (fb b) s.heap H locs) (hsz : ls.size = nL) (hrest : (rest.map fun v => v.category).sum ≤ 8) (hdg : decode cc pc = .ok (.invokevirtual index, 3))
    (kk : ∀ (H1 : Heap) (locs1 : List Loc), WH G b μ H1 → va_S (fb b) s.heap H1 locs1 → W p l e R s m args below meth c H1 locs1 cells slots Q (F0 m (pc + 3) ls (.int (nI (lenS.getD w 0)) :: rest))) : W p l e R s m args below meth c H locs cells slots Q (F0 m pc ls (.ref (G.2.2.1 w) :: rest)) :=
  f_callStr (As := []) (c_J0_length hw) ⟨rfl, rfl⟩ hw q_618 q_619 q_20 q_620 rfl ⟨by decide +kernel, by decide +kernel, (show (parseMethodDescriptor yJ0_length_8abf5.desc).map (fun d => d.parameters.length) = some 0 by decide +kernel)⟩ F hl hR hW hS hsz hrest rfl hdg kk
theorem k_J0_charAt {w : Nat} {i x : Int32} (F : FX G b own cc nL p s m args meth c) (hw : w < 13) (h : chS w i = some x) {index : Nat} (hl : Cond.methodLink own index yJ0_charAt_5068e ∈ TBG) (hR : 3 + 1 ≤ R.frames ∧ 8 + (2 + 11) + 64 ≤ R.locals ∧ cells ≤ R.cells ∧ slots ≤ R.slots) (hW : WH G b μ H) (hS : va_S (fb b) s.heap H locs) (hsz : ls.size = nL) (hrest : (rest.map fun v => v.category).sum ≤ 8) (hdg : decode cc pc = .ok (.invokevirtual index, 3))
    (kk : ∀ (H1 : Heap) (locs1 : List Loc), WH G b μ H1 → va_S (fb b) s.heap H1 locs1 → W p l e R s m args below meth c H1 locs1 cells slots Q (F0 m (pc + 3) ls (.int x :: rest))) : W p l e R s m args below meth c H locs cells slots Q (F0 m pc ls (.int i :: .ref (G.2.2.1 w) :: rest)) :=
  f_callStr (As := [.int i]) (c_J0_charAt hw h) ⟨rfl, rfl⟩ hw q_628 q_629 q_20 q_630 rfl ⟨by decide +kernel, by decide +kernel, (show (parseMethodDescriptor yJ0_charAt_5068e.desc).map (fun d => d.parameters.length) = some 1 by decide +kernel)⟩ F hl hR hW hS hsz hrest rfl hdg kk
end STRK
