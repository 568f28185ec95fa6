/-! METHODS THAT MAY THROW -/
def exN (k : Nat) : String := match k with
  | 0 => "java/lang/IllegalStateException"
  | 1 => "java/lang/IllegalArgumentException"
  | 2 => "java/lang/IndexOutOfBoundsException"
  | _ => "java/util/NoSuchElementException"
def QN (G : Gt) (b : Nat) (ok : Option (Mm × Option Value)) : Array Value → State → Outcome → State → Prop := fun a st o t => ∃ q, ok = some q ∧ QW G b q.1 q.2 a st o t
def XN (G : Gt) (b : Nat) (er : Option (Nat × Mm)) : String → State → State → Prop := fun E st t => ∃ q, er = some q ∧ E = exN q.1 ∧ WH G b q.2 t.heap ∧ va_F (fb b) st t
theorem WH.kept {G : Gt} {b : Nat} {μ : Mm} {H H1 : Heap} (h : WH G b μ H) (hq : ∀ q : Nat, q < H.size → H1[q]? = H[q]?) : WH G b μ H1 :=
  ⟨fun k hk => (h.1 k hk).kept (hq _ (h.1 k hk).lt), h.2⟩
def exNames : List String := ["java/lang/RuntimeException", "java/lang/Exception"]
theorem hatG_0 : ∀ w ∈ (vx_atS "ContentsSetter" 97 (exN 0) exNames).filter goodWord, w ∈ TBG := by decide +kernel
theorem hat_0 {args : Array Value} {s : State} (hts : ∀ w ∈ TBG, w.before args s = true) (hN : NW s) : ∀ w ∈ vx_atS "ContentsSetter" 97 (exN 0) exNames, w.before args s = true := vx_hat (B := [Cond.castable (exN 0) (exN 0), Cond.declares ⟨"java/lang/RuntimeException", "<init>", "(Ljava/lang/String;)V"⟩, Cond.declares ⟨"java/lang/Exception", "<init>", "(Ljava/lang/String;)V"⟩, Cond.declares ⟨"java/lang/Throwable", "<init>", "(Ljava/lang/String;)V"⟩]) (fun w hw => hts w (hatG_0 w hw)) (by decide +kernel) (vx_c (va_Nw.use rfl (hN.2.1 (exN 0, exN 0) (by decide +kernel))) (vx_c (va_Nw.use rfl (hN.2.2.2 _ (by decide +kernel))) (vx_c (va_Nw.use rfl (hN.2.2.2 _ (by decide +kernel))) (vx_c (va_Nw.use rfl (hN.2.2.2 _ (by decide +kernel))) vx_n))))
theorem hgd_0 : ∀ w ∈ Cond.classLink "ContentsSetter" 93 (exN 0) :: Cond.initialized (exN 0) :: vx_atS "ContentsSetter" 97 (exN 0) exNames, vx_ot w = true := by decide +kernel
theorem hatG_1 : ∀ w ∈ (vx_atS "ContentsSetter" 107 (exN 1) exNames).filter goodWord, w ∈ TBG := by decide +kernel
theorem hat_1 {args : Array Value} {s : State} (hts : ∀ w ∈ TBG, w.before args s = true) (hN : NW s) : ∀ w ∈ vx_atS "ContentsSetter" 107 (exN 1) exNames, w.before args s = true := vx_hat (B := [Cond.castable (exN 1) (exN 1), Cond.declares ⟨"java/lang/RuntimeException", "<init>", "(Ljava/lang/String;)V"⟩, Cond.declares ⟨"java/lang/Exception", "<init>", "(Ljava/lang/String;)V"⟩, Cond.declares ⟨"java/lang/Throwable", "<init>", "(Ljava/lang/String;)V"⟩]) (fun w hw => hts w (hatG_1 w hw)) (by decide +kernel) (vx_c (va_Nw.use rfl (hN.2.1 (exN 1, exN 1) (by decide +kernel))) (vx_c (va_Nw.use rfl (hN.2.2.2 _ (by decide +kernel))) (vx_c (va_Nw.use rfl (hN.2.2.2 _ (by decide +kernel))) (vx_c (va_Nw.use rfl (hN.2.2.2 _ (by decide +kernel))) vx_n))))
theorem hgd_1 : ∀ w ∈ Cond.classLink "ContentsSetter" 103 (exN 1) :: Cond.initialized (exN 1) :: vx_atS "ContentsSetter" 107 (exN 1) exNames, vx_ot w = true := by decide +kernel
theorem hatG_2 : ∀ w ∈ (vx_atS "ContentsSetter" 243 (exN 2) exNames).filter goodWord, w ∈ TBG := by decide +kernel
theorem hat_2 {args : Array Value} {s : State} (hts : ∀ w ∈ TBG, w.before args s = true) (hN : NW s) : ∀ w ∈ vx_atS "ContentsSetter" 243 (exN 2) exNames, w.before args s = true := vx_hat (B := [Cond.castable (exN 2) (exN 2), Cond.declares ⟨"java/lang/RuntimeException", "<init>", "(Ljava/lang/String;)V"⟩, Cond.declares ⟨"java/lang/Exception", "<init>", "(Ljava/lang/String;)V"⟩, Cond.declares ⟨"java/lang/Throwable", "<init>", "(Ljava/lang/String;)V"⟩]) (fun w hw => hts w (hatG_2 w hw)) (by decide +kernel) (vx_c (va_Nw.use rfl (hN.2.1 (exN 2, exN 2) (by decide +kernel))) (vx_c (va_Nw.use rfl (hN.2.2.2 _ (by decide +kernel))) (vx_c (va_Nw.use rfl (hN.2.2.2 _ (by decide +kernel))) (vx_c (va_Nw.use rfl (hN.2.2.2 _ (by decide +kernel))) vx_n))))
theorem hgd_2 : ∀ w ∈ Cond.classLink "ContentsSetter" 239 (exN 2) :: Cond.initialized (exN 2) :: vx_atS "ContentsSetter" 243 (exN 2) exNames, vx_ot w = true := by decide +kernel
section THR
variable {p : Program} {l : Launch} {e : Env} {R : Room} {s : State} {m : MethodId} {args : Array Value} {below : List Frame} {meth : Method} {c : Code} {H : Heap} {locs : List Loc} {cells slots : Nat} {Q : State → Prop}
variable {cc : ByteArray} {pc : Nat} {ls : Array Slot} {rest : List Value} {G : Gt} {b : Nat} {μ μ' : Mm} {own : String} {nL mc ms : Nat}
theorem x_int (F : FX G b own cc nL p s m args meth c) (hr : meth.sig.returnType = some .int) {v : Int32} {XC : String → State → State → Prop} (h1 : cells ≤ mc) (h2 : slots ≤ ms) (hW : WH G b μ H) (hS : va_S (fb b) s.heap H locs) (hdg : decode cc pc = .ok (.ireturn, 1)) : W p l e R s m args below meth c H locs cells slots (vx_MQ below (QN G b (some (μ, some (.int v)))) XC args s mc ms (fb b)) (F0 m pc ls [.int v]) :=
  W.widen h1 h2 (vx_ret (W.iret F.1 F.2.1 hr (fun t ht _ => ⟨_, rfl, rfl, by rw [ht]; exact hW, hS.F ht⟩) hS.2.2 hdg F.2.2.2.2.2.2.2.2))
theorem x_bool (F : FX G b own cc nL p s m args meth c) (hr : meth.sig.returnType = some .boolean) {v : Int32} {XC : String → State → State → Prop} (hv : v = 0 ∨ v = 1) (h1 : cells ≤ mc) (h2 : slots ≤ ms) (hW : WH G b μ H) (hS : va_S (fb b) s.heap H locs) (hdg : decode cc pc = .ok (.ireturn, 1)) : W p l e R s m args below meth c H locs cells slots (vx_MQ below (QN G b (some (μ, some (.int v)))) XC args s mc ms (fb b)) (F0 m pc ls [.int v]) :=
  W.widen h1 h2 (vx_ret (W.zret F.1 F.2.1 hr (nar_z hv).1 (fun t ht _ => ⟨_, rfl, rfl, by rw [ht]; exact hW, hS.F ht⟩) hS.2.2 hdg F.2.2.2.2.2.2.2.2))
theorem x_void (F : FX G b own cc nL p s m args meth c) (hr : meth.sig.returnType = none) {XC : String → State → State → Prop} (h1 : cells ≤ mc) (h2 : slots ≤ ms) (hW : WH G b μ H) (hS : va_S (fb b) s.heap H locs) (hdg : decode cc pc = .ok (.return_, 1)) : W p l e R s m args below meth c H locs cells slots (vx_MQ below (QN G b (some (μ, none))) XC args s mc ms (fb b)) (F0 m pc ls []) :=
  W.widen h1 h2 (vx_ret (W.vret F.1 F.2.1 hr (fun t ht _ => ⟨_, rfl, rfl, by rw [ht]; exact hW, hS.F ht⟩) hS.2.2 hdg F.2.2.2.2.2.2.2.2))
/-- the exception goes on to the caller -/
theorem x_out (F : FX G b own cc nL p s m args meth c) (hnt : ∀ x ∈ c.exceptionTable.toList, False) {Qc : Array Value → State → Outcome → State → Prop} {ec : Nat} {ce : Cell} {q9 : Addr} (h1 : cells ≤ mc) (h2 : slots ≤ ms) (hW : WH G b μ H) (hS : va_S (fb b) s.heap H locs) (hcell : H[q9]? = some ce) (hv : ce.vm = .none) (hcl : s.vm.findClass (exN ec) = some ce.cls) : vx_W p l e R s m args below meth c H locs cells slots (vx_MQ below Qc (XN G b (some (ec, μ))) args s mc ms (fb b)) (F0 m pc ls rest) q9 :=
  vx_out (fun x hx => absurd (hnt x hx) id) F.2.2.2.2.2.2.2.2 hcell hv hcl (fun t ht _ => ⟨_, rfl, rfl, by rw [ht]; exact hW, hS.F ht⟩) hS.2.2 h1 h2
/-- 'throw new E(text)' -/
theorem x_throw (F : FX G b "ContentsSetter" cc nL p s m args meth c) (hlT : l.stackTraces = false) (hnt : ∀ x ∈ c.exceptionTable.toList, False) {Qc : Array Value → State → Outcome → State → Prop} {ec ik is ic t : Nat} {text : String}
    (hk : Cond.classLink "ContentsSetter" ik (exN ec) ∈ TBG) (hini : Cond.initialized (exN ec) ∈ TBG) (hq : ("ContentsSetter", is, text, t) ∈ refS) (hfit : Bundle.fit (exN ec) = true) (hat : ∀ w ∈ vx_atS "ContentsSetter" ic (exN ec) exNames, w.before args s = true)
    (hgood : ∀ w ∈ Cond.classLink "ContentsSetter" ik (exN ec) :: Cond.initialized (exN ec) :: vx_atS "ContentsSetter" ic (exN ec) exNames, vx_ot w = true) (hsz : ls.size = nL)
    (d0 : decode cc pc = .ok (.new ik, 3)) (d3 : decode cc (pc + 3) = .ok (.dup, 1)) (d4 : decode cc (pc + 4) = .ok (.ldc is, 2)) (d6 : decode cc (pc + 6) = .ok (.invokespecial ic, 3)) (d9 : decode cc (pc + 9) = .ok (.athrow, 1))
    (hR : 5 < R.frames ∧ (rest.map fun v => v.category).sum + 82 ≤ R.locals ∧ cells + 1 ≤ R.cells ∧ slots + 6 ≤ R.slots) (h1 : cells + 1 ≤ mc) (h2 : slots + 6 ≤ ms) (hW : WH G b μ H) (hS : va_S (fb b) s.heap H locs) : W p l e R s m args below meth c H locs cells slots (vx_MQ below Qc (XN G b (some (ec, μ))) args s mc ms (fb b)) (F0 m pc ls rest) := by
  obtain ⟨hx, hb, hml, hown, hts, hK, hN, hSW, hlk⟩ := F
  exact vx_throwS (names := exNames) hx hb hlT hown hfit (by decide +kernel) (hts _ hk) (hts _ hini) (hSW.2.1 _ hq) hat hgood hSW.2.2.2.1 hSW.2.2.2.2.1 hS (hsz.trans hml.symm) d0 d3 d4 d6 d9 (fun x hx => absurd (hnt x hx) id) hR.1 hR.2.1 hR.2.2.1 hR.2.2.2 hlk
    (fun t _ hz hk => ⟨_, rfl, rfl, WH.kept hW hk, ⟨Nat.le_trans hS.1 hz, fun q q1 q2 => by rw [hk q (Nat.lt_of_lt_of_le q1 hS.1)]; exact hS.2.1 q q1 q2⟩⟩) hS.2.2 h1 h2
/-- the same, its text by a wide index -/
theorem x_throwW (F : FX G b "ContentsSetter" cc nL p s m args meth c) (hlT : l.stackTraces = false) (hnt : ∀ x ∈ c.exceptionTable.toList, False) {Qc : Array Value → State → Outcome → State → Prop} {ec ik is ic t : Nat} {text : String}
    (hk : Cond.classLink "ContentsSetter" ik (exN ec) ∈ TBG) (hini : Cond.initialized (exN ec) ∈ TBG) (hq : ("ContentsSetter", is, text, t) ∈ refS) (hfit : Bundle.fit (exN ec) = true) (hat : ∀ w ∈ vx_atS "ContentsSetter" ic (exN ec) exNames, w.before args s = true)
    (hgood : ∀ w ∈ Cond.classLink "ContentsSetter" ik (exN ec) :: Cond.initialized (exN ec) :: vx_atS "ContentsSetter" ic (exN ec) exNames, vx_ot w = true) (hsz : ls.size = nL)
    (d0 : decode cc pc = .ok (.new ik, 3)) (d3 : decode cc (pc + 3) = .ok (.dup, 1)) (d4 : decode cc (pc + 4) = .ok (.ldc_w is, 3)) (d7 : decode cc (pc + 7) = .ok (.invokespecial ic, 3)) (d10 : decode cc (pc + 10) = .ok (.athrow, 1))
    (hR : 5 < R.frames ∧ (rest.map fun v => v.category).sum + 82 ≤ R.locals ∧ cells + 1 ≤ R.cells ∧ slots + 6 ≤ R.slots) (h1 : cells + 1 ≤ mc) (h2 : slots + 6 ≤ ms) (hW : WH G b μ H) (hS : va_S (fb b) s.heap H locs) : W p l e R s m args below meth c H locs cells slots (vx_MQ below Qc (XN G b (some (ec, μ))) args s mc ms (fb b)) (F0 m pc ls rest) := by
  obtain ⟨hx, hb, hml, hown, hts, hK, hN, hSW, hlk⟩ := F
  exact vx_throwSW (names := exNames) hx hb hlT hown hfit (by decide +kernel) (hts _ hk) (hts _ hini) (hSW.2.1 _ hq) hat hgood hSW.2.2.2.1 hSW.2.2.2.2.1 hS (hsz.trans hml.symm) d0 d3 d4 d7 d10 (fun x hx => absurd (hnt x hx) id) hR.1 hR.2.1 hR.2.2.1 hR.2.2.2 hlk
    (fun t _ hz hk => ⟨_, rfl, rfl, WH.kept hW hk, ⟨Nat.le_trans hS.1 hz, fun q q1 q2 => by rw [hk q (Nat.lt_of_lt_of_le q1 hS.1)]; exact hS.2.1 q q1 q2⟩⟩) hS.2.2 h1 h2
/-- behind a call that may throw -/
theorem fx_after {ok : Option (Mm × Option Value)} {er : Option (Nat × Mm)} {a : Array Value} {st0 : List Value} {mc ms : Nat} (hr : vx_Run p l e R s m args below meth c H locs cells slots mc ms (F0 m pc ls st0) rest (QN G b ok a) (XN G b er) (fb b)) (hS : va_S (fb b) s.heap H locs)
    (kx : ∀ (q : Nat × Mm), er = some q → ∀ (ce : Cell) (q9 : Addr) (H1 : Heap) (locs1 : List Loc), WH G b q.2 H1 → va_S (fb b) s.heap H1 locs1 → H1[q9]? = some ce → ce.vm = .none → s.vm.findClass (exN q.1) = some ce.cls → vx_W p l e R s m args below meth c H1 locs1 (cells + mc) (slots + ms) Q (F0 m pc ls rest) q9)
    (kk : ∀ (q : Mm × Option Value), ok = some q → ∀ (H1 : Heap) (locs1 : List Loc), WH G b q.1 H1 → va_S (fb b) s.heap H1 locs1 → W p l e R s m args below meth c H1 locs1 (cells + mc) (slots + ms) Q (F0 m (pc + 3) ls (q.2.toList ++ rest))) : W p l e R s m args below meth c H locs cells slots Q (F0 m pc ls st0) := by
  have keep : ∀ {st₀ t T' : State} {L : List Loc}, st₀.heap = H → T'.heap = t.heap → (∀ q ∈ L, fb b q.base) → va_F (fb b) st₀ t → va_S (fb b) s.heap T'.heap (locs ++ L) := by
    intro st₀ t T' L h0 e1 hL hF
    obtain ⟨hz, hk⟩ := hF
    rw [h0] at hz hk
    exact ⟨Nat.le_trans hS.1 (by rw [e1]; exact hz), fun q h1 h2 => by rw [e1, hk q (Nat.lt_of_lt_of_le h1 hS.1) h2]; exact hS.2.1 q h1 h2, fun q hq => by
      rcases List.mem_append.mp hq with h | h
      · exact hS.2.2 q h
      · exact hL q h⟩
  intro T hT X
  rcases hr T hT X with ⟨v, st₀, t, T', L, h0, X', hL, e1, e2, ⟨q, hq, hv, hw, hF⟩, st⟩ | ⟨q9, st₀, t, T', L, E, ce, h0, X', hL, e1, e2, ⟨q, hq, hE, hw, hF⟩, hce, hcv, hcl, st⟩
  · cases hv
    obtain ⟨t2, a1, b1⟩ := kk q hq T'.heap (locs ++ L) (by rw [e1]; exact hw) (keep h0 e1 hL hF) T' rfl X'
    exact ⟨t2, st t2 a1, b1⟩
  · subst hE
    obtain ⟨t2, a1, b1⟩ := kx q hq ce q9 T'.heap (locs ++ L) (by rw [e1]; exact hw) (keep h0 e1 hL hF) (by rw [e1]; exact hce) hcv hcl T' rfl X'
    exact ⟨t2, st.trans a1, b1⟩
theorem fx_callV {ok : Option (Mm × Option Value)} {er : Option (Nat × Mm)} {y : MethodName} {bytes : ByteArray} {maxL : Nat} {ret : Option FieldType} {rm : Room} {As : List Value} {k ci index mc ms : Nat} {C : String} {T : u_T} {N : Nat} {fs st0 : List Value}
    (hM : vx_Met l y (wU (Cond.code y bytes maxL ret)) rm (PcW G b μ (.ref (b + k) :: As)) (QN G b ok) (XN G b er) mc ms (fb b)) (hrm : rm.cells = mc ∧ rm.slots = ms) (hcl : vwCl[ci]? = some (C, T, N)) (hk : k < nn G) (hf : wF G b μ k = .inr (ci, fs))
    (hi : Cond.instanceMethod y ∈ TBG) (hse : Cond.selects C y y ∈ TBG) (hini : Cond.initialized C ∈ TBG) (hcd : Cond.code y bytes maxL ret ∈ TBG) (hyc : y.cls = C) (hd : y.cls ≠ "java/lang/invoke/MethodHandle" ∧ y.cls ≠ "java/lang/invoke/VarHandle" ∧ (parseMethodDescriptor y.desc).map (fun d => d.parameters.length) = some As.length)
    (F : FX G b own cc nL p s m args meth c) (hl : Cond.methodLink own index y ∈ TBG) (hR : rm.frames + 1 ≤ R.frames ∧ 8 + (maxL + 11) + rm.locals ≤ R.locals ∧ cells + mc ≤ R.cells ∧ slots + ms ≤ R.slots) (hW : WH G b μ H) (hS : va_S (fb b) s.heap H locs) (hsz : ls.size = nL) (hrest : (rest.map fun v => v.category).sum ≤ 8)
    (hst : st0 = As.reverse ++ .ref (b + k) :: rest) (hdg : decode cc pc = .ok (.invokevirtual index, 3))
    (kx : ∀ (q : Nat × Mm), er = some q → ∀ (ce : Cell) (q9 : Addr) (H1 : Heap) (locs1 : List Loc), WH G b q.2 H1 → va_S (fb b) s.heap H1 locs1 → H1[q9]? = some ce → ce.vm = .none → s.vm.findClass (exN q.1) = some ce.cls → vx_W p l e R s m args below meth c H1 locs1 (cells + mc) (slots + ms) Q (F0 m pc ls rest) q9)
    (kk : ∀ (q : Mm × Option Value), ok = some q → ∀ (H1 : Heap) (locs1 : List Loc), WH G b q.1 H1 → va_S (fb b) s.heap H1 locs1 → W p l e R s m args below meth c H1 locs1 (cells + mc) (slots + ms) Q (F0 m (pc + 3) ls (q.2.toList ++ rest))) : W p l e R s m args below meth c H locs cells slots Q (F0 m pc ls st0) := by
  have hrc := f_recv F hW hcl hk hf
  have hpre := f_pre (As := .ref (b + k) :: As) F hW hS
  obtain ⟨hx, hb, hml, hown, hts, hK, hN, hSW, hlk⟩ := F
  exact fx_after (vx_runV (As := As) (rest := rest) ⟨hx, hb, hml, hown, hts⟩ hM ⟨callB_of (bytes := bytes) (maxL := maxL) (ret := ret) As.length hts (wT_in hcd) rfl hrm.1 hrm.2 (by rw [hyc]; exact hts _ hini) (hts _ hl) hd ⟨hR.1, hR.2.1⟩, hts _ hi, hts _ hse⟩ ⟨PcW.blind, hrc, hpre⟩ rfl rfl hsz hst (lv_room hrest) hdg ⟨hR.2.2.1, hR.2.2.2⟩) hS kx kk
/-- a contract that may throw, out of the walk of a body -/
theorem xmet_of {l : Launch} {y : MethodName} {cc : ByteArray} {maxL : Nat} {ret : Option FieldType} {rm : Room} {G : Gt} {b : Nat} {μ : Mm} {Qc : Array Value → State → Outcome → State → Prop} {XC : String → State → State → Prop} {mc ms : Nat} (vals : List Value) (hy : plainName y.cls = true) (hn : (lg_sl vals).length ≤ maxL)
    (body : ∀ {p : Program} {e : Env} {s : State} {m : MethodId} {args : Array Value} {below : List Frame} {meth : Method} {c : Code} {ls : Array Slot}, FX G b y.cls cc maxL p s m args meth c → meth.sig.returnType = ret → (∀ x ∈ c.exceptionTable.toList, False) → WH G b μ s.heap → lv_has ls maxL (lv_args 0 vals) → W p l e rm s m args below meth c s.heap [] 0 0 (vx_MQ below Qc XC args s mc ms (fb b)) (F0 m 0 ls [])) :
    vx_Met l y (wU (Cond.code y cc maxL ret)) rm (PcW G b μ vals) Qc XC mc ms (fb b) := by
  refine vx_ofW (cc := cc) (maxL := maxL) (ret := ret) hy rfl ?_
  intro p e s m args below meth c s₁ B hml hnt hv
  obtain ⟨rfl, hW, hK, hN, hSW⟩ := hv
  have hts := atoms_spec (ws := wU (Cond.code y cc maxL ret)) B.pre
  have F : FX G b y.cls cc maxL p s m vals.toArray meth c := ⟨B.exec, B.bytes, hml, findClass_of_methodNamed B.named, fun w hw => hts w (List.mem_cons_of_mem _ hw), hK, hN, hSW, B.notSynchronized⟩
  have hl := lv_entry vals (n := maxL) hn
  rw [lg_entry_eq]
  generalize (lg_sl vals ++ List.replicate (maxL - (lg_sl vals).length) Slot.unset).toArray = ls at hl ⊢
  exact body F B.returns hnt hW hl
end THR
