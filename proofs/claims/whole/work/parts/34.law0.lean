/-! THE LAW'S BODY: rows for its steps -/
section LAW0
variable {p : Program} {l : Launch} {e : Env} {R : Room} {s : State} {m : MethodId} {args : Array Value} {below : List Frame} {meth : Method} {c : Code} {H : Heap} {locs : List Loc} {cells slots : Nat} {Q : State → Prop}
variable {cc : ByteArray} {pc : Nat} {ls : Array Slot} {rest : List Value} {G : Gt} {b : Nat} {μ μ' : Mm} {own : String} {nL : Nat}
/-- a helper's call -/
theorem l_call {y : MethodName} {bytes : ByteArray} {maxL : Nat} {hh : List (Nat × Nat × Nat × Nat)} {rm : Room} {As : List Value} {index mc ms : Nat} {code9 : Int32} {w : Option Int64} {st0 : List Value}
    (hM : vx_Met l y (wU (Cond.codeWith y bytes maxL (some .int) hh)) rm (PcW (fg G) b μ As) (QL G b code9 w μ') (fun _ _ _ => False) mc ms (fb b)) (hrm : rm.cells = mc ∧ rm.slots = ms)
    (hi : Cond.static y ∈ TBG) (hini : Cond.initialized y.cls ∈ TBG) (hcd : Cond.codeWith y bytes maxL (some .int) hh ∈ TBG) (hd : y.cls ≠ "java/lang/invoke/MethodHandle" ∧ y.cls ≠ "java/lang/invoke/VarHandle" ∧ (parseMethodDescriptor y.desc).map (fun d => d.parameters.length) = some As.length)
    (F : FX (fg G) b own cc nL p s m args meth c) (hl : Cond.methodLink own index y ∈ TBG) (hR : rm.frames + 1 ≤ R.frames ∧ 8 + (maxL + 11) + rm.locals ≤ R.locals ∧ cells + mc ≤ R.cells ∧ slots + ms ≤ R.slots) (hW : WH (fg G) b μ H) (hS : va_S (fb b) s.heap H locs) (hsz : ls.size = nL) (hrest : (rest.map fun v => v.category).sum ≤ 8)
    (hst : st0 = As.reverse ++ rest) (hdg : decode cc pc = .ok (.invokestatic index, 3))
    (kk : ∀ (n : Nat) (H1 : Heap) (locs1 : List Loc), (∀ x, w = some x → Int64.ofNat n = x) → WH (fg (gs n G)) b μ' H1 → va_S (fb b) s.heap H1 locs1 → W p l e R s m args below meth c H1 locs1 (cells + mc) (slots + ms) Q (F0 m (pc + 3) ls (.int code9 :: rest))) : W p l e R s m args below meth c H locs cells slots Q (F0 m pc ls st0) := by
  have hpre := f_pre (As := As) F hW hS
  obtain ⟨hx, hb, hml, hown, hts, hK, hN, hSW, hlk⟩ := F
  have cw : vx_CSW R s args own index y bytes maxL (some .int) hh (wU (Cond.codeWith y bytes maxL (some .int) hh)) rm mc ms As.length :=
    ⟨⟨hrm.1, hrm.2, hR.1, hR.2.1, pay_in hts (wT_in hcd), List.mem_cons_self⟩, hts _ hcd, hts _ hini, ⟨hd.1, hd.2.1⟩, fun sig h => by
      have h2 := hd.2.2
      rw [h] at h2
      exact (Option.some.inj h2).symm, hts _ hl, hts _ hi⟩
  have hr := vx_runSX (e := e) (below := below) (meth := meth) (H := H) (locs := locs) (cells := cells) (slots := slots) (rest := rest) (g := F0 m pc ls st0) ⟨hx, hb, hml, hown, hts⟩ hM cw ⟨PcW.blind, hpre⟩ rfl rfl hsz hst (lv_room hrest) hdg ⟨hR.2.2.1, hR.2.2.2⟩
  intro T hT X
  rcases hr T hT X with ⟨v, st₀, t, T', L, h0, X', hL, e1, e2, ⟨hv, ⟨n, hn, hw⟩, hz, hk⟩, st⟩ | ⟨q9, st₀, t, T', L, E, ce, h0, X', hL, e1, e2, hF, -⟩
  · cases hv
    rw [h0] at hz hk
    obtain ⟨t2, a1, b1⟩ := kk n T'.heap (locs ++ L) hn (by rw [e1]; exact hw)
      ⟨Nat.le_trans hS.1 (by rw [e1]; exact hz), fun q h1 h2 => by rw [e1, hk q (Nat.lt_of_lt_of_le h1 hS.1) h2]; exact hS.2.1 q h1 h2, fun q hq => by
        rcases List.mem_append.mp hq with h | h
        · exact hS.2.2 q h
        · exact hL q h⟩ T' rfl X'
    exact ⟨t2, st t2 a1, b1⟩
  · exact False.elim hF
/-- one int of the script, by the loop's index -/
theorem l_arg {sb L k0 k4 : Nat} {xs : Nat → Int32} {i t : Int32} {lv : List (Nat × Value)} {n : Int} (hx : p.tables.exec = Jvm.exec) (hb : c.code = cc) (hX : va_X sb L xs s s.heap) (hsb : sb < s.heap.size) (hS : va_S (fb s.heap.size) s.heap H locs) (hl : lv_has ls nL lv) (h0 : lv[k0]? = some (0, .ref sb)) (h4 : lv[k4]? = some (4, .int i)) (hin : vp_in (i + t) L)
    (d0 : decode cc pc = .ok (.aload_n 0, 1)) (d1 : decode cc (pc + 1) = .ok (.iload 4, 2)) (d3 : decode cc (pc + 3) = .ok (.iconst n, 1)) (hn : Int32.ofInt n = t) (d4 : decode cc (pc + 4) = .ok (.iadd, 1)) (d5 : decode cc (pc + 5) = .ok (.iaload, 1))
    (kk : W p l e R s m args below meth c H locs cells slots Q (F0 m (pc + 6) ls (.int (xs (i + t).toNatClampNeg) :: rest))) : W p l e R s m args below meth c H locs cells slots Q (F0 m pc ls rest) :=
  lv_aload_n hx hb d0 rfl (lv_at hl k0 h0) (lv_iload hx hb d1 (lv_at hl k4 h4) (lv_iconst hx hb d3 hn (lv_iadd hx hb d4 (va_sld hx hb hX hsb (fun q => Nat.lt_irrefl _ (Nat.lt_of_lt_of_le hsb q)) hS hin d5 kk))))
/-- the long[1]'s number -/
theorem l_out (h1 : G.2.2.2 13 = 1) (F : FX (fg G) b own cc nL p s m args meth c) (hW : WH (fg G) b μ H) (hdg : decode cc pc = .ok (.laload, 1))
    (kk : W p l e R s m args below meth c H locs cells slots Q (F0 m (pc + 1) ls (.long (Int64.ofNat (G.2.2.2 14)) :: rest))) : W p l e R s m args below meth c H locs cells slots Q (F0 m pc ls (.int 0 :: .ref (b + 331) :: rest)) := by
  obtain ⟨hx, hb, hml, hown, hts, hK, hN, hSW, hlk⟩ := F
  have hk : 331 < nn (fg G) := by rw [nn_fg, h1]; decide
  exact va_lald (f := fun _ => Int64.ofNat ((fg G).2.2.2 14)) hx hb hK (wl_P hW) 331 2 (by rw [wl_get hk, wF_25 rfl]) rfl (inb_in (by decide)) hdg kk
/-- the locals all through the loop -/
def lwL (sb b : Nat) (i : Int32) : List (Nat × Value) := [(0, .ref sb), (1, .ref (b + 0)), (2, .ref (b + 306)), (3, .ref (b + 331)), (4, .int i)]
/-- what goes on behind a call of the script -/
def lwK (p : Program) (l : Launch) (e : Env) (s : State) (m : MethodId) (args : Array Value) (below : List Frame) (meth : Method) (c : Code) (sb : Nat) (i : Int32) (cells slots : Nat) (Q : State → Prop) : Prop :=
  ∀ (G : Gt) (μ : Mm) (H : Heap) (locs : List Loc) (ls : Array Slot), G.2.2.2 13 = 1 → FX (fg G) s.heap.size RL cL_law 7 p s m args meth c → IV μ → WH (fg G) s.heap.size μ H → va_S (fb s.heap.size) s.heap H locs → lv_has ls 7 (lwL sb s.heap.size i) →
    W p l e room_1 s m args below meth c H locs (cells + 4) (slots + 24) Q (F0 m 2642 ls [])
/-- what holds before a call of the script -/
def lwB (p : Program) (s : State) (m : MethodId) (args : Array Value) (meth : Method) (c : Code) (sb L : Nat) (xs : Nat → Int32) (i : Int32) (cells slots : Nat) (G : Gt) (μ : Mm) (H : Heap) (locs : List Loc) (ls : Array Slot) : Prop :=
  G.2.2.2 13 = 1 ∧ FX (fg G) s.heap.size RL cL_law 7 p s m args meth c ∧ IV μ ∧ WH (fg G) s.heap.size μ H ∧ va_S (fb s.heap.size) s.heap H locs ∧ lv_has ls 7 (lwL sb s.heap.size i) ∧
  va_X sb L xs s s.heap ∧ sb < s.heap.size ∧ (∀ t : Int32, t ∈ [(1 : Int32), 2, 3, 4, 5] → vp_in (i + t) L) ∧ cells + 4 ≤ room_1.cells ∧ slots + 24 ≤ room_1.slots
end LAW0
