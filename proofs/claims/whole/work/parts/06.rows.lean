/-! ROWS OF THE FLAT WORLD -/
theorem ky_NN {k c : Nat} (h : ky k = c) (hc : c ≠ 99) : k < NN := by
  rcases Nat.lt_or_ge k NN with q | q
  · exact q
  · exfalso
    apply hc
    rw [← h]
    unfold ky
    rw [List.getD_eq_getElem?_getD, List.getElem?_eq_none (by show kyL.length ≤ k; exact Nat.le_trans (by decide +kernel) q)]
    rfl
def clK (c : Nat) : Bool := decide (c < 12) || decide (c = 13) || decide (c = 14) || decide (c = 15) || decide (c = 17)
theorem ky_306 : ∀ k, k < 332 → clK (ky k) = true → k < 306 := by decide +kernel
theorem ky_331 : ∀ k, k < 332 → ky k ≠ 25 → k < 331 := by decide +kernel
theorem ky_lt {G : Gt} {k c : Nat} (h : ky k = c) (hc : clK c = true) : k < nn G := by
  have h1 : k < NN := ky_NN h (fun q => by subst q; exact absurd hc (by decide))
  have := ky_306 k h1 (by rw [h]; exact hc)
  unfold nn
  omega
theorem nn_fg (G : Gt) : nn (fg G) = 331 + G.2.2.2 13 := by
  show 306 + (if 13 = 13 then 25 + G.2.2.2 13 else G.2.2.2 13) = _
  rw [if_pos rfl]
  omega
theorem ky_lm {G : Gt} {k c : Nat} (h : ky k = c) (hc : c ≠ 99 ∧ c ≠ 25) : k < nn (fg G) := by
  have h1 : k < NN := ky_NN h hc.1
  have := ky_331 k h1 (by rw [h]; exact hc.2)
  rw [nn_fg]
  omega
def wl (G : Gt) (b : Nat) (μ : Mm) : va_W := (List.range (nn G)).map (fun k => (b + k, wF G b μ k))
theorem wl_get {G : Gt} {b : Nat} {μ : Mm} {k : Nat} (hk : k < nn G) : (wl G b μ)[k]? = some (b + k, wF G b μ k) := by
  simp [wl, hk]
theorem wl_inv {G : Gt} {b : Nat} {μ : Mm} {k : Nat} {q : Nat × va_E} (h : (wl G b μ)[k]? = some q) : k < nn G ∧ q = (b + k, wF G b μ k) := by
  have hk : k < nn G := by
    have := (List.getElem?_eq_some_iff.mp h).1
    simpa [wl] using this
  exact ⟨hk, Option.some.inj (h.symm.trans (wl_get hk))⟩
theorem wl_P {G : Gt} {b : Nat} {μ : Mm} {H : Heap} (h : WH G b μ H) : va_P G.1 vwCl (wl G b μ) H := by
  intro k q hq
  obtain ⟨hk, rfl⟩ := wl_inv hq
  exact h.1 k hk
theorem wl_D {G : Gt} {b : Nat} {μ : Mm} : va_D (fb b) (wl G b μ) := by
  refine ⟨fun i j p q hi hj e => ?_, fun k q hq => ?_⟩
  · obtain ⟨-, rfl⟩ := wl_inv hi
    obtain ⟨-, rfl⟩ := wl_inv hj
    exact Nat.add_left_cancel e
  · obtain ⟨-, rfl⟩ := wl_inv hq
    exact Nat.le_add_right b k
theorem WH_set {G : Gt} {b : Nat} {μ μ' : Mm} {H H1 : Heap} {k : Nat} {e : va_E} (hk : k < nn G) (hW : WH G b μ H) (h : va_P G.1 vwCl ((wl G b μ).set k (b + k, e)) H1) (he : wF G b μ' k = e) (ho : ∀ k', k' ≠ k → wF G b μ' k' = wF G b μ k') (hr : okNd (μ'.2.2 0) ∧ okTx (μ'.2.2 1)) : WH G b μ' H1 := by
  refine ⟨fun k' hk' => ?_, hr⟩
  by_cases hkk : k' = k
  · subst hkk
    have := h k' (b + k', e) (List.getElem?_set_self (by simpa [wl] using hk))
    rw [he]
    exact this
  · have := h k' (b + k', wF G b μ k') (by rw [List.getElem?_set_ne (Ne.symm hkk)]; exact wl_get hk')
    rw [ho k' hkk]
    exact this
theorem wF_congr {G : Gt} {b : Nat} {μ μ' : Mm} {k : Nat} (h1 : μ'.1 k = μ.1 k) (h2 : μ'.2.1 k = μ.2.1 k) (h3 : μ'.2.2 = μ.2.2) : wF G b μ' k = wF G b μ k := by
  simp only [wF, fl0, fl1, fl2, fl3, fl4, fl5, fl6, fl7, fl8, fl9, fl10, fl11, fl12, h1, h2, h3]
theorem sI_ne {μ : Mm} {k j k' : Nat} {v : Int32} (h : k' ≠ k) : (sI μ k j v).1 k' = μ.1 k' := by
  funext i
  simp [sI, h]
theorem sJ_ne {μ : Mm} {k j k' : Nat} {v : Int64} (h : k' ≠ k) : (sJ μ k j v).2.1 k' = μ.2.1 k' := by
  funext i
  simp [sJ, h]
theorem cpI_ne {μ : Mm} {ks sp kd dp n k' : Nat} (h : k' ≠ kd) : (cpI μ ks sp kd dp n).1 k' = μ.1 k' := by
  funext i
  simp [cpI, h]
theorem cpJ_ne {μ : Mm} {ks sp kd dp n k' : Nat} (h : k' ≠ kd) : (cpJ μ ks sp kd dp n).2.1 k' = μ.2.1 k' := by
  funext i
  simp [cpJ, h]
theorem wF_sI {G : Gt} {b : Nat} {μ : Mm} {k j : Nat} {v : Int32} : ∀ k', k' ≠ k → wF G b (sI μ k j v) k' = wF G b μ k' := fun k' h => wF_congr (sI_ne h) rfl rfl
theorem wF_sJ {G : Gt} {b : Nat} {μ : Mm} {k j : Nat} {v : Int64} : ∀ k', k' ≠ k → wF G b (sJ μ k j v) k' = wF G b μ k' := fun k' h => wF_congr rfl (sJ_ne h) rfl
theorem wF_cpI {G : Gt} {b : Nat} {μ : Mm} {ks sp kd dp n : Nat} : ∀ k', k' ≠ kd → wF G b (cpI μ ks sp kd dp n) k' = wF G b μ k' := fun k' h => wF_congr (cpI_ne h) rfl rfl
theorem wF_cpJ {G : Gt} {b : Nat} {μ : Mm} {ks sp kd dp n : Nat} : ∀ k', k' ≠ kd → wF G b (cpJ μ ks sp kd dp n) k' = wF G b μ k' := fun k' h => wF_congr rfl (cpJ_ne h) rfl
theorem wF_13 {G : Gt} {b : Nat} {μ : Mm} {k : Nat} (h : ky k = 13) : wF G b μ k = .inl (G.2.1 0, ln k, .inl (μ.1 k)) := by simp only [wF, h]
theorem wF_14 {G : Gt} {b : Nat} {μ : Mm} {k : Nat} (h : ky k = 14) : wF G b μ k = .inl (G.2.1 1, ln k, .inl (μ.1 k)) := by simp only [wF, h]
theorem wF_15 {G : Gt} {b : Nat} {μ : Mm} {k : Nat} (h : ky k = 15) : wF G b μ k = .inl (G.2.1 2, ln k, .inr (.inl (μ.2.1 k))) := by simp only [wF, h]
theorem wF_23 {G : Gt} {b : Nat} {μ : Mm} {k : Nat} (h : ky k = 23) : wF G b μ k = .inl (G.2.1 0, ln k, .inl (μ.1 k)) := by simp only [wF, h]
theorem wF_24 {G : Gt} {b : Nat} {μ : Mm} {k : Nat} (h : ky k = 24) : wF G b μ k = .inl (G.2.1 1, ln k, .inl (μ.1 k)) := by simp only [wF, h]
theorem wF_25 {G : Gt} {b : Nat} {μ : Mm} {k : Nat} (h : ky k = 25) : wF G b μ k = .inl (G.2.1 2, ln k, .inr (.inl (fun _ => Int64.ofNat (G.2.2.2 14)))) := by simp only [wF, h]
theorem wF_16 {G : Gt} {b : Nat} {μ : Mm} {k : Nat} (h : ky k = 16) : wF G b μ k = .inl (G.2.1 3, ln k, .inl (μ.1 k)) := by simp only [wF, h]
theorem wF_17 {G : Gt} {b : Nat} {μ : Mm} {k : Nat} (h : ky k = 17) : wF G b μ k = .inl (G.2.1 4, ln k, .inr (.inr (.inr (.inr (fun j => some (b + (144 + 27 * j))))))) := by simp only [wF, h]
theorem sI_upd {μ : Mm} {k j : Nat} {v : Int32} : upd (μ.1 k) j v = (sI μ k j v).1 k := by
  funext i
  simp [sI, upd]
theorem sJ_upd {μ : Mm} {k j : Nat} {v : Int64} : vp_updL (μ.2.1 k) j v = (sJ μ k j v).2.1 k := by
  funext i
  simp [sJ, vp_updL]
theorem cpI_cpy {μ : Mm} {ks sp kd dp n : Nat} : va_cpy (μ.1 ks) (μ.1 kd) sp dp n = (cpI μ ks sp kd dp n).1 kd := by
  funext i
  simp [cpI, va_cpy]
theorem cpJ_cpy {μ : Mm} {ks sp kd dp n : Nat} : va_cpy (μ.2.1 ks) (μ.2.1 kd) sp dp n = (cpJ μ ks sp kd dp n).2.1 kd := by
  funext i
  simp [cpJ, va_cpy]
/-- the words that the tables give of nest mates; the string constants -/
def nestL : List (String × Nat × MethodName × String) := [("ContentsSetter", 23, ⟨"ContentsSetter$Parser", "<init>", "()V"⟩, "ContentsSetter"), ("ContentsSetter", 37, ⟨"ContentsSetter$State", "<init>", "()V"⟩, "ContentsSetter"), ("ContentsSetter", 54, ⟨"ContentsSetter$Layout", "<init>", "()V"⟩, "ContentsSetter"), ("ContentsSetter$Layout", 11, ⟨"ContentsSetter$Measures", "<init>", "()V"⟩, "ContentsSetter"), ("ContentsSetter$Layout", 20, ⟨"ContentsSetter$Pages", "<init>", "()V"⟩, "ContentsSetter"), ("ContentsSetter$Layout", 27, ⟨"ContentsSetter$Table", "<init>", "()V"⟩, "ContentsSetter"), ("ContentsSetter", 61, ⟨"ContentsSetter$Words", "<init>", "()V"⟩, "ContentsSetter"), ("ContentsSetter$Measures", 71, ⟨"ContentsSetter", "signWidth", "(I)I"⟩, "ContentsSetter"), ("ContentsSetter$Measures", 74, ⟨"ContentsSetter", "arabicWidth", "(I)I"⟩, "ContentsSetter"), ("ContentsSetter$WordRow", 34, ⟨"ContentsSetter", "signWidth", "(I)I"⟩, "ContentsSetter"), ("ContentsSetter$Pages", 82, ⟨"ContentsSetter", "quotientUp", "(II)I"⟩, "ContentsSetter"), ("ContentsSetter$Pages", 86, ⟨"ContentsSetter", "quotient", "(II)I"⟩, "ContentsSetter"), ("ContentsSetter$Pages", 64, ⟨"ContentsSetter", "romanWidth", "(I)I"⟩, "ContentsSetter"), ("ContentsSetter$Pages", 67, ⟨"ContentsSetter", "arabicWidth", "(I)I"⟩, "ContentsSetter"), ("ContentsSetter$Table", 107, ⟨"ContentsSetter", "signWidth", "(I)I"⟩, "ContentsSetter"), ("ContentsSetter$Table", 117, ⟨"ContentsSetter", "quotientUp", "(II)I"⟩, "ContentsSetter"), ("ContentsSetter$Table", 120, ⟨"ContentsSetter", "quotient", "(II)I"⟩, "ContentsSetter"), ("ContentsSetter$Layout", 76, ⟨"ContentsSetter", "quotientUp", "(II)I"⟩, "ContentsSetter"), ("ContentsSetter$Layout", 82, ⟨"ContentsSetter", "quotient", "(II)I"⟩, "ContentsSetter"), ("ContentsSetter$Layout", 106, ⟨"ContentsSetter", "signWidth", "(I)I"⟩, "ContentsSetter"), ("ContentsSetter$Text", 36, ⟨"ContentsSetter", "quotient", "(II)I"⟩, "ContentsSetter")]
def cstL : List (String × String) := [("java/lang/IllegalStateException", "java/lang/IllegalStateException"), ("java/lang/IllegalArgumentException", "java/lang/IllegalArgumentException"), ("java/lang/IndexOutOfBoundsException", "java/lang/IndexOutOfBoundsException"), ("java/util/NoSuchElementException", "java/util/NoSuchElementException")]
def ncL : List (String × String) := [("java/lang/IllegalArgumentException", "java/lang/IllegalStateException"), ("java/lang/IllegalArgumentException", "java/lang/IndexOutOfBoundsException"), ("java/lang/IllegalArgumentException", "java/util/NoSuchElementException"), ("java/lang/IllegalStateException", "java/lang/IllegalArgumentException"), ("java/lang/IllegalStateException", "java/lang/IndexOutOfBoundsException"), ("java/lang/IllegalStateException", "java/util/NoSuchElementException"), ("java/lang/IndexOutOfBoundsException", "java/lang/IllegalArgumentException"), ("java/lang/IndexOutOfBoundsException", "java/lang/IllegalStateException"), ("java/lang/IndexOutOfBoundsException", "java/util/NoSuchElementException"), ("java/util/NoSuchElementException", "java/lang/IllegalArgumentException"), ("java/util/NoSuchElementException", "java/lang/IllegalStateException"), ("java/util/NoSuchElementException", "java/lang/IndexOutOfBoundsException")]
def decL : List MethodName := [⟨"java/lang/RuntimeException", "<init>", "()V"⟩, ⟨"java/lang/RuntimeException", "<init>", "(Ljava/lang/String;)V"⟩, ⟨"java/lang/Exception", "<init>", "()V"⟩, ⟨"java/lang/Exception", "<init>", "(Ljava/lang/String;)V"⟩, ⟨"java/lang/Throwable", "<init>", "()V"⟩, ⟨"java/lang/Throwable", "<init>", "(Ljava/lang/String;)V"⟩]
def NW (U : State) : Prop := (∀ q ∈ nestL, va_Nw (.methodLinkNest q.1 q.2.1 q.2.2.1 q.2.2.2) U) ∧ (∀ q ∈ cstL, va_Nw (.castable q.1 q.2) U) ∧ (∀ q ∈ ncL, va_Nc q.1 q.2 U) ∧ ∀ q ∈ decL, va_Nw (.declares q) U
def refS : List (String × Nat × String × Nat) := [("ContentsSetter$Parser", 121, "book", 0), ("ContentsSetter$Parser", 123, "width", 1), ("ContentsSetter$Parser", 133, "lines", 2), ("ContentsSetter$Parser", 135, "page", 3), ("ContentsSetter$Parser", 140, "style", 4), ("ContentsSetter$Parser", 160, "indent", 5), ("ContentsSetter$Parser", 162, "hang", 6), ("ContentsSetter$Parser", 164, "gap", 7), ("ContentsSetter$Parser", 166, "dots", 8), ("ContentsSetter$Parser", 168, "grid", 9), ("ContentsSetter$Parser", 145, "right", 10), ("ContentsSetter$Parser", 150, "main", 11), ("ContentsSetter$Parser", 155, "section", 12), ("ContentsSetter", 95, "the input buffer is full", 13), ("ContentsSetter", 105, "no such length", 14), ("ContentsSetter", 167, "no such count", 15), ("ContentsSetter", 169, "no such setting", 16), ("ContentsSetter", 435, "no such section", 17), ("ContentsSetter", 214, "no such value of a section", 18), ("ContentsSetter", 231, "no such part", 19), ("ContentsSetter", 241, "no such page of the book", 20), ("ContentsSetter", 437, "no such line of the table", 21), ("ContentsSetter", 269, "no such value of a line", 22), ("ContentsSetter", 444, "not the last line of its entry", 23), ("ContentsSetter", 280, "no such unit", 24), ("ContentsSetter", 306, "no such word", 25), ("ContentsSetter", 449, "no such length of a section", 26), ("ContentsSetter", 447, "no such level", 27), ("ContentsSetter", 333, "a section would have a level that cannot be", 28), ("ContentsSetter", 454, "the input is not a title", 29), ("ContentsSetter", 349, "no such number for a section", 30), ("ContentsSetter", 354, "no more sections", 31), ("ContentsSetter", 362, "no such width", 32), ("ContentsSetter", 367, "no such grid", 33), ("ContentsSetter", 409, "no such number of pages", 34), ("ContentsSetter", 456, "no such place", 35), ("ContentsSetter", 423, "nothing to undo", 36), ("ContentsSetter", 432, "no such byte of the output", 37), ("ContentsSetterModel", 252, "book", 0), ("ContentsSetterModel", 254, "width", 1), ("ContentsSetterModel", 206, "lines", 2), ("ContentsSetterModel", 256, "page", 3), ("ContentsSetterModel", 231, "style", 4), ("ContentsSetterModel", 218, "indent", 5), ("ContentsSetterModel", 220, "hang", 6), ("ContentsSetterModel", 222, "gap", 7), ("ContentsSetterModel", 224, "dots", 8), ("ContentsSetterModel", 226, "grid", 9), ("ContentsSetterModel", 236, "right", 10), ("ContentsSetterModel", 242, "main", 11), ("ContentsSetterModel", 244, "section", 12)]
def SW (G : Gt) (b : Nat) (U : State) (H : Heap) : Prop := (∀ t, t < 13 → vk_S 1 [lenS.getD t 0] [bytS.getD t []] (fun _ => G.2.2.1 t) (fun _ => G.2.2.2 t) (fb b) U H) ∧ (∀ q ∈ refS, vk_R q.1 q.2.1 q.2.2.1 (G.2.2.1 q.2.2.2) U) ∧ va_Z "java/lang/String" "COMPACT_STRINGS" "Z" (.int 1) (fb b) U H ∧ vx_Zq Bundle.tN "UNASSIGNED_STACK" Bundle.steD (fb b) U H ∧ vx_Zq Bundle.tN "SUPPRESSED_SENTINEL" Bundle.listD (fb b) U H ∧ va_Zq "jdk/internal/util/Preconditions" "SIOOBE_FORMATTER" "Ljava/util/function/BiFunction;" (fb b) U H
theorem NW.same {u U : State} (hv : u.vm = U.vm) (h : NW u) : NW U := ⟨fun q hq => va_Nw.same rfl hv (h.1 q hq), fun q hq => va_Nw.same rfl hv (h.2.1 q hq), fun q hq => va_Nc.moved (by rw [hv]; exact Vm.Alike.refl U.vm) (h.2.2.1 q hq), fun q hq => va_Nw.same rfl hv (h.2.2.2 q hq)⟩
theorem NW.warm {s U : State} (hW : s.WarmedH U.vm) (h : NW s) : NW U := ⟨fun q hq => va_Nw.warmM hW (h.1 q hq), fun q hq => va_Nw.warmC hW (h.2.1 q hq), fun q hq => va_Nc.moved hW.alike (h.2.2.1 q hq), fun q hq => va_Nw.warmD hW (h.2.2.2 q hq)⟩
theorem SW.calling {G : Gt} {b : Nat} {U : State} {H : Heap} {g : JFrame} {mk : MethodId} {a : Array Value} (h : SW G b U H) : SW G b (U.calling g mk a) H := ⟨fun t ht => vk_S.moved (Vm.Alike.refl U.vm) (h.1 t ht), fun q hq => vk_R.same rfl (h.2.1 q hq), va_Z.moved (Vm.Alike.refl U.vm) h.2.2.1, vx_Zq.moved (Vm.Alike.refl U.vm) h.2.2.2.1, vx_Zq.moved (Vm.Alike.refl U.vm) h.2.2.2.2.1, va_Zq.moved (Vm.Alike.refl U.vm) h.2.2.2.2.2⟩
theorem SW.warm {G : Gt} {b : Nat} {s U : State} {H : Heap} (hW : s.WarmedH U.vm) (h : SW G b s H) : SW G b U H := ⟨fun t ht => vk_S.moved hW.alike (h.1 t ht), fun q hq => vk_R.warm hW (h.2.1 q hq), va_Z.moved hW.alike h.2.2.1, vx_Zq.moved hW.alike h.2.2.2.1, vx_Zq.moved hW.alike h.2.2.2.2.1, va_Zq.moved hW.alike h.2.2.2.2.2⟩
theorem SW.kept {G : Gt} {b : Nat} {U : State} {H0 H : Heap} {locs : List Loc} (h : SW G b U H0) (hS : va_S (fb b) H0 H locs) : SW G b U H := ⟨fun t ht => vk_S.kept (h.1 t ht) hS.2.1, h.2.1, va_Z.kept h.2.2.1 hS.2.1, vx_Zq.kept h.2.2.2.1 hS.2.1, vx_Zq.kept h.2.2.2.2.1 hS.2.1, va_Zq.kept h.2.2.2.2.2 hS.2.1⟩
def PcW (G : Gt) (b : Nat) (μ : Mm) (av : List Value) : Array Value → State → Prop := va_Pc av (fun U => WH G b μ U.heap ∧ WK G U ∧ NW U ∧ SW G b U U.heap)
def QW (G : Gt) (b : Nat) (μ : Mm) (v : Option Value) : Array Value → State → Outcome → State → Prop := fun _ st oc t => oc = .returned v ∧ WH G b μ t.heap ∧ va_F (fb b) st t
theorem PcW.blind {G : Gt} {b : Nat} {μ : Mm} {av : List Value} : FrameBlind (PcW G b μ av) := fun a U g mk h => ⟨h.1, h.2.1, va_K.moved (u := U) (U := U.calling g mk a) (Vm.Alike.refl U.vm) h.2.2.1, NW.same (u := U) (U := U.calling g mk a) rfl h.2.2.2.1, SW.calling h.2.2.2.2⟩
/-- all that a body may use -/
def FX (G : Gt) (b : Nat) (own : String) (cc : ByteArray) (nL : Nat) (p : Program) (s : State) (m : MethodId) (args : Array Value) (meth : Method) (c : Code) : Prop :=
  p.tables.exec = Jvm.exec ∧ c.code = cc ∧ c.maxLocals = nL ∧ s.vm.findClass own = some m.cls ∧ (∀ w ∈ TBG, w.before args s = true) ∧ WK G s ∧ NW s ∧ SW G b s s.heap ∧ meth.locks = false
theorem TBG_good {w : Cond} (h : w ∈ TBG) : (w.onTables && w.keeps) = true ∨ ∃ ty, w = .arrayClass ty := good_of_word (List.mem_filter.mp h).2
theorem wU_in {c c0 : Cond} (h : c ∈ TBG) : GoodIn (c0 :: TBG) (wU c) := by
  intro w hw
  rcases List.mem_cons.mp hw with rfl | hw
  · exact ⟨List.mem_cons_of_mem _ h, TBG_good h⟩
  · exact ⟨List.mem_cons_of_mem _ hw, TBG_good hw⟩
theorem wT_in {c : Cond} (h : c ∈ TBG) : GoodIn TBG (wU c) := by
  intro w hw
  rcases List.mem_cons.mp hw with rfl | hw
  · exact ⟨h, TBG_good h⟩
  · exact ⟨hw, TBG_good hw⟩
section FLAT
variable {p : Program} {l : Launch} {e : Env} {R : Room} {s : State} {m : MethodId} {args : Array Value} {below : List Frame} {meth : Method} {c : Code} {H : Heap} {locs : List Loc} {cells slots : Nat} {Q : State → Prop}
variable {cc : ByteArray} {pc : Nat} {ls : Array Slot} {rest : List Value} {G : Gt} {b : Nat} {μ μ' : Mm} {H0 : Heap} {own : String} {nL : Nat}
theorem fl_get (ci : Nat) {C : String} {T : u_T} {N : Nat} (hcl : vwCl[ci]? = some (C, T, N)) (hin : ∀ w ∈ u_ws C T N, w ∈ TBG) {fs : List Value} {k : Nat} (hk : k < nn G) (hf : wF G b μ k = .inr (ci, fs)) (F : FX G b own cc nL p s m args meth c) (hW : WH G b μ H) (j : Nat) (hj : j < N) {index : Nat} (hlink : Cond.fieldLink own index C (T j).2.1 (T j).2.2.1 ∈ TBG) (hsame : (T j).1 = C) {v : Value} (hv : fs[j]? = some v) (hdg : decode cc pc = .ok (.getfield index, 3))
    (kk : W p l e R s m args below meth c H locs cells slots Q (F0 m (pc + 3) ls (v :: rest))) : W p l e R s m args below meth c H locs cells slots Q (F0 m pc ls (.ref (b + k) :: rest)) := by
  obtain ⟨hx, hb, hml, hown, hts, hK, hN, hSW, hlk⟩ := F
  exact va_get hx hb hts hin hown hK (wl_P hW) k (by rw [wl_get hk, hf]) hcl j hj (hts _ hlink) (fun x h => by rw [hsame] at h; exact h) hv hdg kk
theorem fl_put (ci : Nat) {C : String} {T : u_T} {N : Nat} (hcl : vwCl[ci]? = some (C, T, N)) (hin : ∀ w ∈ u_ws C T N, w ∈ TBG) (ty0 : Nat → FieldType) (hty : ∀ k, k < N → parseFieldDescriptor (T k).2.2.1 = some (ty0 k)) (hnm : ∀ a, a < N → ∀ b, b < N → a ≠ b → (T a).2.1 ≠ (T b).2.1) {fs : List Value} {k : Nat} (hk : k < nn G) (hf : wF G b μ k = .inr (ci, fs)) (F : FX G b own cc nL p s m args meth c) (hW : WH G b μ H) (hS : va_S (fb b) H0 H locs) (j : Nat) (hj : j < N) {index : Nat} (hlink : Cond.fieldLink own index C (T j).2.1 (T j).2.2.1 ∈ TBG) (hsame : (T j).1 = C) (hfin : (T j).2.2.2 = false) {ty : FieldType} {v : Value} (hd : parseFieldDescriptor (T j).2.2.1 = some ty) (hn : narrow ty v = v) (hfit : fits ty v = true) (hl : j < fs.length)
    (hf' : wF G b μ' k = .inr (ci, fs.set j v)) (ho : ∀ k', k' ≠ k → wF G b μ' k' = wF G b μ k') (hr : okNd (μ'.2.2 0) ∧ okTx (μ'.2.2 1)) (hdg : decode cc pc = .ok (.putfield index, 3))
    (kk : ∀ (H1 : Heap) (locs1 : List Loc), WH G b μ' H1 → va_S (fb b) H0 H1 locs1 → W p l e R s m args below meth c H1 locs1 cells slots Q (F0 m (pc + 3) ls rest)) : W p l e R s m args below meth c H locs cells slots Q (F0 m pc ls (v :: .ref (b + k) :: rest)) := by
  obtain ⟨hx, hb, hml, hown, hts, hK, hN, hSW, hlk⟩ := F
  exact va_put hx hb hts hin ty0 hty hnm hown hK (wl_P hW) wl_D hS k (by rw [wl_get hk, hf]) hcl j hj (hts _ hlink) (fun x h => by rw [hsame] at h; exact h) hfin hd hn hfit hl hdg (fun H1 locs1 hP1 _ hS1 => kk H1 locs1 (WH_set hk hW hP1 hf' ho hr) hS1)
theorem fl_iald {k : Nat} (hky : ky k = 14) (F : FX G b own cc nL p s m args meth c) (hW : WH G b μ H) {i x : Int32} (h : ld μ k i = some x) (hdg : decode cc pc = .ok (.iaload, 1))
    (kk : W p l e R s m args below meth c H locs cells slots Q (F0 m (pc + 1) ls (.int x :: rest))) : W p l e R s m args below meth c H locs cells slots Q (F0 m pc ls (.int i :: .ref (b + k) :: rest)) := by
  obtain ⟨hx, hb, hml, hown, hts, hK, hN, hSW, hlk⟩ := F
  obtain ⟨hin, rfl⟩ := ld_some h
  have hk := ky_lt (G := G) hky (by decide)
  exact va_iald hx hb hK (wl_P hW) k 1 (by rw [wl_get hk, wF_14 hky]) rfl hin hdg kk
theorem fl_bald {k : Nat} (hky : ky k = 13) (F : FX G b own cc nL p s m args meth c) (hW : WH G b μ H) {i x : Int32} (h : ld μ k i = some x) (hdg : decode cc pc = .ok (.baload, 1))
    (kk : W p l e R s m args below meth c H locs cells slots Q (F0 m (pc + 1) ls (.int x :: rest))) : W p l e R s m args below meth c H locs cells slots Q (F0 m pc ls (.int i :: .ref (b + k) :: rest)) := by
  obtain ⟨hx, hb, hml, hown, hts, hK, hN, hSW, hlk⟩ := F
  obtain ⟨hin, rfl⟩ := ld_some h
  have hk := ky_lt (G := G) hky (by decide)
  exact va_bald hx hb hK (wl_P hW) k 0 (by rw [wl_get hk, wF_13 hky]) rfl hin hdg kk
theorem fl_lald {k : Nat} (hky : ky k = 15) (F : FX G b own cc nL p s m args meth c) (hW : WH G b μ H) {i : Int32} {x : Int64} (h : ldJ μ k i = some x) (hdg : decode cc pc = .ok (.laload, 1))
    (kk : W p l e R s m args below meth c H locs cells slots Q (F0 m (pc + 1) ls (.long x :: rest))) : W p l e R s m args below meth c H locs cells slots Q (F0 m pc ls (.int i :: .ref (b + k) :: rest)) := by
  obtain ⟨hx, hb, hml, hown, hts, hK, hN, hSW, hlk⟩ := F
  obtain ⟨hin, rfl⟩ := ldJ_some h
  have hk := ky_lt (G := G) hky (by decide)
  exact va_lald hx hb hK (wl_P hW) k 2 (by rw [wl_get hk, wF_15 hky]) rfl hin hdg kk
theorem fl_iast {k : Nat} (hky : ky k = 14) (F : FX G b own cc nL p s m args meth c) (hW : WH G b μ H) (hS : va_S (fb b) H0 H locs) {i x : Int32} (h : st μ k i x = some μ') (hdg : decode cc pc = .ok (.iastore, 1))
    (kk : ∀ (H1 : Heap) (locs1 : List Loc), WH G b μ' H1 → va_S (fb b) H0 H1 locs1 → W p l e R s m args below meth c H1 locs1 cells slots Q (F0 m (pc + 1) ls rest)) : W p l e R s m args below meth c H locs cells slots Q (F0 m pc ls (.int x :: .int i :: .ref (b + k) :: rest)) := by
  obtain ⟨hx, hb, hml, hown, hts, hK, hN, hSW, hlk⟩ := F
  obtain ⟨hin, rfl⟩ := st_some h
  have hk := ky_lt (G := G) hky (by decide)
  exact va_iast hx hb hK (wl_P hW) wl_D hS k 1 (by rw [wl_get hk, wF_14 hky]) rfl hin hdg (fun H1 locs1 hP1 _ hS1 => kk H1 locs1 (WH_set hk hW hP1 (by rw [wF_14 hky, sI_upd]) wF_sI hW.2) hS1)
theorem fl_bast {k : Nat} (hky : ky k = 13) (F : FX G b own cc nL p s m args meth c) (hW : WH G b μ H) (hS : va_S (fb b) H0 H locs) {i x : Int32} (h : st μ k i (vp_nar .byte x) = some μ') (hdg : decode cc pc = .ok (.bastore, 1))
    (kk : ∀ (H1 : Heap) (locs1 : List Loc), WH G b μ' H1 → va_S (fb b) H0 H1 locs1 → W p l e R s m args below meth c H1 locs1 cells slots Q (F0 m (pc + 1) ls rest)) : W p l e R s m args below meth c H locs cells slots Q (F0 m pc ls (.int x :: .int i :: .ref (b + k) :: rest)) := by
  obtain ⟨hx, hb, hml, hown, hts, hK, hN, hSW, hlk⟩ := F
  obtain ⟨hin, rfl⟩ := st_some h
  have hk := ky_lt (G := G) hky (by decide)
  exact va_bast hx hb hK (wl_P hW) wl_D hS k 0 (by rw [wl_get hk, wF_13 hky]) rfl hin hdg (fun H1 locs1 hP1 _ hS1 => kk H1 locs1 (WH_set hk hW hP1 (by rw [wF_13 hky, sI_upd]) wF_sI hW.2) hS1)
theorem fl_last {k : Nat} (hky : ky k = 15) (F : FX G b own cc nL p s m args meth c) (hW : WH G b μ H) (hS : va_S (fb b) H0 H locs) {i : Int32} {x : Int64} (h : stJ μ k i x = some μ') (hdg : decode cc pc = .ok (.lastore, 1))
    (kk : ∀ (H1 : Heap) (locs1 : List Loc), WH G b μ' H1 → va_S (fb b) H0 H1 locs1 → W p l e R s m args below meth c H1 locs1 cells slots Q (F0 m (pc + 1) ls rest)) : W p l e R s m args below meth c H locs cells slots Q (F0 m pc ls (.long x :: .int i :: .ref (b + k) :: rest)) := by
  obtain ⟨hx, hb, hml, hown, hts, hK, hN, hSW, hlk⟩ := F
  obtain ⟨hin, rfl⟩ := stJ_some h
  have hk := ky_lt (G := G) hky (by decide)
  exact va_last hx hb hK (wl_P hW) wl_D hS k 2 (by rw [wl_get hk, wF_15 hky]) rfl hin hdg (fun H1 locs1 hP1 _ hS1 => kk H1 locs1 (WH_set hk hW hP1 (by rw [wF_15 hky, sJ_upd]) wF_sJ hW.2) hS1)
theorem fm_iald {k : Nat} (hky : ky k = 24) (F : FX (fg G) b own cc nL p s m args meth c) (hW : WH (fg G) b μ H) {i x : Int32} (h : ld μ k i = some x) (hdg : decode cc pc = .ok (.iaload, 1))
    (kk : W p l e R s m args below meth c H locs cells slots Q (F0 m (pc + 1) ls (.int x :: rest))) : W p l e R s m args below meth c H locs cells slots Q (F0 m pc ls (.int i :: .ref (b + k) :: rest)) := by
  obtain ⟨hx, hb, hml, hown, hts, hK, hN, hSW, hlk⟩ := F
  obtain ⟨hin, rfl⟩ := ld_some h
  have hk := ky_lm (G := G) hky (by decide)
  exact va_iald hx hb hK (wl_P hW) k 1 (by rw [wl_get hk, wF_24 hky]) rfl hin hdg kk
theorem fm_bald {k : Nat} (hky : ky k = 23) (F : FX (fg G) b own cc nL p s m args meth c) (hW : WH (fg G) b μ H) {i x : Int32} (h : ld μ k i = some x) (hdg : decode cc pc = .ok (.baload, 1))
    (kk : W p l e R s m args below meth c H locs cells slots Q (F0 m (pc + 1) ls (.int x :: rest))) : W p l e R s m args below meth c H locs cells slots Q (F0 m pc ls (.int i :: .ref (b + k) :: rest)) := by
  obtain ⟨hx, hb, hml, hown, hts, hK, hN, hSW, hlk⟩ := F
  obtain ⟨hin, rfl⟩ := ld_some h
  have hk := ky_lm (G := G) hky (by decide)
  exact va_bald hx hb hK (wl_P hW) k 0 (by rw [wl_get hk, wF_23 hky]) rfl hin hdg kk
theorem fm_iast {k : Nat} (hky : ky k = 24) (F : FX (fg G) b own cc nL p s m args meth c) (hW : WH (fg G) b μ H) (hS : va_S (fb b) H0 H locs) {i x : Int32} (h : st μ k i x = some μ') (hdg : decode cc pc = .ok (.iastore, 1))
    (kk : ∀ (H1 : Heap) (locs1 : List Loc), WH (fg G) b μ' H1 → va_S (fb b) H0 H1 locs1 → W p l e R s m args below meth c H1 locs1 cells slots Q (F0 m (pc + 1) ls rest)) : W p l e R s m args below meth c H locs cells slots Q (F0 m pc ls (.int x :: .int i :: .ref (b + k) :: rest)) := by
  obtain ⟨hx, hb, hml, hown, hts, hK, hN, hSW, hlk⟩ := F
  obtain ⟨hin, rfl⟩ := st_some h
  have hk := ky_lm (G := G) hky (by decide)
  exact va_iast hx hb hK (wl_P hW) wl_D hS k 1 (by rw [wl_get hk, wF_24 hky]) rfl hin hdg (fun H1 locs1 hP1 _ hS1 => kk H1 locs1 (WH_set hk hW hP1 (by rw [wF_24 hky, sI_upd]) wF_sI hW.2) hS1)
theorem fm_bast {k : Nat} (hky : ky k = 23) (F : FX (fg G) b own cc nL p s m args meth c) (hW : WH (fg G) b μ H) (hS : va_S (fb b) H0 H locs) {i x : Int32} (h : st μ k i (vp_nar .byte x) = some μ') (hdg : decode cc pc = .ok (.bastore, 1))
    (kk : ∀ (H1 : Heap) (locs1 : List Loc), WH (fg G) b μ' H1 → va_S (fb b) H0 H1 locs1 → W p l e R s m args below meth c H1 locs1 cells slots Q (F0 m (pc + 1) ls rest)) : W p l e R s m args below meth c H locs cells slots Q (F0 m pc ls (.int x :: .int i :: .ref (b + k) :: rest)) := by
  obtain ⟨hx, hb, hml, hown, hts, hK, hN, hSW, hlk⟩ := F
  obtain ⟨hin, rfl⟩ := st_some h
  have hk := ky_lm (G := G) hky (by decide)
  exact va_bast hx hb hK (wl_P hW) wl_D hS k 0 (by rw [wl_get hk, wF_23 hky]) rfl hin hdg (fun H1 locs1 hP1 _ hS1 => kk H1 locs1 (WH_set hk hW hP1 (by rw [wF_23 hky, sI_upd]) wF_sI hW.2) hS1)
theorem fm_zald {k : Nat} (hky : ky k = 16) (F : FX (fg G) b own cc nL p s m args meth c) (hW : WH (fg G) b μ H) {i x : Int32} (h : ld μ k i = some x) (hdg : decode cc pc = .ok (.baload, 1))
    (kk : W p l e R s m args below meth c H locs cells slots Q (F0 m (pc + 1) ls (.int x :: rest))) : W p l e R s m args below meth c H locs cells slots Q (F0 m pc ls (.int i :: .ref (b + k) :: rest)) := by
  obtain ⟨hx, hb, hml, hown, hts, hK, hN, hSW, hlk⟩ := F
  obtain ⟨hin, rfl⟩ := ld_some h
  have hk := ky_lm (G := G) hky (by decide)
  exact va_zald hx hb hK (wl_P hW) k 3 (by rw [wl_get hk, wF_16 hky]) rfl hin hdg kk
theorem fm_zast {k : Nat} (hky : ky k = 16) (F : FX (fg G) b own cc nL p s m args meth c) (hW : WH (fg G) b μ H) (hS : va_S (fb b) H0 H locs) {i x : Int32} (h : st μ k i (vp_nar .boolean x) = some μ') (hdg : decode cc pc = .ok (.bastore, 1))
    (kk : ∀ (H1 : Heap) (locs1 : List Loc), WH (fg G) b μ' H1 → va_S (fb b) H0 H1 locs1 → W p l e R s m args below meth c H1 locs1 cells slots Q (F0 m (pc + 1) ls rest)) : W p l e R s m args below meth c H locs cells slots Q (F0 m pc ls (.int x :: .int i :: .ref (b + k) :: rest)) := by
  obtain ⟨hx, hb, hml, hown, hts, hK, hN, hSW, hlk⟩ := F
  obtain ⟨hin, rfl⟩ := st_some h
  have hk := ky_lm (G := G) hky (by decide)
  exact va_zast hx hb hK (wl_P hW) wl_D hS k 3 (by rw [wl_get hk, wF_16 hky]) rfl hin hdg (fun H1 locs1 hP1 _ hS1 => kk H1 locs1 (WH_set hk hW hP1 (by rw [wF_16 hky, sI_upd]) wF_sI hW.2) hS1)
theorem fl_alenI {k : Nat} (hky : ky k = 14) (F : FX G b own cc nL p s m args meth c) (hW : WH G b μ H) (hdg : decode cc pc = .ok (.arraylength, 1))
    (kk : W p l e R s m args below meth c H locs cells slots Q (F0 m (pc + 1) ls (.int (nI (ln k)) :: rest))) : W p l e R s m args below meth c H locs cells slots Q (F0 m pc ls (.ref (b + k) :: rest)) := by
  obtain ⟨hx, hb, hml, hown, hts, hK, hN, hSW, hlk⟩ := F
  have hk := ky_lt (G := G) hky (by decide)
  exact va_alen (ty := .int) (x := (ln k, .inl (μ.1 k))) hx hb hK (wl_P hW) k 1 (by rw [wl_get hk, wF_14 hky]) rfl rfl hdg kk
theorem fl_alenB {k : Nat} (hky : ky k = 13) (F : FX G b own cc nL p s m args meth c) (hW : WH G b μ H) (hdg : decode cc pc = .ok (.arraylength, 1))
    (kk : W p l e R s m args below meth c H locs cells slots Q (F0 m (pc + 1) ls (.int (nI (ln k)) :: rest))) : W p l e R s m args below meth c H locs cells slots Q (F0 m pc ls (.ref (b + k) :: rest)) := by
  obtain ⟨hx, hb, hml, hown, hts, hK, hN, hSW, hlk⟩ := F
  have hk := ky_lt (G := G) hky (by decide)
  exact va_alen (ty := .byte) (x := (ln k, .inl (μ.1 k))) hx hb hK (wl_P hW) k 0 (by rw [wl_get hk, wF_13 hky]) rfl rfl hdg kk
theorem fl_alenJ {k : Nat} (hky : ky k = 15) (F : FX G b own cc nL p s m args meth c) (hW : WH G b μ H) (hdg : decode cc pc = .ok (.arraylength, 1))
    (kk : W p l e R s m args below meth c H locs cells slots Q (F0 m (pc + 1) ls (.int (nI (ln k)) :: rest))) : W p l e R s m args below meth c H locs cells slots Q (F0 m pc ls (.ref (b + k) :: rest)) := by
  obtain ⟨hx, hb, hml, hown, hts, hK, hN, hSW, hlk⟩ := F
  have hk := ky_lt (G := G) hky (by decide)
  exact va_alen (ty := .long) (x := (ln k, .inr (.inl (μ.2.1 k)))) hx hb hK (wl_P hW) k 2 (by rw [wl_get hk, wF_15 hky]) rfl rfl hdg kk
theorem fl_alenS {k : Nat} (hky : ky k = 17) (F : FX G b own cc nL p s m args meth c) (hW : WH G b μ H) (hdg : decode cc pc = .ok (.arraylength, 1))
    (kk : W p l e R s m args below meth c H locs cells slots Q (F0 m (pc + 1) ls (.int (nI (ln k)) :: rest))) : W p l e R s m args below meth c H locs cells slots Q (F0 m pc ls (.ref (b + k) :: rest)) := by
  obtain ⟨hx, hb, hml, hown, hts, hK, hN, hSW, hlk⟩ := F
  have hk := ky_lt (G := G) hky (by decide)
  exact va_alen (ty := .object "ContentsSetter$State") (x := (ln k, .inr (.inr (.inr (.inr (fun j => some (b + (144 + 27 * j)))))))) hx hb hK (wl_P hW) k 4 (by rw [wl_get hk, wF_17 hky]) rfl rfl hdg kk
theorem fl_aald {k : Nat} (hky : ky k = 17) (F : FX G b own cc nL p s m args meth c) (hW : WH G b μ H) {i : Int32} (h : inb i (ln k) = true) (hdg : decode cc pc = .ok (.aaload, 1))
    (kk : W p l e R s m args below meth c H locs cells slots Q (F0 m (pc + 1) ls (.ref (b + (144 + 27 * ix i)) :: rest))) : W p l e R s m args below meth c H locs cells slots Q (F0 m pc ls (.int i :: .ref (b + k) :: rest)) := by
  obtain ⟨hx, hb, hml, hown, hts, hK, hN, hSW, hlk⟩ := F
  have hk := ky_lt (G := G) hky (by decide)
  exact va_aldq (f := fun j => some (b + (144 + 27 * j))) (C := "ContentsSetter$State") hx hb hK (wl_P hW) k 4 (by rw [wl_get hk, wF_17 hky]) rfl (inb_in h) hdg kk
theorem fl_copyI {ks kd : Nat} (hks : ky ks = 14) (hkd : ky kd = 14) (F : FX G b own cc nL p s m args meth c) (hW : WH G b μ H) (hS : va_S (fb b) H0 H locs) (hsz : ls.size = nL) {index : Nat} (hlink : Cond.methodLink own index arraycopyName ∈ TBG) (hnat : Cond.native arraycopyName ∈ TBG) (hstat : Cond.static arraycopyName ∈ TBG) (hini : Cond.initialized "java/lang/System" ∈ TBG) {sp dp n : Int32} (h : cp μ ks sp kd dp n = some μ')
    (hframes : 1 ≤ R.frames) (hlocals : (rest.map fun v => v.category).sum + (nativeFrameWords "java/lang/System" "arraycopy" 5 + 11) ≤ R.locals) (hdg : decode cc pc = .ok (.invokestatic index, 3))
    (kk : ∀ (H1 : Heap) (locs1 : List Loc), WH G b μ' H1 → va_S (fb b) H0 H1 locs1 → W p l e R s m args below meth c H1 locs1 cells slots Q (F0 m (pc + 3) ls rest)) : W p l e R s m args below meth c H locs cells slots Q (F0 m pc ls (.int n :: .int dp :: .ref (b + kd) :: .int sp :: .ref (b + ks) :: rest)) := by
  obtain ⟨hx, hb, hml, hown, hts, hK, hN, hSW, hlk⟩ := F
  obtain ⟨⟨h1, h2, h3, h4, h5⟩, rfl⟩ := cp_some h
  have hk0 := ky_lt (G := G) hks (by decide)
  have hk1 := ky_lt (G := G) hkd (by decide)
  exact va_copyi (ty := .int) hx hb (hml.trans hsz.symm) hown (hts _ hlink) (hts _ hnat) (hts _ hstat) (hts _ hini) hK (wl_P hW) wl_D hS ks kd 1 1 (by rw [wl_get hk0, wF_14 hks]) (by rw [wl_get hk1, wF_14 hkd]) rfl rfl rfl h1 h2 h3 h4 h5 (fun _ _ => rfl) hframes hlocals hdg
    (fun H1 locs1 hP1 _ hS1 => kk H1 locs1 (WH_set hk1 hW hP1 (by rw [wF_14 hkd, cpI_cpy]) wF_cpI hW.2) hS1)
theorem fl_copyJ {ks kd : Nat} (hks : ky ks = 15) (hkd : ky kd = 15) (F : FX G b own cc nL p s m args meth c) (hW : WH G b μ H) (hS : va_S (fb b) H0 H locs) (hsz : ls.size = nL) {index : Nat} (hlink : Cond.methodLink own index arraycopyName ∈ TBG) (hnat : Cond.native arraycopyName ∈ TBG) (hstat : Cond.static arraycopyName ∈ TBG) (hini : Cond.initialized "java/lang/System" ∈ TBG) {sp dp n : Int32} (h : cpL μ ks sp kd dp n = some μ')
    (hframes : 1 ≤ R.frames) (hlocals : (rest.map fun v => v.category).sum + (nativeFrameWords "java/lang/System" "arraycopy" 5 + 11) ≤ R.locals) (hdg : decode cc pc = .ok (.invokestatic index, 3))
    (kk : ∀ (H1 : Heap) (locs1 : List Loc), WH G b μ' H1 → va_S (fb b) H0 H1 locs1 → W p l e R s m args below meth c H1 locs1 cells slots Q (F0 m (pc + 3) ls rest)) : W p l e R s m args below meth c H locs cells slots Q (F0 m pc ls (.int n :: .int dp :: .ref (b + kd) :: .int sp :: .ref (b + ks) :: rest)) := by
  obtain ⟨hx, hb, hml, hown, hts, hK, hN, hSW, hlk⟩ := F
  obtain ⟨⟨h1, h2, h3, h4, h5⟩, rfl⟩ := cpL_some h
  have hk0 := ky_lt (G := G) hks (by decide)
  have hk1 := ky_lt (G := G) hkd (by decide)
  exact va_copyl (ty := .long) hx hb (hml.trans hsz.symm) hown (hts _ hlink) (hts _ hnat) (hts _ hstat) (hts _ hini) hK (wl_P hW) wl_D hS ks kd 2 2 (by rw [wl_get hk0, wF_15 hks]) (by rw [wl_get hk1, wF_15 hkd]) rfl rfl rfl h1 h2 h3 h4 h5 (fun _ _ => rfl) hframes hlocals hdg
    (fun H1 locs1 hP1 _ hS1 => kk H1 locs1 (WH_set hk1 hW hP1 (by rw [wF_15 hkd, cpJ_cpy]) wF_cpJ hW.2) hS1)
/-- behind a call -/
theorem f_after {v : Option Value} {a : Array Value} {st0 : List Value} (hr : va_Run p l e R s m args below meth c H locs cells slots 0 0 (F0 m pc ls st0) rest (QW G b μ' v a) (fb b)) (hS : va_S (fb b) H0 H locs)
    (kk : ∀ (H1 : Heap) (locs1 : List Loc), WH G b μ' H1 → va_S (fb b) H0 H1 locs1 → W p l e R s m args below meth c H1 locs1 cells slots Q (F0 m (pc + 3) ls (v.toList ++ rest))) : W p l e R s m args below meth c H locs cells slots Q (F0 m pc ls st0) := by
  intro T hT X
  obtain ⟨v', st₀, t, T', L, h0, X', hL, e1, e2, ⟨hv, hw, hz, hk⟩, st⟩ := hr T hT X
  cases hv
  rw [h0] at hz hk
  obtain ⟨t2, a1, b1⟩ := kk T'.heap (locs ++ L) (by rw [e1]; exact hw)
    ⟨Nat.le_trans hS.1 (by rw [e1]; exact hz), fun q h1 h2 => by rw [e1, hk q (Nat.lt_of_lt_of_le h1 hS.1) h2]; exact hS.2.1 q h1 h2, fun q hq => by
      rcases List.mem_append.mp hq with h | h
      · exact hS.2.2 q h
      · exact hL q h⟩ T' rfl X'
  exact ⟨t2, st t2 a1, b1⟩
/-- what the callee asks of its start -/
theorem f_pre {As : List Value} (F : FX G b own cc nL p s m args meth c) (hW : WH G b μ H) (hS : va_S (fb b) s.heap H locs) : ∀ U : State, U.heap = H → s.WarmedH U.vm → PcW G b μ As As.toArray U := by
  obtain ⟨hx, hb, hml, hown, hts, hK, hN, hSW, hlk⟩ := F
  intro U hU hWm
  refine ⟨rfl, by rw [hU]; exact hW, va_K.moved hWm.alike hK, NW.warm hWm hN, ?_⟩
  rw [hU]
  exact SW.warm hWm (SW.kept hSW hS)
theorem f_recv (F : FX G b own cc nL p s m args meth c) (hW : WH G b μ H) {k ci : Nat} {C : String} {T : u_T} {N : Nat} (hcl : vwCl[ci]? = some (C, T, N)) {fs : List Value} (hk : k < nn G) (hf : wF G b μ k = .inr (ci, fs)) : ∃ cell : Cell, H[b + k]? = some cell ∧ cell.vm.isStatics = false ∧ s.vm.findClass C = some cell.cls := by
  obtain ⟨hx, hb, hml, hown, hts, hK, hN, hSW, hlk⟩ := F
  exact va_recv hK (wl_P hW) (q := (C, T, N)) hcl (q0 := k) (by rw [wl_get hk, hf])
/-- a call of an instance method -/
theorem f_callV {v : Option Value} {y : MethodName} {bytes : ByteArray} {maxL : Nat} {ret : Option FieldType} {rm : Room} {As : List Value} {k ci index : Nat} {C : String} {T : u_T} {N : Nat} {fs st0 : List Value}
    (hM : Met l y (wU (Cond.code y bytes maxL ret)) rm (PcW G b μ (.ref (b + k) :: As)) (QW G b μ' v) 0 0 (fb b)) (hrm : rm.cells = 0 ∧ rm.slots = 0) (hcl : vwCl[ci]? = some (C, T, N)) (hk : k < nn G) (hf : wF G b μ k = .inr (ci, fs))
    (hi : Cond.instanceMethod y ∈ TBG) (hse : Cond.selects C y y ∈ TBG) (hini : Cond.initialized C ∈ TBG) (hcd : Cond.code y bytes maxL ret ∈ TBG) (hyc : y.cls = C) (hd : y.cls ≠ "java/lang/invoke/MethodHandle" ∧ y.cls ≠ "java/lang/invoke/VarHandle" ∧ (parseMethodDescriptor y.desc).map (fun d => d.parameters.length) = some As.length)
    (F : FX G b own cc nL p s m args meth c) (hl : Cond.methodLink own index y ∈ TBG) (hR : rm.frames + 1 ≤ R.frames ∧ 8 + (maxL + 11) + rm.locals ≤ R.locals ∧ cells ≤ R.cells ∧ slots ≤ R.slots) (hW : WH G b μ H) (hS : va_S (fb b) s.heap H locs) (hsz : ls.size = nL) (hrest : (rest.map fun v => v.category).sum ≤ 8)
    (hst : st0 = As.reverse ++ .ref (b + k) :: rest) (hdg : decode cc pc = .ok (.invokevirtual index, 3))
    (kk : ∀ (H1 : Heap) (locs1 : List Loc), WH G b μ' H1 → va_S (fb b) s.heap H1 locs1 → W p l e R s m args below meth c H1 locs1 cells slots Q (F0 m (pc + 3) ls (v.toList ++ rest))) : W p l e R s m args below meth c H locs cells slots Q (F0 m pc ls st0) := by
  have hrc := f_recv F hW hcl hk hf
  have hpre := f_pre (As := .ref (b + k) :: As) F hW hS
  obtain ⟨hx, hb, hml, hown, hts, hK, hN, hSW, hlk⟩ := F
  have hG : GoodIn TBG (wsV own index C y (wU (Cond.code y bytes maxL ret))) := by
    intro w hw
    unfold wsV at hw
    rcases List.mem_append.mp hw with h | h
    · simp only [List.mem_cons, List.not_mem_nil, or_false] at h
      rcases h with rfl | rfl | rfl | rfl
      · exact ⟨hl, TBG_good hl⟩
      · exact ⟨hi, TBG_good hi⟩
      · exact ⟨hse, TBG_good hse⟩
      · exact ⟨hini, TBG_good hini⟩
    · exact wT_in hcd w h
  subst hyc
  exact f_after (va_runV (As := As) (rest := rest) ⟨hx, hb, hml, hown, hts⟩ hM (cwV (bytes := bytes) (maxL := maxL) (ret := ret) As.length hts hG rfl hrm.1 hrm.2 ⟨rfl, hd⟩ ⟨hR.1, hR.2.1⟩) ⟨PcW.blind, hrc, hpre⟩ rfl rfl hsz hst (lv_room hrest) hdg ⟨hR.2.2.1, hR.2.2.2⟩) hS kk
/-- a call of a static method of the same class -/
theorem f_callS {v : Option Value} {y : MethodName} {bytes : ByteArray} {maxL : Nat} {ret : Option FieldType} {rm : Room} {As : List Value} {index : Nat} {st0 : List Value}
    (hM : Met l y (wU (Cond.code y bytes maxL ret)) rm (PcW G b μ As) (QW G b μ' v) 0 0 (fb b)) (hrm : rm.cells = 0 ∧ rm.slots = 0)
    (hi : Cond.static y ∈ TBG) (hini : Cond.initialized own ∈ TBG) (hcd : Cond.code y bytes maxL ret ∈ TBG) (hyc : y.cls = own) (hd : y.cls ≠ "java/lang/invoke/MethodHandle" ∧ y.cls ≠ "java/lang/invoke/VarHandle" ∧ (parseMethodDescriptor y.desc).map (fun d => d.parameters.length) = some As.length)
    (F : FX G b own cc nL p s m args meth c) (hl : Cond.methodLink own index y ∈ TBG) (hR : rm.frames + 1 ≤ R.frames ∧ 8 + (maxL + 11) + rm.locals ≤ R.locals ∧ cells ≤ R.cells ∧ slots ≤ R.slots) (hW : WH G b μ H) (hS : va_S (fb b) s.heap H locs) (hsz : ls.size = nL) (hrest : (rest.map fun v => v.category).sum ≤ 8)
    (hst : st0 = As.reverse ++ rest) (hdg : decode cc pc = .ok (.invokestatic index, 3))
    (kk : ∀ (H1 : Heap) (locs1 : List Loc), WH G b μ' H1 → va_S (fb b) s.heap H1 locs1 → W p l e R s m args below meth c H1 locs1 cells slots Q (F0 m (pc + 3) ls (v.toList ++ rest))) : W p l e R s m args below meth c H locs cells slots Q (F0 m pc ls st0) := by
  have hpre := f_pre (As := As) F hW hS
  obtain ⟨hx, hb, hml, hown, hts, hK, hN, hSW, hlk⟩ := F
  have hG : GoodIn TBG (wsS own index y (wU (Cond.code y bytes maxL ret))) := by
    intro w hw
    unfold wsS at hw
    rcases List.mem_append.mp hw with h | h
    · simp only [List.mem_cons, List.not_mem_nil, or_false] at h
      rcases h with rfl | rfl | rfl
      · exact ⟨hl, TBG_good hl⟩
      · exact ⟨hi, TBG_good hi⟩
      · exact ⟨hini, TBG_good hini⟩
    · exact wT_in hcd w h
  exact f_after (va_runS (As := As) (rest := rest) ⟨hx, hb, hml, hown, hts⟩ hM (cwS (bytes := bytes) (maxL := maxL) (ret := ret) As.length hts hG rfl hrm.1 hrm.2 ⟨hyc, hd⟩ ⟨hR.1, hR.2.1⟩) ⟨PcW.blind, hpre⟩ rfl rfl hsz hst (lv_room hrest) hdg ⟨hR.2.2.1, hR.2.2.2⟩) hS kk
/-- a call of a private static method of the nest's host -/
theorem f_callSN {v : Option Value} {y : MethodName} {bytes : ByteArray} {maxL : Nat} {ret : Option FieldType} {rm : Room} {As : List Value} {index : Nat} {host : String} {st0 : List Value}
    (hM : Met l y (wU (Cond.code y bytes maxL ret)) rm (PcW G b μ As) (QW G b μ' v) 0 0 (fb b)) (hrm : rm.cells = 0 ∧ rm.slots = 0)
    (hi : Cond.static y ∈ TBG) (hini : Cond.initialized y.cls ∈ TBG) (hcd : Cond.code y bytes maxL ret ∈ TBG) (hd : y.cls ≠ "java/lang/invoke/MethodHandle" ∧ y.cls ≠ "java/lang/invoke/VarHandle" ∧ (parseMethodDescriptor y.desc).map (fun d => d.parameters.length) = some As.length)
    (F : FX G b own cc nL p s m args meth c) (hl : (own, index, y, host) ∈ nestL) (hR : rm.frames + 1 ≤ R.frames ∧ 8 + (maxL + 11) + rm.locals ≤ R.locals ∧ cells ≤ R.cells ∧ slots ≤ R.slots) (hW : WH G b μ H) (hS : va_S (fb b) s.heap H locs) (hsz : ls.size = nL) (hrest : (rest.map fun v => v.category).sum ≤ 8)
    (hst : st0 = As.reverse ++ rest) (hdg : decode cc pc = .ok (.invokestatic index, 3))
    (kk : ∀ (H1 : Heap) (locs1 : List Loc), WH G b μ' H1 → va_S (fb b) s.heap H1 locs1 → W p l e R s m args below meth c H1 locs1 cells slots Q (F0 m (pc + 3) ls (v.toList ++ rest))) : W p l e R s m args below meth c H locs cells slots Q (F0 m pc ls st0) := by
  have hpre := f_pre (As := As) F hW hS
  obtain ⟨hx, hb, hml, hown, hts, hK, hN, hSW, hlk⟩ := F
  exact f_after (va_runSN (As := As) (rest := rest) ⟨hx, hb, hml, hown, hts⟩ hM ⟨va_cnB (bytes := bytes) (maxL := maxL) (ret := ret) As.length hts (wT_in hcd) rfl hrm.1 hrm.2 (hN.1 _ hl) (hts _ hini) hd ⟨hR.1, hR.2.1⟩, hts _ hi, trivial⟩ ⟨PcW.blind, hpre⟩ rfl rfl hsz hst (lv_room hrest) hdg ⟨hR.2.2.1, hR.2.2.2⟩) hS kk
theorem fl_max (F : FX G b own cc nL p s m args meth c) (hsz : ls.size = nL) {index : Nat} (hlink : Cond.methodLink own index Lib.Math.max.name ∈ TBG) (h1 : Cond.static Lib.Math.max.name ∈ TBG) (h2 : Cond.initialized "java/lang/Math" ∈ TBG) (h3 : Cond.code Lib.Math.max.name Lib.Math.max.code 2 (some .int) ∈ TBG) {x y : Int32}
    (hfr : 1 ≤ R.frames) (hlo : (rest.map fun v => v.category).sum + 13 ≤ R.locals) (hc : cells ≤ R.cells) (hs : slots ≤ R.slots) (hdg : decode cc pc = .ok (.invokestatic index, 3))
    (kk : W p l e R s m args below meth c H locs cells slots Q (F0 m (pc + 3) ls (.int (if x < y then y else x) :: rest))) : W p l e R s m args below meth c H locs cells slots Q (F0 m pc ls (.int y :: .int x :: rest)) := by
  obtain ⟨hx, hb, hml, hown, hts, hK, hN, hSW, hlk⟩ := F
  exact va_mmax hx hb (hml.trans hsz.symm) hown (hts _ hlink) (hts _ h1) (hts _ h2) (hts _ h3) hfr hlo hc hs hdg kk
theorem fl_min (F : FX G b own cc nL p s m args meth c) (hsz : ls.size = nL) {index : Nat} (hlink : Cond.methodLink own index Lib.Math.min.name ∈ TBG) (h1 : Cond.static Lib.Math.min.name ∈ TBG) (h2 : Cond.initialized "java/lang/Math" ∈ TBG) (h3 : Cond.code Lib.Math.min.name Lib.Math.min.code 2 (some .int) ∈ TBG) {x y : Int32}
    (hfr : 1 ≤ R.frames) (hlo : (rest.map fun v => v.category).sum + 13 ≤ R.locals) (hc : cells ≤ R.cells) (hs : slots ≤ R.slots) (hdg : decode cc pc = .ok (.invokestatic index, 3))
    (kk : W p l e R s m args below meth c H locs cells slots Q (F0 m (pc + 3) ls (.int (if y < x then y else x) :: rest))) : W p l e R s m args below meth c H locs cells slots Q (F0 m pc ls (.int y :: .int x :: rest)) := by
  obtain ⟨hx, hb, hml, hown, hts, hK, hN, hSW, hlk⟩ := F
  exact va_mmin hx hb (hml.trans hsz.symm) hown (hts _ hlink) (hts _ h1) (hts _ h2) (hts _ h3) hfr hlo hc hs hdg kk
end FLAT
