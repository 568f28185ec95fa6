/-! HOW OBJECTS COME: cells one behind the other from a base; new objects, their fields and rows, and calls of constructors -/
def up (E : Nat → va_E) (k : Nat) (e : va_E) : Nat → va_E := fun i => if i = k then e else E i
theorem up_s {E : Nat → va_E} {k : Nat} {e : va_E} : up E k e k = e := if_pos rfl
theorem up_n {E : Nat → va_E} {k i : Nat} {e : va_E} (h : i ≠ k) : up E k e i = E i := if_neg h
theorem at_keep {D : va_G} {cl : List vw_C} {a : Nat} {e : va_E} {H H1 : Heap} (h : va_at D cl (a, e) H) (q : H1[a]? = H[a]?) : va_at D cl (a, e) H1 := by
  cases e with
  | inl x => exact q.trans (show H[a]? = some (vp_cell x.1 x.2) from h)
  | inr x =>
    obtain ⟨r, h1, cell, h2, h3⟩ := h
    exact ⟨r, h1, cell, q.trans h2, h3⟩
def PW (G : Gt) (b k n : Nat) (E : Nat → va_E) (H : Heap) : Prop := ∀ i, k ≤ i → i < n → va_at G.1 vwCl (b + i, E i) H
def pl (b k n : Nat) (E : Nat → va_E) : va_W := (List.range (n - k)).map (fun j => (b + (k + j), E (k + j)))
theorem pl_get {b k n i : Nat} {E : Nat → va_E} (h1 : k ≤ i) (h2 : i < n) : (pl b k n E)[i - k]? = some (b + i, E i) := by
  have h : k + (i - k) = i := by omega
  have h3 : i - k < n - k := by omega
  simp [pl, h3, h]
theorem pl_len {b k n : Nat} {E : Nat → va_E} : (pl b k n E).length = n - k := by simp [pl]
theorem pl_inv {b k n j : Nat} {E : Nat → va_E} {q : Nat × va_E} (h : (pl b k n E)[j]? = some q) : j < n - k ∧ q = (b + (k + j), E (k + j)) := by
  have hk : j < n - k := by
    have := (List.getElem?_eq_some_iff.mp h).1
    rwa [pl_len] at this
  have h2 := pl_get (b := b) (k := k) (n := n) (i := k + j) (E := E) (by omega) (by omega)
  rw [show k + j - k = j by omega] at h2
  exact ⟨hk, Option.some.inj (h.symm.trans h2)⟩
theorem pl_P {G : Gt} {b k n : Nat} {E : Nat → va_E} {H : Heap} (h : PW G b k n E H) : va_P G.1 vwCl (pl b k n E) H := by
  intro j q hq
  obtain ⟨hj, rfl⟩ := pl_inv hq
  exact h (k + j) (by omega) (by omega)
theorem pl_D {b k n : Nat} {E : Nat → va_E} : va_D (fb (b + k)) (pl b k n E) := by
  refine ⟨fun i j p q hi hj e => ?_, fun j q hq => ?_⟩
  · obtain ⟨-, rfl⟩ := pl_inv hi
    obtain ⟨-, rfl⟩ := pl_inv hj
    have : b + (k + i) = b + (k + j) := e
    omega
  · obtain ⟨-, rfl⟩ := pl_inv hq
    show b + k ≤ b + (k + j)
    omega
/-- a list behind which one more cell lies -/
theorem pl_app {G : Gt} {b k n : Nat} {E : Nat → va_E} {e : va_E} {H : Heap} (hkn : k ≤ n) (h : va_P G.1 vwCl (pl b k n E ++ [(b + n, e)]) H) : PW G b k (n + 1) (up E n e) H := by
  intro i h1 h2
  rcases Nat.lt_or_ge i n with h3 | h3
  · rw [up_n (by omega)]
    exact h (i - k) (b + i, E i) (by rw [List.getElem?_append_left (by rw [pl_len]; omega)]; exact pl_get h1 h3)
  · have h4 : i = n := by omega
    subst h4
    rw [up_s]
    exact h (i - k) (b + i, e) (by rw [List.getElem?_append_right (by rw [pl_len]; omega), pl_len]; simp)
theorem pl_set {G : Gt} {b k n t : Nat} {E : Nat → va_E} {e : va_E} {H : Heap} (h1 : k ≤ t) (h2 : t < n) (h : va_P G.1 vwCl ((pl b k n E).set (t - k) (b + t, e)) H) : PW G b k n (up E t e) H := by
  intro i h3 h4
  by_cases hi : i = t
  · subst hi
    rw [up_s]
    exact h (i - k) (b + i, e) (List.getElem?_set_self (by rw [pl_len]; omega))
  · rw [up_n hi]
    exact h (i - k) (b + i, E i) (by rw [List.getElem?_set_ne (by omega)]; exact pl_get h3 h4)
/-- the new cell's place, out of the sizes -/
theorem pl_q {G : Gt} {b k n q : Nat} {E : Nat → va_E} {e : va_E} {H : Heap} (hkn : k ≤ n) (hP : va_P G.1 vwCl (pl b k n E ++ [(q, e)]) H) (hD : va_D (fb (b + k)) (pl b k n E ++ [(q, e)])) (hz : H.size ≤ b + n + 1) : q = b + n := by
  have hg : (pl b k n E ++ [(q, e)])[n - k]? = some (q, e) := by
    rw [List.getElem?_append_right (by rw [pl_len]; omega), pl_len]
    simp
  have h1 : b + k ≤ q := hD.2 _ _ hg
  have h2 : q < H.size := vx_lt hP hg
  rcases Nat.lt_or_ge q (b + n) with h3 | h3
  · exfalso
    have hg2 : (pl b k n E ++ [(q, e)])[q - b - k]? = some (b + (q - b), E (q - b)) := by
      rw [List.getElem?_append_left (by rw [pl_len]; omega)]
      exact pl_get (by omega) (by omega)
    have := hD.1 _ _ _ _ hg hg2 (show q = b + (q - b) by omega)
    omega
  · omega
section ALLOC
variable {p : Program} {l : Launch} {e : Env} {R : Room} {s : State} {m : MethodId} {args : Array Value} {below : List Frame} {meth : Method} {c : Code} {H : Heap} {locs : List Loc} {cells slots : Nat} {Q : State → Prop}
variable {cc : ByteArray} {pc : Nat} {ls : Array Slot} {rest : List Value} {G : Gt} {b k n : Nat} {E : Nat → va_E} {own : String} {nL : Nat}
/-- no more cells than the room that was used -/
theorem n_sz {g : JFrame} (kk : H.size ≤ s.heap.size + cells → W p l e R s m args below meth c H locs cells slots Q g) : W p l e R s m args below meth c H locs cells slots Q g := fun T hT X => kk (by have h := X.same.2.2.1; rw [← hT]; exact h) T hT X
theorem n_new (ci : Nat) {C : String} {T : u_T} {N : Nat} (hcl : vwCl[ci]? = some (C, T, N)) (hin : ∀ w ∈ u_ws C T N, w ∈ TBG) (ty : Nat → FieldType) (hty : ∀ k, k < N → parseFieldDescriptor (T k).2.2.1 = some (ty k)) (F : FX G b own cc nL p s m args meth c) {index : Nat} (hl : Cond.classLink own index C ∈ TBG) (hi : Cond.instantiable C N ∈ TBG) (hini : Cond.initialized C ∈ TBG)
    (hW : PW G b k n E H) (hkn : k ≤ n ∧ b + k ≤ s.heap.size ∧ s.heap.size + cells = b + n) (hS : va_S (fb (b + k)) s.heap H locs) {fs : List Value} (hfs : ∀ j, j < N → defaultValue (ty j) = vp_V fs j) (hR : cells + 1 ≤ R.cells ∧ slots + N ≤ R.slots) (hdg : decode cc pc = .ok (.new index, 3))
    (kk : ∀ H1 : Heap, PW G b k (n + 1) (up E n (.inr (ci, fs))) H1 → va_S (fb (b + k)) s.heap H1 locs → W p l e R s m args below meth c H1 locs (cells + 1) (slots + N) Q (F0 m (pc + 3) ls (.ref (b + n) :: rest))) : W p l e R s m args below meth c H locs cells slots Q (F0 m pc ls rest) := by
  obtain ⟨hx, hb, hml, hown, hts, hK, hN, hSW, hlk⟩ := F
  refine va_new (ci := ci) (fs := fs) hx hb hts hin ty hty hown (hts _ hl) (hts _ hi) (hts _ hini) hK (pl_P hW) pl_D hS (fun q h => Nat.le_trans hkn.2.1 h) hcl hfs hR.1 hR.2 hdg (fun q H1 hP hD hS1 => n_sz fun hz => ?_)
  obtain rfl := pl_q hkn.1 hP hD (by omega)
  exact kk H1 (pl_app hkn.1 hP) hS1
/-- a field of an object in the making -/
theorem n_put (ci : Nat) {C : String} {T : u_T} {N : Nat} (hcl : vwCl[ci]? = some (C, T, N)) (hin : ∀ w ∈ u_ws C T N, w ∈ TBG) (ty0 : Nat → FieldType) (hty : ∀ k, k < N → parseFieldDescriptor (T k).2.2.1 = some (ty0 k)) (hnm : ∀ a, a < N → ∀ b, b < N → a ≠ b → (T a).2.1 ≠ (T b).2.1) (F : FX G b own cc nL p s m args meth c) {t : Nat} {fs : List Value}
    (hW : PW G b k n E H) (hkt : k ≤ t ∧ t < n) (hf : E t = .inr (ci, fs)) (hS : va_S (fb (b + k)) s.heap H locs) (j : Nat) (hj : j < N) {index : Nat} (hlink : Cond.fieldLink own index C (T j).2.1 (T j).2.2.1 ∈ TBG) (hsame : (T j).1 = C) (hown2 : (T j).2.2.2 = true → meth.name = "<init>" ∧ (T j).1 = own) {ty : FieldType} {v : Value} (hd : parseFieldDescriptor (T j).2.2.1 = some ty) (hn : narrow ty v = v) (hfit : fits ty v = true) (hl : j < fs.length) (hdg : decode cc pc = .ok (.putfield index, 3))
    (kk : ∀ (H1 : Heap) (locs1 : List Loc), PW G b k n (up E t (.inr (ci, fs.set j v))) H1 → va_S (fb (b + k)) s.heap H1 locs1 → W p l e R s m args below meth c H1 locs1 cells slots Q (F0 m (pc + 3) ls rest)) : W p l e R s m args below meth c H locs cells slots Q (F0 m pc ls (v :: .ref (b + t) :: rest)) := by
  obtain ⟨hx, hb, hml, hown, hts, hK, hN, hSW, hlk⟩ := F
  have hg : (pl b k n E)[t - k]? = some (b + t, .inr (ci, fs)) := by rw [pl_get hkt.1 hkt.2, hf]
  cases hfin : (T j).2.2.2 with
  | true => exact va_putF hx hb hts hin ty0 hty hnm hown hK (pl_P hW) pl_D hS (t - k) hg hcl j hj (hts _ hlink) (fun x h => by rw [hsame] at h; exact h) hfin (hown2 hfin).1 (hown2 hfin).2 hd hn hfit hl hdg (fun H1 locs1 hP _ hS1 => kk H1 locs1 (pl_set hkt.1 hkt.2 hP) hS1)
  | false => exact va_put hx hb hts hin ty0 hty hnm hown hK (pl_P hW) pl_D hS (t - k) hg hcl j hj (hts _ hlink) (fun x h => by rw [hsame] at h; exact h) hfin hd hn hfit hl hdg (fun H1 locs1 hP _ hS1 => kk H1 locs1 (pl_set hkt.1 hkt.2 hP) hS1)
/-- what the class of an array is, by its name -/
theorem ra_int {U : State} {x y : ClassId} (h1 : va_RA U x .int) (h2 : va_RA U y .int) : x = y := Option.some.inj ((show U.vm.findClass _ = some x from h1).symm.trans h2)
theorem ra_byte {U : State} {x y : ClassId} (h1 : va_RA U x .byte) (h2 : va_RA U y .byte) : x = y := Option.some.inj ((show U.vm.findClass _ = some x from h1).symm.trans h2)
theorem ra_long {U : State} {x y : ClassId} (h1 : va_RA U x .long) (h2 : va_RA U y .long) : x = y := Option.some.inj ((show U.vm.findClass _ = some x from h1).symm.trans h2)
theorem ra_bool {U : State} {x y : ClassId} (h1 : va_RA U x .boolean) (h2 : va_RA U y .boolean) : x = y := Option.some.inj ((show U.vm.findClass _ = some x from h1).symm.trans h2)
theorem ra_obj {U : State} {C : String} {x y : ClassId} (h1 : va_RA U x (.object C)) (h2 : va_RA U y (.object C)) : x = y := by
  obtain ⟨_, _, -, -, -, e1⟩ := h1
  obtain ⟨_, _, -, -, -, e2⟩ := h2
  exact Option.some.inj (e1.symm.trans e2)
theorem n_newa (t : Nat) {atype : ArrayType} {ty : FieldType} {cA : ClassId} (hat : newarray.typeOf atype = ty) (htt : (tysW G)[t]? = some (cA, ty)) (hra : ∀ x y : ClassId, va_RA s x ty → va_RA s y ty → x = y) (ha : Cond.arrayClass (newarray.typeOf atype) ∈ TBG) (F : FX G b own cc nL p s m args meth c)
    (hW : PW G b k n E H) (hkn : k ≤ n ∧ b + k ≤ s.heap.size ∧ s.heap.size + cells = b + n) (hS : va_S (fb (b + k)) s.heap H locs) {z : Int32} {N : Nat} {a0 : vp_A} (hz0 : ∀ cA : ClassId, vp_cell cA a0 = arrV cA N fun _ => defaultValue ty) (hz1 : ¬ z < 0) (hz2 : z.toNatClampNeg = N) (hz3 : N * componentBytes ty ≤ 536870912) (hR : cells + 1 ≤ R.cells ∧ slots + N ≤ R.slots) (hdg : decode cc pc = .ok (.newarray atype, 2))
    (kk : ∀ H1 : Heap, PW G b k (n + 1) (up E n (.inl (cA, a0))) H1 → va_S (fb (b + k)) s.heap H1 locs → W p l e R s m args below meth c H1 locs (cells + 1) (slots + N) Q (F0 m (pc + 2) ls (.ref (b + n) :: rest))) : W p l e R s m args below meth c H locs cells slots Q (F0 m pc ls (.int z :: rest)) := by
  obtain ⟨hx, hb, hml, hown, hts, hK, hN, hSW, hlk⟩ := F
  refine va_newa hx hb (hts _ ha) hat hK (pl_P hW) pl_D hS (fun q h => Nat.le_trans hkn.2.1 h) hz0 hz1 hz2 hz3 hR.1 hR.2 hdg (fun q cB H1 hK1 hP hD hS1 => n_sz fun hz => ?_)
  obtain rfl := pl_q hkn.1 hP hD (by omega)
  have h5 : (tysW G ++ [(cB, ty)])[5]? = some (cB, ty) := rfl
  obtain rfl := hra cA cB (hK.2 _ _ htt).2 (hK1.2 _ _ h5).2
  exact kk H1 (pl_app hkn.1 hP) hS1
theorem n_newq {C : String} {cA : ClassId} (htt : (tysW G)[4]? = some (cA, .object C)) (F : FX G b own cc nL p s m args meth c) {index : Nat} (hl : Cond.classLink own index C ∈ TBG) (ha : va_AO C s)
    (hW : PW G b k n E H) (hkn : k ≤ n ∧ b + k ≤ s.heap.size ∧ s.heap.size + cells = b + n) (hS : va_S (fb (b + k)) s.heap H locs) {z : Int32} {N : Nat} (hz1 : ¬ z < 0) (hz2 : z.toNatClampNeg = N) (hz3 : N * 4 ≤ 536870912) (hR : cells + 1 ≤ R.cells ∧ slots + N ≤ R.slots) (hdg : decode cc pc = .ok (.anewarray index, 3))
    (kk : ∀ H1 : Heap, PW G b k (n + 1) (up E n (.inl (cA, N, .inr (.inr (.inr (.inr (fun _ => none))))))) H1 → va_S (fb (b + k)) s.heap H1 locs → W p l e R s m args below meth c H1 locs (cells + 1) (slots + N) Q (F0 m (pc + 3) ls (.ref (b + n) :: rest))) : W p l e R s m args below meth c H locs cells slots Q (F0 m pc ls (.int z :: rest)) := by
  obtain ⟨hx, hb, hml, hown, hts, hK, hN, hSW, hlk⟩ := F
  refine va_newq hx hb hown (hts _ hl) ha hK (pl_P hW) pl_D hS (fun q h => Nat.le_trans hkn.2.1 h) hz1 hz2 hz3 hR.1 hR.2 hdg (fun q cB H1 hK1 hP hD hS1 => n_sz fun hz => ?_)
  obtain rfl := pl_q hkn.1 hP hD (by omega)
  have h5 : (tysW G ++ [(cB, .object C)])[5]? = some (cB, .object C) := rfl
  obtain rfl := ra_obj (hK.2 _ _ htt).2 (hK1.2 _ _ h5).2
  exact kk H1 (pl_app hkn.1 hP) hS1
theorem n_iast (F : FX G b own cc nL p s m args meth c) {t : Nat} {N : Nat} {f : Nat → Int32} (hW : PW G b k n E H) (hkt : k ≤ t ∧ t < n) (hf : E t = .inl (G.2.1 1, N, .inl f)) (hS : va_S (fb (b + k)) s.heap H locs) {i x : Int32} (hi : vp_in i N) (hdg : decode cc pc = .ok (.iastore, 1))
    (kk : ∀ (H1 : Heap) (locs1 : List Loc), PW G b k n (up E t (.inl (G.2.1 1, N, .inl (upd f i.toNatClampNeg x)))) H1 → va_S (fb (b + k)) s.heap H1 locs1 → W p l e R s m args below meth c H1 locs1 cells slots Q (F0 m (pc + 1) ls rest)) : W p l e R s m args below meth c H locs cells slots Q (F0 m pc ls (.int x :: .int i :: .ref (b + t) :: rest)) := by
  obtain ⟨hx, hb, hml, hown, hts, hK, hN, hSW, hlk⟩ := F
  exact va_iast hx hb hK (pl_P hW) pl_D hS (t - k) 1 (by rw [pl_get hkt.1 hkt.2, hf]) rfl hi hdg (fun H1 locs1 hP _ hS1 => kk H1 locs1 (pl_set hkt.1 hkt.2 hP) hS1)
theorem n_aast (F : FX G b own cc nL p s m args meth c) {t v ci : Nat} {N : Nat} {r : vw_C} {vs : List Value} {f : Nat → Option Nat} (hW : PW G b k n E H) (hkt : k ≤ t ∧ t < n) (hf : E t = .inl (G.2.1 4, N, .inr (.inr (.inr (.inr f))))) (hkv : k ≤ v ∧ v < n) (hv : E v = .inr (ci, vs)) (hcl : vwCl[ci]? = some r) (hr : (tysW G)[4]? = some (G.2.1 4, .object r.1)) (hS : va_S (fb (b + k)) s.heap H locs) {i : Int32} (hi : vp_in i N) (hdg : decode cc pc = .ok (.aastore, 1))
    (kk : ∀ (H1 : Heap) (locs1 : List Loc), PW G b k n (up E t (.inl (G.2.1 4, N, .inr (.inr (.inr (.inr (va_up f i.toNatClampNeg (some (b + v))))))))) H1 → va_S (fb (b + k)) s.heap H1 locs1 → W p l e R s m args below meth c H1 locs1 cells slots Q (F0 m (pc + 1) ls rest)) : W p l e R s m args below meth c H locs cells slots Q (F0 m pc ls (.ref (b + v) :: .int i :: .ref (b + t) :: rest)) := by
  obtain ⟨hx, hb, hml, hown, hts, hK, hN, hSW, hlk⟩ := F
  exact va_astq hx hb hK (pl_P hW) pl_D hS (t - k) 4 (v - k) ci (by rw [pl_get hkt.1 hkt.2, hf]) hr (by rw [pl_get hkv.1 hkv.2, hv]) hcl hi hdg (fun H1 locs1 hP _ hS1 => kk H1 locs1 (pl_set hkt.1 hkt.2 hP) hS1)
/-- a field, read -/
theorem n_get (ci : Nat) {C : String} {T : u_T} {N : Nat} (hcl : vwCl[ci]? = some (C, T, N)) (hin : ∀ w ∈ u_ws C T N, w ∈ TBG) (F : FX G b own cc nL p s m args meth c) {t : Nat} {fs : List Value} (hW : PW G b k n E H) (hkt : k ≤ t ∧ t < n) (hf : E t = .inr (ci, fs)) (j : Nat) (hj : j < N) {index : Nat} (hlink : Cond.fieldLink own index C (T j).2.1 (T j).2.2.1 ∈ TBG) (hsame : (T j).1 = C) {v : Value} (hv : fs[j]? = some v) (hdg : decode cc pc = .ok (.getfield index, 3))
    (kk : W p l e R s m args below meth c H locs cells slots Q (F0 m (pc + 3) ls (v :: rest))) : W p l e R s m args below meth c H locs cells slots Q (F0 m pc ls (.ref (b + t) :: rest)) := by
  obtain ⟨hx, hb, hml, hown, hts, hK, hN, hSW, hlk⟩ := F
  exact va_get hx hb hts hin hown hK (pl_P hW) (t - k) (by rw [pl_get hkt.1 hkt.2, hf]) hcl j hj (hts _ hlink) (fun x h => by rw [hsame] at h; exact h) hv hdg kk
theorem n_obj (F : FX G b own cc nL p s m args meth c) (hsz : ls.size = nL) {index : Nat} (h1 : Cond.methodLink own index Lib.objectInit ∈ TBG) (h2 : Cond.instanceMethod Lib.objectInit ∈ TBG) (h3 : Cond.code Lib.objectInit ⟨#[177]⟩ 1 none ∈ TBG) {a : Addr} (hfr : 1 ≤ R.frames) (hlo : (rest.map fun v => v.category).sum + 12 ≤ R.locals) (hdg : decode cc pc = .ok (.invokespecial index, 3))
    (kk : W p l e R s m args below meth c H locs cells slots Q (F0 m (pc + 3) ls rest)) : W p l e R s m args below meth c H locs cells slots Q (F0 m pc ls (.ref a :: rest)) := by
  obtain ⟨hx, hb, hml, hown, hts, hK, hN, hSW, hlk⟩ := F
  exact W.objInit hx hb hown (hts _ h1) (hts _ h2) (hts _ h3) rfl (hsz.trans hml.symm) rfl hdg hfr (by show 2 * 0 + _ + 12 ≤ _; omega) kk
end ALLOC
/-! contracts of constructors and of what they call: cells [t, n) at the heap's end as they are; then cells [t, t + w) as they will be -/
def PcG (G : Gt) (b t n : Nat) (E : Nat → va_E) (av : List Value) : Array Value → State → Prop := va_Pc av (fun U => (PW G b t n E U.heap ∧ U.heap.size = b + n) ∧ WK G U ∧ NW U ∧ SW G b U U.heap)
def QNi (G : Gt) (b t w : Nat) (E : Nat → va_E) : Array Value → State → Outcome → State → Prop := fun _ st oc t' => oc = .returned none ∧ PW G b t (t + w) E t'.heap ∧ va_F (fb (b + t)) st t'
theorem PcG.blind {G : Gt} {b t n : Nat} {E : Nat → va_E} {av : List Value} : FrameBlind (PcG G b t n E av) := fun a U g mk h => ⟨h.1, h.2.1, va_K.moved (u := U) (U := U.calling g mk a) (Vm.Alike.refl U.vm) h.2.2.1, NW.same (u := U) (U := U.calling g mk a) rfl h.2.2.2.1, SW.calling h.2.2.2.2⟩
theorem va_S.wide {b k : Nat} {H0 H : Heap} {locs : List Loc} (h : va_S (fb (b + k)) H0 H locs) : va_S (fb b) H0 H locs := ⟨h.1, fun q h1 h2 => h.2.1 q h1 (fun h3 => h2 (Nat.le_trans (Nat.le_add_right b k) h3)), fun q hq => Nat.le_trans (Nat.le_add_right b k) (h.2.2 q hq)⟩
/-- cells [t, t + w) as they are at the start of the run -/
def ov (G : Gt) (b : Nat) (E : Nat → va_E) (t w : Nat) : Nat → va_E := fun i => if t ≤ i ∧ i < t + w then wF G b mS i else E i
section ALLOC2
variable {p : Program} {l : Launch} {e : Env} {R : Room} {s : State} {m : MethodId} {args : Array Value} {below : List Frame} {meth : Method} {c : Code} {H : Heap} {locs : List Loc} {cells slots : Nat} {Q : State → Prop}
variable {cc : ByteArray} {pc : Nat} {ls : Array Slot} {rest : List Value} {G : Gt} {b k t w n : Nat} {E E1 : Nat → va_E} {own : String} {nL : Nat}
theorem n_pre {As : List Value} (F : FX G b own cc nL p s m args meth c) (hW : PW G b k n E H) (hkt : k ≤ t) (hS : va_S (fb (b + k)) s.heap H locs) (hz : H.size = b + n) : ∀ U : State, U.heap = H → s.WarmedH U.vm → PcG G b t n E As As.toArray U := by
  obtain ⟨hx, hb, hml, hown, hts, hK, hN, hSW, hlk⟩ := F
  intro U hU hWm
  refine ⟨rfl, ⟨fun i h1 h2 => by rw [hU]; exact hW i (Nat.le_trans hkt h1) h2, by rw [hU]; exact hz⟩, va_K.moved hWm.alike hK, NW.warm hWm hN, ?_⟩
  rw [hU]
  exact SW.warm hWm (SW.kept hSW hS.wide)
theorem n_after {mc ms : Nat} {a : Array Value} {st0 : List Value} (hr : va_Run p l e R s m args below meth c H locs cells slots mc ms (F0 m pc ls st0) rest (QNi G b t w E1 a) (fb (b + t))) (hW : PW G b k n E H) (hkt : k ≤ t ∧ t ≤ n) (hz : H.size = b + n) (hE : ∀ i, i < t → E1 i = E i) (hS : va_S (fb (b + k)) s.heap H locs)
    (kk : ∀ (H1 : Heap) (locs1 : List Loc), PW G b k (t + w) E1 H1 → va_S (fb (b + k)) s.heap H1 locs1 → W p l e R s m args below meth c H1 locs1 (cells + mc) (slots + ms) Q (F0 m (pc + 3) ls rest)) : W p l e R s m args below meth c H locs cells slots Q (F0 m pc ls st0) := by
  intro T hT X
  obtain ⟨v', st₀, t', T', L, h0, X', hL, e1, e2, ⟨hv, hw, hz1, hk⟩, st⟩ := hr T hT X
  cases hv
  rw [h0] at hz1 hk
  obtain ⟨t2, a1, b1⟩ := kk T'.heap (locs ++ L) (fun i h1 h2 => by
      rcases Nat.lt_or_ge i t with h3 | h3
      · rw [hE i h3, e1]
        exact at_keep (hW i h1 (by omega)) (hk (b + i) (by omega) (fun q => by have : b + t ≤ b + i := q; omega))
      · rw [e1]
        exact hw i h3 h2)
    ⟨Nat.le_trans hS.1 (by rw [e1]; exact hz1), fun q h1 h2 => by rw [e1, hk q (Nat.lt_of_lt_of_le h1 hS.1) (fun h3 => h2 (Nat.le_trans (Nat.add_le_add_left hkt.1 b) h3))]; exact hS.2.1 q h1 h2, fun q hq => by
      rcases List.mem_append.mp hq with h | h
      · exact hS.2.2 q h
      · exact Nat.le_trans (Nat.add_le_add_left hkt.1 b) (hL q h)⟩ T' rfl X'
  exact ⟨t2, st t2 a1, b1⟩
/-- the heap's size, out of the room and of the last cell -/
theorem n_eq (hW : PW G b k n E H) (hkn : k < n ∧ s.heap.size + cells = b + n) {g : JFrame} (kk : H.size = b + n → W p l e R s m args below meth c H locs cells slots Q g) : W p l e R s m args below meth c H locs cells slots Q g :=
  n_sz fun h => kk (by
    have := vx_lt (pl_P hW) (pl_get (b := b) (k := k) (n := n) (i := n - 1) (E := E) (by omega) (by omega))
    have h2 : b + (n - 1) < H.size := this
    omega)
/-- a call of a constructor -/
theorem n_call {y : MethodName} {bytes : ByteArray} {maxL mc ms : Nat} {rm : Room} {As : List Value} {index : Nat} {st0 : List Value} (hM : Met l y (wU (Cond.code y bytes maxL none)) rm (PcG G b t n E (.ref (b + t) :: As)) (QNi G b t w E1) mc ms (fb (b + t))) (hrm : rm.cells = mc ∧ rm.slots = ms)
    (hi : Cond.instanceMethod y ∈ TBG) (hini : Cond.initialized y.cls ∈ TBG) (hcd : Cond.code y bytes maxL none ∈ TBG) (hyn : y.name = "<init>") (hd : y.cls ≠ "java/lang/invoke/MethodHandle" ∧ y.cls ≠ "java/lang/invoke/VarHandle" ∧ (parseMethodDescriptor y.desc).map (fun d => d.parameters.length) = some As.length)
    (F : FX G b own cc nL p s m args meth c) (hl : Cond.methodLink own index y ∈ TBG) (hR : rm.frames + 1 ≤ R.frames ∧ 8 + (maxL + 11) + rm.locals ≤ R.locals ∧ cells + mc ≤ R.cells ∧ slots + ms ≤ R.slots) (hW : PW G b k n E H) (hkt : k ≤ t ∧ t < n ∧ s.heap.size + cells = b + n) (hE : ∀ i, i < t → E1 i = E i) (hS : va_S (fb (b + k)) s.heap H locs) (hsz : ls.size = nL) (hrest : (rest.map fun v => v.category).sum ≤ 8)
    (hst : st0 = As.reverse ++ .ref (b + t) :: rest) (hdg : decode cc pc = .ok (.invokespecial index, 3))
    (kk : ∀ (H1 : Heap) (locs1 : List Loc), PW G b k (t + w) E1 H1 → va_S (fb (b + k)) s.heap H1 locs1 → W p l e R s m args below meth c H1 locs1 (cells + mc) (slots + ms) Q (F0 m (pc + 3) ls rest)) : W p l e R s m args below meth c H locs cells slots Q (F0 m pc ls st0) := by
  refine n_eq hW ⟨by omega, hkt.2.2⟩ (fun hz => ?_)
  have hpre := n_pre (As := .ref (b + t) :: As) F hW hkt.1 hS hz
  obtain ⟨hx, hb, hml, hown, hts, hK, hN, hSW, hlk⟩ := F
  exact n_after (va_runI (As := As) (rest := rest) ⟨hx, hb, hml, hown, hts⟩ hM (cwI (bytes := bytes) (maxL := maxL) As.length hts (wT_in hcd) rfl hrm.1 hrm.2 (hts _ hini) (hts _ hl) (hts _ hi) hyn hd ⟨hR.1, hR.2.1⟩) ⟨PcG.blind, hpre⟩ rfl rfl hsz hst (lv_room hrest) hdg hR.2.2) hW ⟨hkt.1, by omega⟩ hz hE hS kk
/-- a call of a nest mate's private constructor -/
theorem n_callN {y : MethodName} {bytes : ByteArray} {maxL mc ms : Nat} {rm : Room} {As : List Value} {index : Nat} {host : String} {st0 : List Value} (hM : Met l y (wU (Cond.code y bytes maxL none)) rm (PcG G b t n E (.ref (b + t) :: As)) (QNi G b t w E1) mc ms (fb (b + t))) (hrm : rm.cells = mc ∧ rm.slots = ms)
    (hi : Cond.instanceMethod y ∈ TBG) (hini : Cond.initialized y.cls ∈ TBG) (hcd : Cond.code y bytes maxL none ∈ TBG) (hyn : y.name = "<init>") (hd : y.cls ≠ "java/lang/invoke/MethodHandle" ∧ y.cls ≠ "java/lang/invoke/VarHandle" ∧ (parseMethodDescriptor y.desc).map (fun d => d.parameters.length) = some As.length)
    (F : FX G b own cc nL p s m args meth c) (hl : (own, index, y, host) ∈ nestL) (hR : rm.frames + 1 ≤ R.frames ∧ 8 + (maxL + 11) + rm.locals ≤ R.locals ∧ cells + mc ≤ R.cells ∧ slots + ms ≤ R.slots) (hW : PW G b k n E H) (hkt : k ≤ t ∧ t < n ∧ s.heap.size + cells = b + n) (hE : ∀ i, i < t → E1 i = E i) (hS : va_S (fb (b + k)) s.heap H locs) (hsz : ls.size = nL) (hrest : (rest.map fun v => v.category).sum ≤ 8)
    (hst : st0 = As.reverse ++ .ref (b + t) :: rest) (hdg : decode cc pc = .ok (.invokespecial index, 3))
    (kk : ∀ (H1 : Heap) (locs1 : List Loc), PW G b k (t + w) E1 H1 → va_S (fb (b + k)) s.heap H1 locs1 → W p l e R s m args below meth c H1 locs1 (cells + mc) (slots + ms) Q (F0 m (pc + 3) ls rest)) : W p l e R s m args below meth c H locs cells slots Q (F0 m pc ls st0) := by
  refine n_eq hW ⟨by omega, hkt.2.2⟩ (fun hz => ?_)
  have hpre := n_pre (As := .ref (b + t) :: As) F hW hkt.1 hS hz
  obtain ⟨hx, hb, hml, hown, hts, hK, hN, hSW, hlk⟩ := F
  exact n_after (va_runIN (As := As) (rest := rest) ⟨hx, hb, hml, hown, hts⟩ hM ⟨va_cnB (bytes := bytes) (maxL := maxL) (ret := none) As.length hts (wT_in hcd) rfl hrm.1 hrm.2 (hN.1 _ hl) (hts _ hini) hd ⟨hR.1, hR.2.1⟩, hyn, hts _ hi⟩ ⟨PcG.blind, hpre⟩ rfl rfl hsz hst (lv_room hrest) hdg hR.2.2) hW ⟨hkt.1, by omega⟩ hz hE hS kk
/-- a call of an instance method among cells in the making -/
theorem n_callV {y : MethodName} {bytes : ByteArray} {maxL : Nat} {rm : Room} {As : List Value} {ci index : Nat} {C : String} {T : u_T} {N : Nat} {fs st0 : List Value} (hM : Met l y (wU (Cond.code y bytes maxL none)) rm (PcG G b t n E (.ref (b + t) :: As)) (QNi G b t w E1) 0 0 (fb (b + t))) (hrm : rm.cells = 0 ∧ rm.slots = 0) (hcl : vwCl[ci]? = some (C, T, N)) (hf : E t = .inr (ci, fs))
    (hi : Cond.instanceMethod y ∈ TBG) (hse : Cond.selects C y y ∈ TBG) (hini : Cond.initialized C ∈ TBG) (hcd : Cond.code y bytes maxL none ∈ TBG) (hyc : y.cls = C) (hd : y.cls ≠ "java/lang/invoke/MethodHandle" ∧ y.cls ≠ "java/lang/invoke/VarHandle" ∧ (parseMethodDescriptor y.desc).map (fun d => d.parameters.length) = some As.length)
    (F : FX G b own cc nL p s m args meth c) (hl : Cond.methodLink own index y ∈ TBG) (hR : rm.frames + 1 ≤ R.frames ∧ 8 + (maxL + 11) + rm.locals ≤ R.locals ∧ cells ≤ R.cells ∧ slots ≤ R.slots) (hW : PW G b k n E H) (hkt : k ≤ t ∧ t < n) (hzz : H.size = b + n) (hE : ∀ i, i < t → E1 i = E i) (hS : va_S (fb (b + k)) s.heap H locs) (hsz : ls.size = nL) (hrest : (rest.map fun v => v.category).sum ≤ 8)
    (hst : st0 = As.reverse ++ .ref (b + t) :: rest) (hdg : decode cc pc = .ok (.invokevirtual index, 3))
    (kk : ∀ (H1 : Heap) (locs1 : List Loc), PW G b k (t + w) E1 H1 → va_S (fb (b + k)) s.heap H1 locs1 → W p l e R s m args below meth c H1 locs1 cells slots Q (F0 m (pc + 3) ls rest)) : W p l e R s m args below meth c H locs cells slots Q (F0 m pc ls st0) := by
  have hpre := n_pre (As := .ref (b + t) :: As) F hW hkt.1 hS hzz
  obtain ⟨hx, hb, hml, hown, hts, hK, hN, hSW, hlk⟩ := F
  have hrc := va_recv hK (pl_P hW) (q := (C, T, N)) hcl (q0 := t - k) (by rw [pl_get hkt.1 hkt.2, hf])
  have hG : GoodIn TBG (wsV own index C y (wU (Cond.code y bytes maxL none))) := by
    intro w hw
    unfold wsV at hw
    rcases List.mem_append.mp hw with h | h
    · simp only [List.mem_cons, List.not_mem_nil, or_false] at h
      rcases h with rfl | rfl | rfl | rfl
      · exact ⟨hl, TBG_good hl⟩
      · exact ⟨hi, TBG_good hi⟩
      · exact ⟨hse, TBG_good hse⟩
      · exact ⟨hini, TBG_good hini⟩
    · exact wT_in hcd w h
  subst hyc
  exact n_after (va_runV (As := As) (rest := rest) ⟨hx, hb, hml, hown, hts⟩ hM (cwV (bytes := bytes) (maxL := maxL) (ret := none) As.length hts hG rfl hrm.1 hrm.2 ⟨rfl, hd⟩ ⟨hR.1, hR.2.1⟩) ⟨PcG.blind, hrc, hpre⟩ rfl rfl hsz hst (lv_room hrest) hdg ⟨hR.2.2.1, hR.2.2.2⟩) hW ⟨hkt.1, by omega⟩ hzz hE hS kk
theorem n_void (F : FX G b own cc nL p s m args meth c) (hr : meth.sig.returnType = none) (hW : PW G b t n E H) (hn : t + w ≤ n) (hE : ∀ i, t ≤ i → i < t + w → E1 i = E i) (hS : va_S (fb (b + t)) s.heap H locs) (hdg : decode cc pc = .ok (.return_, 1)) : W p l e R s m args below meth c H locs cells slots (MQ below (QNi G b t w E1) args s cells slots (fb (b + t))) (F0 m pc ls []) :=
  W.vret F.1 F.2.1 hr (fun t' ht _ => ⟨rfl, fun i h1 h2 => by rw [ht, hE i h1 h2]; exact hW i h1 (by omega), hS.F ht⟩) hS.2.2 hdg F.2.2.2.2.2.2.2.2
end ALLOC2
/-- a contract out of the walk of a body -/
theorem gmet_of {l : Launch} {y : MethodName} {cc : ByteArray} {maxL : Nat} {ret : Option FieldType} {rm : Room} {G : Gt} {b t n : Nat} {E : Nat → va_E} {Qc : Array Value → State → Outcome → State → Prop} {mc ms : Nat} {free : Addr → Prop} (vals : List Value) (hy : plainName y.cls = true) (hn : (lg_sl vals).length ≤ maxL)
    (body : ∀ {p : Program} {e : Env} {s : State} {m : MethodId} {args : Array Value} {below : List Frame} {meth : Method} {c : Code} {ls : Array Slot}, FX G b y.cls cc maxL p s m args meth c → meth.sig.returnType = ret → meth.name = y.name → PW G b t n E s.heap → s.heap.size = b + n → lv_has ls maxL (lv_args 0 vals) → W p l e rm s m args below meth c s.heap [] 0 0 (MQ below Qc args s mc ms free) (F0 m 0 ls [])) :
    Met l y (wU (Cond.code y cc maxL ret)) rm (PcG G b t n E vals) Qc mc ms free := by
  refine Met.ofW (cc := cc) (maxL := maxL) (ret := ret) hy rfl ?_
  intro p e s m args below meth c s₁ B hml hv
  obtain ⟨rfl, ⟨hW, hz⟩, hK, hN, hSW⟩ := hv
  have hts := atoms_spec (ws := wU (Cond.code y cc maxL ret)) B.pre
  have F : FX G b y.cls cc maxL p s m vals.toArray meth c := ⟨B.exec, B.bytes, hml, findClass_of_methodNamed B.named, fun w hw => hts w (List.mem_cons_of_mem _ hw), hK, hN, hSW, B.notSynchronized⟩
  have hl := lv_entry vals (n := maxL) hn
  rw [lg_entry_eq]
  generalize (lg_sl vals ++ List.replicate (maxL - (lg_sl vals).length) Slot.unset).toArray = ls at hl ⊢
  exact body F B.returns (name_of_methodNamed B.named B.method).1 hW hz hl
