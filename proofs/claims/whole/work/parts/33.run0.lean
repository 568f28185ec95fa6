/-! THE LAW'S RUN: what the loop needs -/
section RUN0
variable {p : Program} {l : Launch} {e : Env} {R : Room} {s : State} {m : MethodId} {args : Array Value} {below : List Frame} {meth : Method} {c : Code} {H : Heap} {locs : List Loc} {cells slots : Nat} {Q : State → Prop}
variable {cc : ByteArray} {pc : Nat} {ls : Array Slot} {rest : List Value} {G : Gt} {b : Nat} {own : String} {nL : Nat}
/-- what was written behind the start's heap need not be named -/
theorem n_loc {g : JFrame} (h : ∀ q ∈ locs, s.heap.size ≤ q.base) (kk : W p l e R s m args below meth c H [] cells slots Q g) : W p l e R s m args below meth c H locs cells slots Q g := fun T hT X =>
  kk T hT { X with same := ⟨X.same.1, X.same.2.1, X.same.2.2.1, X.same.2.2.2.1, X.same.2.2.2.2.1, fun a c hc => by
    obtain ⟨c', h1, h2, h3, h4⟩ := X.same.2.2.2.2.2 a c hc
    refine ⟨c', h1, h2, h3, fun i _ => h4 i (fun hin => ?_)⟩
    have h5 := h _ hin
    have h6 := (Array.getElem?_eq_some_iff.mp hc).1
    have h7 : s.heap.size ≤ a := h5
    exact absurd h6 (Nat.not_lt.mpr h7)⟩ }
theorem SW_gg {j : Nat} {U : State} (h : SW G b U H) : SW (gg j G) b U H := by
  refine ⟨fun t ht => ?_, h.2⟩
  have e : (gg j G).2.2.2 t = G.2.2.2 t := if_neg (by omega)
  have := h.1 t ht
  rw [e]
  exact this
theorem FX_gg {j : Nat} (F : FX G b own cc nL p s m args meth c) : FX (gg j G) b own cc nL p s m args meth c := ⟨F.1, F.2.1, F.2.2.1, F.2.2.2.1, F.2.2.2.2.1, F.2.2.2.2.2.1, F.2.2.2.2.2.2.1, SW_gg F.2.2.2.2.2.2.2.1, F.2.2.2.2.2.2.2.2⟩
/-- no call of the class or the model touches what lay there before: the script -/
theorem n_scr {sb L : Nat} {xs : Nat → Int32} (hX : va_X sb L xs s s.heap) (hb : sb < s.heap.size) (hS : va_S (fb s.heap.size) s.heap H locs) : va_X sb L xs s H := by
  obtain ⟨scr, h1, h2⟩ := hX
  exact ⟨scr, (hS.2.1 sb hb (fun q => Nat.lt_irrefl _ (Nat.lt_of_lt_of_le hb q))).trans h1, h2⟩
end RUN0
