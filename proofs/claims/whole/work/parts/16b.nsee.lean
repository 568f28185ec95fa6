section NSEE
variable {p : Program} {l : Launch} {e : Env} {R : Room} {s : State} {m : MethodId} {args : Array Value} {below : List Frame} {meth : Method} {c : Code} {H : Heap} {locs : List Loc} {cells slots : Nat} {Q : State → Prop}
variable {cc : ByteArray} {pc : Nat} {ls : Array Slot} {rest : List Value} {G : Gt} {b : Nat} {μ μ' : Mm} {own : String} {nL mc ms : Nat}
/-- the same, its text by a wide index -/
theorem x_throw3 (F : FX G b "ContentsSetter" cc nL p s m args meth c) (hlT : l.stackTraces = false) (hnt : ∀ x ∈ c.exceptionTable.toList, False) {Qc : Array Value → State → Outcome → State → Prop} {is t : Nat} {text : String}
    (hq : ("ContentsSetter", is, text, t) ∈ refS) (hsz : ls.size = nL)
    (d0 : decode cc pc = .ok (.new 443, 3)) (d3 : decode cc (pc + 3) = .ok (.dup, 1)) (d4 : decode cc (pc + 4) = .ok (.ldc_w is, 3)) (d7 : decode cc (pc + 7) = .ok (.invokespecial 447, 3)) (d10 : decode cc (pc + 10) = .ok (.athrow, 1))
    (hR : 5 < R.frames ∧ (rest.map fun v => v.category).sum + 82 ≤ R.locals ∧ cells + 1 ≤ R.cells ∧ slots + 6 ≤ R.slots) (h1 : cells + 1 ≤ mc) (h2 : slots + 6 ≤ ms) (hW : WH G b μ H) (hS : va_S (fb b) s.heap H locs) : W p l e R s m args below meth c H locs cells slots (vx_MQ below Qc (XN G b (some (3, μ))) args s mc ms (fb b)) (F0 m pc ls rest) := by
  sorry
end NSEE
