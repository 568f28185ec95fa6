section LDCW
variable {p : Program} {l : Launch} {e : Env} {R : Room} {s : State} {m : MethodId} {args : Array Value} {below : List Frame} {meth : Method} {c : Code} {H : Heap} {locs : List Loc} {cells slots : Nat} {Q : State → Prop}
variable {cc : ByteArray} {pc : Nat} {ls : Array Slot} {rest : List Value} {G : Gt} {b : Nat} {own : String} {nL : Nat}
theorem fl_ldcSW {index : Nat} {tx : String} {t : Nat} (hq : (own, index, tx, t) ∈ refS) (F : FX G b own cc nL p s m args meth c) (hdg : decode cc pc = .ok (.ldc_w index, 3))
    (kk : W p l e R s m args below meth c H locs cells slots Q (F0 m (pc + 3) ls (.ref (G.2.2.1 t) :: rest))) : W p l e R s m args below meth c H locs cells slots Q (F0 m pc ls rest) := by
  obtain ⟨hx, hb, hml, hown, hts, hK, hN, hSW, hlk⟩ := F
  have hZ := hSW.2.1 _ hq
  intro T hT X
  obtain ⟨t', a1, b1⟩ := kk T hT X
  exact ⟨t', X.ldcStringW hx (own := own) (text := tx) (index := index) (a := G.2.2.1 t) hown hZ.1 hZ.2 (g := F0 m pc ls rest) rfl (by rw [hb]; exact hdg) t' a1, b1⟩
end LDCW
