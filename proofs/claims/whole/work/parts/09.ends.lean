theorem toInt_ne {x k : Int32} (h : ¬ x = k) : ¬ x.toInt = k.toInt := fun q => h (Int32.toInt_inj.mp q)
theorem t_out {x : Int32} {hi : Nat} (h : ∀ k : Nat, k ≤ hi → ¬ x = Int32.ofNat k) (hh : hi < 2 ^ 31) : x.toInt < 0 ∨ (hi : Int) < x.toInt := by
  rcases Int.lt_or_le x.toInt 0 with q | q
  · exact Or.inl q
  · rcases Int.lt_or_le (hi : Int) x.toInt with q2 | q2
    · exact Or.inr q2
    · exfalso
      refine h x.toInt.toNat (by omega) ?_
      apply Int32.toInt_inj.mp
      have e : (Int32.ofNat x.toInt.toNat).toInt = (x.toInt.toNat : Int) := nI_toInt (by omega)
      rw [e]
      omega
theorem t_look {l : List (Int × Int)} {dflt : Int} {x : Int} (h : ∀ a ∈ l, ¬ x = a.1) : Op.lookupswitch.offset l dflt x = dflt := by
  induction l with
  | nil => rfl
  | cons a r ih =>
    obtain ⟨a, o⟩ := a
    rw [Op.lookupswitch.offset_cons, if_neg (fun q => h (a, o) List.mem_cons_self q.symm)]
    exact ih (fun z hz => h z (List.mem_cons_of_mem _ hz))
section ENDS
variable {p : Program} {l : Launch} {e : Env} {R : Room} {s : State} {m : MethodId} {args : Array Value} {below : List Frame} {meth : Method} {c : Code} {H : Heap} {locs : List Loc} {cells slots : Nat} {Q : State → Prop}
variable {cc : ByteArray} {pc : Nat} {ls : Array Slot} {rest : List Value} {G : Gt} {b : Nat} {μ μ' : Mm} {own : String} {nL : Nat}
theorem r_int (F : FX G b own cc nL p s m args meth c) (hr : meth.sig.returnType = some .int) {v : Int32} (hW : WH G b μ H) (hS : va_S (fb b) s.heap H locs) (hdg : decode cc pc = .ok (.ireturn, 1)) : W p l e R s m args below meth c H locs cells slots (MQ below (QW G b μ (some (.int v))) args s cells slots (fb b)) (F0 m pc ls [.int v]) :=
  W.iret F.1 F.2.1 hr (fun t ht _ => ⟨rfl, by rw [ht]; exact hW, hS.F ht⟩) hS.2.2 hdg F.2.2.2.2.2.2.2.2
theorem r_bool (F : FX G b own cc nL p s m args meth c) (hr : meth.sig.returnType = some .boolean) {v : Int32} (hv : v = 0 ∨ v = 1) (hW : WH G b μ H) (hS : va_S (fb b) s.heap H locs) (hdg : decode cc pc = .ok (.ireturn, 1)) : W p l e R s m args below meth c H locs cells slots (MQ below (QW G b μ (some (.int v))) args s cells slots (fb b)) (F0 m pc ls [.int v]) :=
  W.zret F.1 F.2.1 hr (nar_z hv).1 (fun t ht _ => ⟨rfl, by rw [ht]; exact hW, hS.F ht⟩) hS.2.2 hdg F.2.2.2.2.2.2.2.2
theorem r_void (F : FX G b own cc nL p s m args meth c) (hr : meth.sig.returnType = none) (hW : WH G b μ H) (hS : va_S (fb b) s.heap H locs) (hdg : decode cc pc = .ok (.return_, 1)) : W p l e R s m args below meth c H locs cells slots (MQ below (QW G b μ none) args s cells slots (fb b)) (F0 m pc ls []) :=
  W.vret F.1 F.2.1 hr (fun t ht _ => ⟨rfl, by rw [ht]; exact hW, hS.F ht⟩) hS.2.2 hdg F.2.2.2.2.2.2.2.2
theorem r_long (F : FX G b own cc nL p s m args meth c) (hr : meth.sig.returnType = some .long) {v : Int64} (hW : WH G b μ H) (hS : va_S (fb b) s.heap H locs) (hdg : decode cc pc = .ok (.lreturn, 1)) : W p l e R s m args below meth c H locs cells slots (MQ below (QW G b μ (some (.long v))) args s cells slots (fb b)) (F0 m pc ls [.long v]) :=
  W.lret F.1 F.2.1 hr (fun t ht _ => ⟨rfl, by rw [ht]; exact hW, hS.F ht⟩) hS.2.2 hdg F.2.2.2.2.2.2.2.2
theorem r_ref (F : FX G b own cc nL p s m args meth c) {C : String} (hr : meth.sig.returnType = some (.object C)) {v : Nat} (hW : WH G b μ H) (hS : va_S (fb b) s.heap H locs) (hdg : decode cc pc = .ok (.areturn, 1)) : W p l e R s m args below meth c H locs cells slots (MQ below (QW G b μ (some (.ref v))) args s cells slots (fb b)) (F0 m pc ls [.ref v]) :=
  W.aret F.1 F.2.1 hr (Or.inl ⟨C, rfl⟩) (Or.inr ⟨v, rfl⟩) (fun t ht _ => ⟨rfl, by rw [ht]; exact hW, hS.F ht⟩) hS.2.2 hdg F.2.2.2.2.2.2.2.2
/-- a contract out of the walk of a body -/
theorem met_of {l : Launch} {y : MethodName} {cc : ByteArray} {maxL : Nat} {ret : Option FieldType} {rm : Room} {G : Gt} {b : Nat} {μ : Mm} {Qc : Array Value → State → Outcome → State → Prop} {mc ms : Nat} (vals : List Value) (hy : plainName y.cls = true) (hn : (lg_sl vals).length ≤ maxL)
    (body : ∀ {p : Program} {e : Env} {s : State} {m : MethodId} {args : Array Value} {below : List Frame} {meth : Method} {c : Code} {ls : Array Slot}, FX G b y.cls cc maxL p s m args meth c → meth.sig.returnType = ret → WH G b μ s.heap → lv_has ls maxL (lv_args 0 vals) → W p l e rm s m args below meth c s.heap [] 0 0 (MQ below Qc args s mc ms (fb b)) (F0 m 0 ls [])) :
    Met l y (wU (Cond.code y cc maxL ret)) rm (PcW G b μ vals) Qc mc ms (fb b) := by
  refine Met.ofW (cc := cc) (maxL := maxL) (ret := ret) hy rfl ?_
  intro p e s m args below meth c s₁ B hml hv
  obtain ⟨rfl, hW, hK, hN, hSW⟩ := hv
  have hts := atoms_spec (ws := wU (Cond.code y cc maxL ret)) B.pre
  have F : FX G b y.cls cc maxL p s m vals.toArray meth c := ⟨B.exec, B.bytes, hml, findClass_of_methodNamed B.named, fun w hw => hts w (List.mem_cons_of_mem _ hw), hK, hN, hSW, B.notSynchronized⟩
  have hl := lv_entry vals (n := maxL) hn
  rw [lg_entry_eq]
  generalize (lg_sl vals ++ List.replicate (maxL - (lg_sl vals).length) Slot.unset).toArray = ls at hl ⊢
  exact body F B.returns hW hl
theorem fl_ldcS {index : Nat} {tx : String} {t : Nat} (hq : (own, index, tx, t) ∈ refS) (F : FX G b own cc nL p s m args meth c) (hdg : decode cc pc = .ok (.ldc index, 2))
    (kk : W p l e R s m args below meth c H locs cells slots Q (F0 m (pc + 2) ls (.ref (G.2.2.1 t) :: rest))) : W p l e R s m args below meth c H locs cells slots Q (F0 m pc ls rest) :=
  va_ldcS F.1 F.2.1 F.2.2.2.1 (F.2.2.2.2.2.2.2.1.2.1 _ hq) hdg kk
end ENDS
theorem ac_native : Cond.native arraycopyName ∈ TBG := q_745
theorem ac_static : Cond.static arraycopyName ∈ TBG := q_744
theorem mm_max : Cond.code Lib.Math.max.name Lib.Math.max.code 2 (some .int) ∈ TBG := q_44
theorem mm_min : Cond.code Lib.Math.min.name Lib.Math.min.code 2 (some .int) ∈ TBG := q_466
