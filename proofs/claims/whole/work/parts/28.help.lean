/-! THE LAW'S HELPERS: the long[1] as a number of the world; methods with handlers -/
/-- the world whose long[1] holds another number -/
abbrev gs (n : Nat) (G : Gt) : Gt := (G.1, G.2.1, G.2.2.1, fun t => if t = 14 then n else G.2.2.2 t)
theorem gs_id {G : Gt} : gs (G.2.2.2 14) G = G := by
  have e : (fun t => if t = 14 then G.2.2.2 14 else G.2.2.2 t) = G.2.2.2 := by
    funext t
    split
    · next q => rw [q]
    · rfl
  show (G.1, G.2.1, G.2.2.1, fun t => if t = 14 then G.2.2.2 14 else G.2.2.2 t) = G
  rw [e]
theorem gs_13 {G : Gt} {n : Nat} : (gs n G).2.2.2 13 = G.2.2.2 13 := rfl
theorem gs_fg {G : Gt} {n t : Nat} (h : t ≠ 14) : (fg (gs n G)).2.2.2 t = (fg G).2.2.2 t := by
  show (if t = 13 then 25 + (gs n G).2.2.2 13 else if t = 14 then n else G.2.2.2 t) = if t = 13 then 25 + G.2.2.2 13 else G.2.2.2 t
  rw [if_neg h, gs_13]
theorem wF_gs {G : Gt} {b n k : Nat} {μ : Mm} (h : ky k ≠ 25) : wF (fg (gs n G)) b μ k = wF (fg G) b μ k := by
  unfold wF
  split <;> first | rfl | (next q => exact absurd q h)
theorem SW_gs {G : Gt} {b n : Nat} {U : State} {H : Heap} (h : SW (fg G) b U H) : SW (fg (gs n G)) b U H := by
  refine ⟨fun t ht => ?_, h.2⟩
  have := h.1 t ht
  rw [gs_fg (by omega)]
  exact this
theorem ky_25 : ∀ k, k < 332 → ky k = 25 → k = 331 := by decide +kernel
theorem at_out {D : va_G} {cl : List vw_C} {q : Nat} {cA : ClassId} {f f' : Nat → Int64} {H : Heap} (h : f 0 = f' 0) (ha : va_at D cl (q, .inl (cA, 1, .inr (.inl f))) H) : va_at D cl (q, .inl (cA, 1, .inr (.inl f'))) H := by
  have e : (arrV cA 1 fun j => Value.long (f j)) = arrV cA 1 fun j => Value.long (f' j) := by
    unfold arrV
    congr 1
    congr 1
    funext j
    have hj : j.1 = 0 := by omega
    show Value.long (f j.1) = Value.long (f' j.1)
    rw [hj, h]
  exact (show H[q]? = some (arrV cA 1 fun j => Value.long (f j)) from ha).trans (by rw [e]; rfl)
section HELP
variable {p : Program} {l : Launch} {e : Env} {R : Room} {s : State} {m : MethodId} {args : Array Value} {below : List Frame} {meth : Method} {c : Code} {H : Heap} {locs : List Loc} {cells slots : Nat} {Q : State → Prop}
variable {cc : ByteArray} {pc : Nat} {ls : Array Slot} {rest : List Value} {G : Gt} {b : Nat} {μ : Mm} {own : String} {nL n : Nat}
theorem FX_gs (F : FX (fg G) b own cc nL p s m args meth c) : FX (fg (gs n G)) b own cc nL p s m args meth c := ⟨F.1, F.2.1, F.2.2.1, F.2.2.2.1, F.2.2.2.2.1, F.2.2.2.2.2.1, F.2.2.2.2.2.2.1, SW_gs F.2.2.2.2.2.2.2.1, F.2.2.2.2.2.2.2.2⟩
theorem n_out (h1 : G.2.2.2 13 = 1) (F : FX (fg G) b own cc nL p s m args meth c) (hW : WH (fg G) b μ H) (hS : va_S (fb b) s.heap H locs) {x : Int64} (hn : Int64.ofNat n = x) (hdg : decode cc pc = .ok (.lastore, 1))
    (kk : ∀ (H1 : Heap) (locs1 : List Loc), WH (fg (gs n G)) b μ H1 → va_S (fb b) s.heap H1 locs1 → W p l e R s m args below meth c H1 locs1 cells slots Q (F0 m (pc + 1) ls rest)) : W p l e R s m args below meth c H locs cells slots Q (F0 m pc ls (.long x :: .int 0 :: .ref (b + 331) :: rest)) := by
  obtain ⟨hx, hb, hml, hown, hts, hK, hN, hSW, hlk⟩ := F
  have hk : 331 < nn (fg G) := by rw [nn_fg, h1]; decide
  refine va_last hx hb hK (wl_P hW) wl_D hS 331 2 (by rw [wl_get hk, wF_25 rfl]) rfl (inb_in (by decide)) hdg (fun H1 locs1 hP _ hS1 => kk H1 locs1 ⟨fun k' hk' => ?_, hW.2⟩ hS1)
  have hk2 : k' < nn (fg G) := by rw [nn_fg] at hk' ⊢; exact hk'
  by_cases hkk : k' = 331
  · subst hkk
    have := hP 331 _ (List.getElem?_set_self (by simpa [wl] using hk))
    rw [wF_25 rfl]
    exact at_out (f' := fun _ => Int64.ofNat n) (by rw [hn]; rfl) this
  · have h25 : ky k' ≠ 25 := fun q => hkk (ky_25 k' (by rw [nn_fg, h1] at hk2; exact hk2) q)
    have := hP k' (b + k', wF (fg G) b μ k') (by rw [List.getElem?_set_ne (Ne.symm hkk)]; exact wl_get hk2)
    rw [wF_gs h25]
    exact this
end HELP
/-- what a helper of the law gives back: its code, and what the long[1] holds then -/
def QL (G : Gt) (b : Nat) (code : Int32) (w : Option Int64) (μ : Mm) : Array Value → State → Outcome → State → Prop := fun _ st oc t => oc = .returned (some (.int code)) ∧ (∃ n, (∀ x, w = some x → Int64.ofNat n = x) ∧ WH (fg (gs n G)) b μ t.heap) ∧ va_F (fb b) st t
theorem i64_nat (x : Int64) : Int64.ofNat x.toBitVec.toNat = x := by
  apply Int64.toBitVec_inj.mp
  simp
/-- a contract of a method with handlers, out of the walk of its body -/
theorem hmet_of {l : Launch} {y : MethodName} {cc : ByteArray} {maxL : Nat} {ret : Option FieldType} {hh : List (Nat × Nat × Nat × Nat)} {rm : Room} {G : Gt} {b : Nat} {μ : Mm} {Qc : Array Value → State → Outcome → State → Prop} {XC : String → State → State → Prop} {mc ms : Nat} (vals : List Value) (hy : plainName y.cls = true) (hn : (lg_sl vals).length ≤ maxL)
    (body : ∀ {p : Program} {e : Env} {s : State} {m : MethodId} {args : Array Value} {below : List Frame} {meth : Method} {c : Code} {ls : Array Slot}, FX G b y.cls cc maxL p s m args meth c → meth.sig.returnType = ret → c.exceptionTable.toList.map (fun h => (h.startPc, h.endPc, h.handlerPc, h.catchType)) = hh → WH G b μ s.heap → lv_has ls maxL (lv_args 0 vals) → W p l e rm s m args below meth c s.heap [] 0 0 (vx_MQ below Qc XC args s mc ms (fb b)) (F0 m 0 ls [])) :
    vx_Met l y (wU (Cond.codeWith y cc maxL ret hh)) rm (PcW G b μ vals) Qc XC mc ms (fb b) := by
  refine vx_ofWH (cc := cc) (maxL := maxL) (ret := ret) (hh := hh) hy rfl ?_
  intro p e s m args below meth c s₁ B hml hv
  obtain ⟨rfl, hW, hK, hN, hSW⟩ := hv
  have hts := atoms_spec (ws := wU (Cond.codeWith y cc maxL ret hh)) B.pre
  have F : FX G b y.cls cc maxL p s m vals.toArray meth c := ⟨B.exec, B.bytes, hml, findClass_of_methodNamed B.named, fun w hw => hts w (List.mem_cons_of_mem _ hw), hK, hN, hSW, B.notSynchronized⟩
  obtain ⟨m9, meth9, c9, hn9, hm9, hc9, -, -, htab, -⟩ := Cond.codeWith_spec (hts _ List.mem_cons_self)
  cases hn9.symm.trans B.named
  cases hm9.symm.trans B.method
  cases hc9.symm.trans (Stand.of_body B).code
  have hl := lv_entry vals (n := maxL) hn
  rw [lg_entry_eq]
  generalize (lg_sl vals ++ List.replicate (maxL - (lg_sl vals).length) Slot.unset).toArray = ls at hl ⊢
  exact body F B.returns htab hW hl
