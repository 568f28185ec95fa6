/-! THE WORLD AT THE LAW'S START, out of the words of the tables and of what the Statement gives -/
theorem TBG_lw {w : Cond} (h : w ∈ TBG) : w ∈ lw_tbl := (List.mem_filter.mp h).1
def gvn : Cond := Jvm.Cond.and given_1 narrow_1
theorem nest_lw : ∀ q ∈ nestL, Cond.methodLinkNest q.1 q.2.1 q.2.2.1 q.2.2.2 ∈ lw_tbl := by decide +kernel
theorem cst_lw : ∀ q ∈ cstL, Cond.castable q.1 q.2 ∈ lw_tbl := by decide +kernel
theorem nc_lw : ∀ q ∈ ncL, (Cond.castable q.1 q.2).not ∈ flatC gvn := by decide +kernel
theorem dec_lw : ∀ q ∈ decL, Cond.declares q ∈ lw_tbl := by decide +kernel
section WORLD
variable {s : State} {args : Array Value}
theorem NW_0 (hts : ∀ w ∈ lw_tbl, w.before args s = true) (hgv : gvn.before args s = true) : NW s :=
  ⟨fun q hq => va_Nw.of rfl (hts _ (nest_lw q hq)), fun q hq => va_Nw.of rfl (hts _ (cst_lw q hq)), fun q hq => va_Nc.of (flat_of_before _ hgv _ (nc_lw q hq)), fun q hq => va_Nw.of rfl (hts _ (dec_lw q hq))⟩
theorem AO_0 (hts : ∀ w ∈ lw_tbl, w.before args s = true) : va_AO "ContentsSetter$State" s :=
  (show (Cond.arrayOver (.object "ContentsSetter$State")).before args s = true from hts _ (by decide +kernel))
/-- the classes' numbers and their fields' places -/
theorem cls_0 (hts : ∀ w ∈ lw_tbl, w.before args s = true) : ∀ t : Nat, ∃ (cC : ClassId) (iS : Nat → Nat), ∀ q : vw_C, (vwCl[t]? : Option vw_C) = some q → u_Kn s q.1 q.2.1 q.2.2 cC iS := by
  have hT : ∀ w ∈ TBG, w.before args s = true := fun w hw => hts w (TBG_lw hw)
  have h : ∀ (C : String) (T : u_T) (N : Nat), (∀ w ∈ u_ws C T N, w ∈ TBG) → Cond.instantiable C N ∈ TBG → ∀ t : Nat, (vwCl[t]? : Option vw_C) = some (C, T, N) → ∃ (cC : ClassId) (iS : Nat → Nat), ∀ q : vw_C, (vwCl[t]? : Option vw_C) = some q → u_Kn s q.1 q.2.1 q.2.2 cC iS := fun C T N h1 h2 t ht => by
    obtain ⟨cC, iS, hk⟩ := u_known (ws := TBG) hT h1 (hT _ h2)
    exact ⟨cC, iS, fun q hq => by cases ht.symm.trans hq; exact hk⟩
  intro t
  rcases Nat.lt_or_ge t 13 with ht | ht
  · rcases (show t = 0 ∨ t = 1 ∨ t = 2 ∨ t = 3 ∨ t = 4 ∨ t = 5 ∨ t = 6 ∨ t = 7 ∨ t = 8 ∨ t = 9 ∨ t = 10 ∨ t = 11 ∨ t = 12 by omega) with rfl | rfl | rfl | rfl | rfl | rfl | rfl | rfl | rfl | rfl | rfl | rfl | rfl
    · exact h _ _ _ inB0 q_121 0 rfl
    · exact h _ _ _ inB1 q_226 1 rfl
    · exact h _ _ _ inB2 q_232 2 rfl
    · exact h _ _ _ inB3 q_264 3 rfl
    · exact h _ _ _ inB4 q_54 4 rfl
    · exact h _ _ _ inB5 q_127 5 rfl
    · exact h _ _ _ inB6 q_115 6 rfl
    · exact h _ _ _ inB7 q_299 7 rfl
    · exact h _ _ _ inB8 q_37 8 rfl
    · exact h _ _ _ inB9 q_60 9 rfl
    · exact h _ _ _ inB10 q_382 10 rfl
    · exact h _ _ _ inB11 q_29 11 rfl
    · exact h _ _ _ inB12 q_1462 12 rfl
  · exact ⟨(0 : Nat), fun _ => 0, fun q hq => by
      rw [List.getElem?_eq_none (by show 13 ≤ t; exact ht)] at hq
      cases hq⟩
/-- the classes of rows -/
theorem arr_0 {ty : FieldType} (hn : ∀ C, ty ≠ .object C) (h : (Cond.arrayClass ty).before args s = true) : ∃ cA : ClassId, ArrOfT s cA ty ∧ va_RA s cA ty := by
  obtain ⟨cA, k, comp, h1, h2, h3⟩ := Cond.arrayClass_spec h
  refine ⟨cA, fun n z => ⟨(fun k9 q => by cases q), k, h2, comp, h3⟩, ?_⟩
  cases ty <;> first | exact h1 | exact absurd rfl (hn _)
theorem arr_S (h : va_AO "ContentsSetter$State" s) : ∃ cA : ClassId, ArrOfT s cA (.object "ContentsSetter$State") ∧ va_RA s cA (.object "ContentsSetter$State") := by
  obtain ⟨comp, cA, k, h1, h2, h3, h4, h5⟩ := Cond.arrayOver_spec h
  exact ⟨cA, fun n z => ⟨(fun k9 q => by cases q), k, h3, comp, h4⟩, k, comp, h3, h4, h1, h5⟩
theorem WK_0 (hts : ∀ w ∈ lw_tbl, w.before args s = true) : ∃ (D : va_G) (aC : Nat → ClassId), ∀ (X : (Nat → Nat) × (Nat → Nat)), WK (D, aC, X) s := by
  obtain ⟨dC, hd⟩ := Classical.axiomOfChoice (cls_0 hts)
  obtain ⟨dI, hd⟩ := Classical.axiomOfChoice hd
  have hT : ∀ w ∈ TBG, w.before args s = true := fun w hw => hts w (TBG_lw hw)
  obtain ⟨a0, p0⟩ := arr_0 (s := s) (args := args) (ty := .byte) (fun C => by intro q; cases q) (hT _ q_52)
  obtain ⟨a1, p1⟩ := arr_0 (s := s) (args := args) (ty := .int) (fun C => by intro q; cases q) (hT _ q_137)
  obtain ⟨a2, p2⟩ := arr_0 (s := s) (args := args) (ty := .long) (fun C => by intro q; cases q) (hT _ q_70)
  obtain ⟨a3, p3⟩ := arr_0 (s := s) (args := args) (ty := .boolean) (fun C => by intro q; cases q) (hT _ q_1622)
  obtain ⟨a4, p4⟩ := arr_S (AO_0 hts)
  refine ⟨(dC, dI), fun t => if t = 0 then a0 else if t = 1 then a1 else if t = 2 then a2 else if t = 3 then a3 else a4, fun X => ⟨fun t q hq => hd t q hq, fun t q hq => ?_⟩⟩
  match t, hq with
  | 0, hq => cases hq; exact p0
  | 1, hq => cases hq; exact p1
  | 2, hq => cases hq; exact p2
  | 3, hq => cases hq; exact p3
  | 4, hq => cases hq; exact p4
end WORLD
