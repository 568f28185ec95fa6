/-! THE STRING CONSTANTS AT THE LAW'S START -/
def idxS : List Nat := [121, 123, 133, 135, 140, 160, 162, 164, 166, 168, 145, 150, 155]
abbrev tmS (t : Nat) : Term := .string "ContentsSetter$Parser" (idxS.getD t 0)
theorem sg_1 : ∀ t, t < 13 → Cond.exactly (tmS t) "java/lang/String" ∈ flatC gvn := by decide +kernel
theorem sg_2 : ∀ t, t < 13 → Cond.eq ((tmS t).field "java/lang/String" "coder" "B") (Term.int 0) ∈ flatC gvn := by decide +kernel
theorem sg_3 : ∀ t, t < 13 → Cond.arrayOf ((tmS t).field "java/lang/String" "value" "[B") .byte ∈ flatC gvn := by decide +kernel
theorem sg_4 : ∀ t, t < 13 → Cond.eq ((tmS t).field "java/lang/String" "value" "[B").length (Term.int (Int32.ofNat (lenS.getD t 0))) ∈ flatC gvn := by decide +kernel
theorem sg_5 : ∀ t, t < 13 → ∀ j, j < lenS.getD t 0 → Cond.eq (((tmS t).field "java/lang/String" "value" "[B").elem (Term.int (Int32.ofNat j))) (Term.int ((bytS.getD t []).getD j 0)) ∈ flatC gvn := by decide +kernel
theorem sg_6 : ∀ q ∈ refS, Cond.exactly (Term.string q.1 q.2.1) "java/lang/String" ∈ flatC gvn := by decide +kernel
theorem sg_7 : ∀ q ∈ refS, Cond.stringRef q.1 q.2.1 q.2.2.1 ∈ lw_tbl := by decide +kernel
theorem sg_8 : ∀ q ∈ refS, q.2.2.2 < 13 → (q.1 = "ContentsSetter$Parser" ∧ q.2.1 = idxS.getD q.2.2.2 0) ∨ Cond.eq (tmS q.2.2.2) (Term.string q.1 q.2.1) ∈ flatC gvn := by decide +kernel
theorem sg_9 : ∀ q ∈ refS, ∀ r ∈ refS, 13 ≤ q.2.2.2 → q.2.2.2 = r.2.2.2 → q = r := by decide +kernel
section STR
variable {s : State} {args : Array Value}
theorem str_0 (hgv : gvn.before args s = true) : ∀ t : Nat, ∃ a v : Nat, t < 13 → vk_S 1 [lenS.getD t 0] [bytS.getD t []] (fun _ => a) (fun _ => v) (fb s.heap.size) s s.heap ∧ Term.eval args s none [] s (tmS t) = some (.ref a) := by
  have h := flat_of_before gvn hgv
  intro t
  by_cases ht : t < 13
  · obtain ⟨K, V, h1, h2⟩ := vk_Sof (N := 1) (tm := fun _ => tmS t) (len := [lenS.getD t 0]) (byt := [bytS.getD t []]) (A := fb s.heap.size) (args := args) (s := s)
      (fun i hi => by obtain rfl : i = 0 := by omega
                      exact (show ∀ t, t < 13 → lenS.getD t 0 < 2 ^ 31 by decide) t ht)
      (fun i hi => h _ (sg_1 t ht)) (fun i hi => h _ (sg_2 t ht)) (fun i hi => h _ (sg_3 t ht))
      (fun i hi => by obtain rfl : i = 0 := by omega
                      exact h _ (sg_4 t ht))
      (fun i hi j hj => by obtain rfl : i = 0 := by omega
                           exact h _ (sg_5 t ht j hj))
      (fun i j hi hj hne => absurd (show i = j by omega) hne) (fun a ha q => Nat.lt_irrefl _ (Nat.lt_of_lt_of_le ha q))
    refine ⟨K 0, V 0, fun _ => ⟨⟨fun i hi => ?_, fun i j hi hj _ => by omega⟩, h2 0 (by omega)⟩⟩
    obtain rfl : i = 0 := by omega
    exact h1.1 0 hi
  · exact ⟨0, 0, fun q => absurd q ht⟩
theorem ref_0 (hgv : gvn.before args s = true) : ∀ q ∈ refS, ∃ a : Nat, Term.eval args s none [] s (Term.string q.1 q.2.1) = some (.ref a) := fun q hq => by
  obtain ⟨a, -, -, -, h, -⟩ := Cond.exactly_spec (flat_of_before gvn hgv _ (sg_6 q hq))
  exact ⟨a, h⟩
end STR
