/-! LINES told apart by their ends -/
theorem spl : ∀ (b b' r r' : List Int), (10 : Int) ∉ b → (10 : Int) ∉ b' → b ++ 10 :: r = b' ++ 10 :: r' → b = b' ∧ r = r' := by
  intro b
  induction b with
  | nil =>
    intro b' r r' _ h2 h
    cases b' with
    | nil => exact ⟨rfl, List.tail_eq_of_cons_eq h⟩
    | cons c b' =>
      exfalso
      have : (10 : Int) = c := List.head_eq_of_cons_eq h
      exact h2 (by rw [this]; exact List.mem_cons_self)
  | cons a b ih =>
    intro b' r r' h1 h2 h
    cases b' with
    | nil =>
      exfalso
      have : a = (10 : Int) := List.head_eq_of_cons_eq h
      exact h1 (by rw [this]; exact List.mem_cons_self)
    | cons c b' =>
      have e1 : a = c := List.head_eq_of_cons_eq h
      obtain ⟨e2, e3⟩ := ih b' r r' (fun q => h1 (List.mem_cons_of_mem _ q)) (fun q => h2 (List.mem_cons_of_mem _ q)) (List.tail_eq_of_cons_eq h)
      exact ⟨by rw [e1, e2], e3⟩
