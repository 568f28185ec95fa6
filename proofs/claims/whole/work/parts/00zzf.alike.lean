/-! TEXTS alike -/
theorem gD_ext {A B : List Int} (h : A.length = B.length) (h2 : ∀ i, i < A.length → A.getD i 0 = B.getD i 0) : A = B := by
  apply List.ext_getElem h
  intro i h3 h4
  have := h2 i h3
  rw [List.getD_eq_getElem?_getD, List.getD_eq_getElem?_getD, List.getElem?_eq_getElem h3, List.getElem?_eq_getElem h4] at this
  exact this
section ALK
variable {n : Nat}
theorem lk15 {t a : Nat} {μ : Mm} {A B : List Int} (hA : Tx t μ A) (hB : Tx a μ B) (hl : A.length = B.length) (hrA : ∀ i, i < A.length → -128 ≤ A.getD i 0 ∧ A.getD i 0 ≤ 127) (hrB : ∀ i, i < B.length → -128 ≤ B.getD i 0 ∧ B.getD i 0 ≤ 127) : ∀ (k f i : Nat), i + k = A.length → k < f → (∀ j, j < i → A.getD j 0 = B.getD j 0) → sh_X8_isLike_15 n t a μ f (jv i) = some (jv (if A = B then 1 else 0)) := by
  have h1 := hA.1
  have hln := ln_lt (t + 1)
  intro k
  induction k with
  | zero =>
    intro f i hi hf h
    obtain ⟨f, rfl⟩ : ∃ g, f = g + 1 := ⟨f - 1, by omega⟩
    rw [sh_X8_isLike_15, hA.2.1, if_pos (by rw [jv_le] <;> omega), if_pos (gD_ext hl (fun j hj => h j (by omega)))]
    rfl
  | succ k ih =>
    intro f i hi hf h
    obtain ⟨f, rfl⟩ : ∃ g, f = g + 1 := ⟨f - 1, by omega⟩
    have ra := hrA i (by omega)
    have rb := hrB i (by omega)
    rw [sh_X8_isLike_15, hA.2.1, if_neg (by rw [jv_le] <;> omega), hA.g (by omega), Option.bind_some, hB.g (by omega), Option.bind_some]
    by_cases z : A.getD i 0 = B.getD i 0
    · rw [if_pos (by rw [z]), jv_lit (nat_lit 1), jv_add, show (i : Int) + 1 = ((i + 1 : Nat) : Int) by omega]
      exact ih f (i + 1) (by omega) (by omega) (fun j hj => by
        by_cases y : j = i
        · rw [y]; exact z
        · exact h j (by omega))
    · rw [if_neg (by rw [jv_eq] <;> omega), if_neg (fun q => z (by rw [q]))]
      rfl
theorem lk8 (hn : 20000 ≤ n) {t a : Nat} {μ : Mm} {A B : List Int} (hA : Tx t μ A) (hB : Tx a μ B) (h16 : A.length ≤ 16000) (hrA : ∀ i, i < A.length → -128 ≤ A.getD i 0 ∧ A.getD i 0 ≤ 127) (hrB : ∀ i, i < B.length → -128 ≤ B.getD i 0 ∧ B.getD i 0 ≤ 127) : sh_X8_isLike n t a μ = some (jv (if A = B then 1 else 0)) := by
  have h1 := hA.1
  have h2 := hB.1
  have hln := ln_lt (t + 1)
  have hlb := ln_lt (a + 1)
  unfold sh_X8_isLike
  rw [hA.2.1, hB.2.1]
  by_cases z : A.length = B.length
  · rw [if_pos (by rw [z]), jv0]
    exact lk15 (n := n) hA hB z hrA hrB A.length n 0 (by omega) (by omega) (fun j hj => absurd hj (by omega))
  · rw [if_neg (by rw [jv_eq] <;> omega), if_neg (fun q => z (by rw [q]))]
    rfl
/-- the model holds its text against bytes of the net -/
theorem as52 {μ : Mm} {L : List Int} {T : Nat → Int} {a b : Int32} {fo : Nat} (hx : Mx μ L) (hfo : fo + L.length ≤ 16000) (hr : ∀ i, i < L.length → -128 ≤ L.getD i 0 ∧ L.getD i 0 ≤ 127) (hT : ∀ i, i < L.length → μ.1 307 (2701 + fo + i) = jv (T i) ∧ -128 ≤ T i ∧ T i ≤ 127) : ∀ (k f i : Nat), i + k = L.length → k < f → sh_X12_isAs_52 n a b f (jv fo) (jv 0) (jv i) μ = some (jv 0, μ) ∧ sh_X12_isAs_52 n a b f (jv fo) (jv 1) (jv i) μ = some (jv (if ∀ j, j < L.length → i ≤ j → T j = L.getD j 0 then 1 else 0), μ) := by
  have h1 := hx.1
  have l1 : ln 307 = 18701 := rfl
  have l2 : ln 310 = 16000 := rfl
  intro k
  induction k with
  | zero =>
    intro f i hi hf
    obtain ⟨f, rfl⟩ : ∃ g, f = g + 1 := ⟨f - 1, by omega⟩
    constructor
    · rw [sh_X12_isAs_52, hx.2.1, if_pos (by rw [jv_le] <;> omega), isB_0]
      rfl
    · rw [sh_X12_isAs_52, hx.2.1, if_pos (by rw [jv_le] <;> omega), isB_1, if_pos (fun j x y => absurd x (by omega))]
      rfl
  | succ k ih =>
    intro f i hi hf
    obtain ⟨f, rfl⟩ : ∃ g, f = g + 1 := ⟨f - 1, by omega⟩
    obtain ⟨i0, i1⟩ := ih f (i + 1) (by omega) (by omega)
    obtain ⟨t1, t2⟩ := hT i (by omega)
    have hri := hr i (by omega)
    constructor
    · rw [sh_X12_isAs_52, hx.2.1, if_neg (by rw [jv_le] <;> omega), if_pos zro, isB_0]
      rfl
    · rw [sh_X12_isAs_52, hx.2.1, if_neg (by rw [jv_le] <;> omega), if_neg one_ne]
      simp only [jv_lit]
      rw [jv_add, jv_add, ld_jv (by omega) (by omega), Option.bind_some, ld_jv (by omega) (by omega), Option.bind_some, Int.toNat_natCast, show (2701 + (fo : Int) + i).toNat = 2701 + fo + i by omega, t1, hx.2.2 i (by omega), jv_add, show (i : Int) + 1 = ((i + 1 : Nat) : Int) by omega, i0, i1]
      by_cases z : T i = L.getD i 0
      · have e : (∀ j, j < L.length → i ≤ j → T j = L.getD j 0) ↔ (∀ j, j < L.length → i + 1 ≤ j → T j = L.getD j 0) := ⟨fun q j x y => q j x (by omega), fun q j x y => by
          by_cases w : j = i
          · rw [w]; exact z
          · exact q j x (by omega)⟩
        rw [if_pos (by rw [z])]
        by_cases y : ∀ j, j < L.length → i ≤ j → T j = L.getD j 0
        · rw [if_pos y, if_pos (e.mp y)]
        · rw [if_neg y, if_neg (fun q => y (e.mpr q))]
      · rw [if_neg (by rw [jv_eq] <;> omega), if_neg (fun q => z (q i (by omega) (Nat.le_refl _)))]
end ALK
