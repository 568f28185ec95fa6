/-! THE START: the memory when the class's constructor lays its empty book, and what the model's constructor makes of it -/
def R0 : Nat → Int := fun i => [60, 40, 40, 2, 3, 1, 2, 3].getD i 0
def setRow (k : Nat) : Bool := k == 13 || k == 26 || k == 87 || k == 147 || k == 160 || k == 174 || k == 187 || k == 201 || k == 214 || k == 228 || k == 241 || k == 255 || k == 268 || k == 282 || k == 295
def mS : Mm := (fun k j => if setRow k = true then jv (R0 j) else if k = 0 ∧ j = 4 ∨ k = 5 ∧ j = 1 ∨ k = 306 ∧ j = 12 then jv (-1) else jv 0, fun _ _ => 0, fun t => if t = 0 then 307 else 8)
theorem R0_0 {i : Nat} (h : 8 ≤ i) : R0 i = 0 := by
  unfold R0
  rw [List.getD_eq_getElem?_getD, List.getElem?_eq_none (by show 8 ≤ i; exact h)]
  rfl
theorem wb0 (K : Int) : WB K R0 0 0 := by
  refine ⟨⟨rfl, by omega, by omega⟩, ?_, ?_, ?_, ?_, ?_, ?_, ?_, ?_, Or.inl rfl, fun s hs => absurd hs (Nat.not_lt_zero s)⟩
  all_goals (constructor <;> decide)
theorem cb0 {μ : Mm} {k : Nat} (ho : okB k) (h1 : ∀ i, i < 8 → μ.1 (k + 2) i = jv (R0 i)) (h2 : μ.1 k 1 = jv 0 ∧ μ.1 k 2 = jv 0 ∧ μ.1 k 3 = jv 0) : CB k μ R0 0 0 := ⟨ho, h1, h2, fun s hs => absurd hs (Nat.not_lt_zero s)⟩
theorem okB11 : okB 11 := ⟨rfl, rfl, rfl, rfl, rfl, rfl⟩
theorem okB24 : okB 24 := ⟨rfl, rfl, rfl, rfl, rfl, rfl⟩
def beg8 (j : Nat) : Bool := decide (j < 8)
/-- what the model's constructor writes -/
def mB (μ : Mm) : Mm := sI (sI (sI (sI (sI (sI (sI (sI μ 307 3 2) 307 4 3) 307 5 1) 307 6 2) 307 7 3) 307 0 60) 307 1 40) 307 2 40
theorem mB_o {μ : Mm} {k j : Nat} (h : ¬ (k = 307 ∧ j < 8)) : (mB μ).1 k j = μ.1 k j := by
  have e : ∀ (ν : Mm) (i : Nat) (v : Int32), i < 8 → (sI ν 307 i v).1 k j = ν.1 k j := fun ν i v hi => by
    simp only [sI]
    rw [if_neg (by omega)]
  unfold mB
  rw [e _ _ _ (by omega), e _ _ _ (by omega), e _ _ _ (by omega), e _ _ _ (by omega), e _ _ _ (by omega), e _ _ _ (by omega), e _ _ _ (by omega), e _ _ _ (by omega)]
theorem mB_r {μ : Mm} {i : Nat} (h : μ.1 307 = fun _ => jv 0) : (mB μ).1 307 i = jv (R0 i) := by
  by_cases hi : i < 8
  · have : i = 0 ∨ i = 1 ∨ i = 2 ∨ i = 3 ∨ i = 4 ∨ i = 5 ∨ i = 6 ∨ i = 7 := by omega
    rcases this with rfl | rfl | rfl | rfl | rfl | rfl | rfl | rfl <;> simp [mB, sI] <;> rfl
  · rw [mB_o (by omega), h, R0_0 (by omega)]
theorem start (n : Nat) (hn : 120000 ≤ n) : ∃ μ1 μ2, sh_X1_layAnew n 38 11 mS = some μ1 ∧ Fm (PLy 38) mS μ1 ∧ sh_X12_begin 307 μ1 = some μ2 ∧ sI (sI (sI μ2 307 0 60) 307 1 40) 307 2 40 = mB μ1 ∧ IV (mB μ1) := by
  have hc : CB 11 mS R0 0 0 := cb0 okB11 (fun i hi => rfl) ⟨rfl, rfl, rfl⟩
  have okL : okLy 38 := ⟨⟨rfl, rfl, rfl, rfl, rfl, rfl⟩, ⟨rfl, rfl, rfl, rfl⟩, ⟨rfl, rfl, rfl, rfl, rfl, rfl, rfl, rfl, rfl⟩⟩
  obtain ⟨μ1, h1, h2, h3⟩ := layA (n := n) (by omega) (wb0 500) (by omega) (t := 38) okL (by omega) hc
  refine ⟨μ1, _, h1, h2, rfl, rfl, [], [], R0, 0, 0, ?_⟩
  have hz : ∀ k j, k < 38 ∨ 80 ≤ k → ¬ (k = 307 ∧ j < 8) → (mB μ1).1 k j = mS.1 k j := fun k j hk hj => by
    rw [mB_o hj]
    exact h2.2 k j (by show ¬ (38 ≤ k ∧ k < 38 + 42); omega)
  have hr : ∀ i, (mB μ1).1 307 i = jv (R0 i) := fun i => mB_r (by funext j; exact h2.2 307 j (by show ¬ (38 ≤ 307 ∧ 307 < 38 + 42); omega))
  have g : Fm (fun k j => k = 307 ∧ j < 8) μ1 (mB μ1) := ⟨rfl, fun k j h => mB_o h⟩
  refine ⟨⟨wb0 500, cb0 okB11 (fun i hi => (hz 13 i (by omega) (by omega)).trans rfl) ⟨hz 11 1 (by omega) (by omega), hz 11 2 (by omega) (by omega), hz 11 3 (by omega) (by omega)⟩, fun i _ => hr i, ⟨⟨hz 10 2 (by omega) (by omega), Or.inl rfl⟩, R0, 0, 0, wb0 500, cb0 okB24 (fun i hi => (hz 26 i (by omega) (by omega)).trans rfl) ⟨hz 24 1 (by omega) (by omega), hz 24 2 (by omega) (by omega), hz 24 3 (by omega) (by omega)⟩, fun h => absurd h (by decide), fun s hs => absurd hs (Nat.not_lt_zero s)⟩⟩, h3.kp g (fun q j a b y => by omega), ?_, ⟨⟨Nat.zero_le _, hz 1 1 (by omega) (by omega), fun i hi => absurd hi (Nat.not_lt_zero i)⟩, ⟨Nat.zero_le _, fun i hi => absurd hi (Nat.not_lt_zero i), hz 306 5 (by omega) (by omega), fun i hi => absurd hi (Nat.not_lt_zero i)⟩, ⟨Nat.zero_le _, hz 3 1 (by omega) (by omega), fun i hi => absurd hi (Nat.not_lt_zero i)⟩, ⟨hz 306 49 (by omega) (by omega), fun i hi => absurd hi (Nat.not_lt_zero i)⟩, (hz 0 3 (by omega) (by omega)).trans (hz 306 11 (by omega) (by omega)).symm, (hz 0 4 (by omega) (by omega)).trans (hz 306 12 (by omega) (by omega)).symm⟩, 0, 0, Nat.zero_le _, by omega, hz 0 8 (by omega) (by omega), hz 0 7 (by omega) (by omega), hz 306 47 (by omega) (by omega), fun j hj => absurd hj (Nat.not_lt_zero j)⟩
  show (mB μ1).2.2 0 = 307
  rw [g.1, h2.1]
  rfl
