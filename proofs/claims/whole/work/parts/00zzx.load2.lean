/-! A TEXT LOADED, by both -/
section LD2
variable {n : Nat} {I O : List Int} {R : Nat → Int} {N fr : Nat}
/-- the class's trial book emptied -/
theorem empC (μ : Mm) : ∃ μ1, sh_X0_empty 85 μ = some μ1 ∧ (∀ i, 3 ≤ i → i < 8 → μ1.1 87 i = jv (Z0 i)) ∧ (μ1.1 85 1 = jv 0 ∧ μ1.1 85 2 = jv 0 ∧ μ1.1 85 3 = jv 0) ∧ Fm (fun k _ => k = 85 ∨ k = 87) μ μ1 := by
  have l87 : ln (86 + 1) = 8 := rfl
  have pp : ∀ (ν : Mm) (i : Nat) (v : Int), i < 8 → sh_X5_put (85 + 1) (jv i) (jv v) ν = some (sI ν 87 i (jv v)) := fun ν i v hi => by
    have := p5_in (t := 86) (a := (i : Int)) (v := jv v) (μ := ν) (by omega) (by omega)
    rw [Int.toNat_natCast] at this
    exact this
  have q0 : ∀ ν : Mm, sh_X5_put (85 + 1) (0 : Int32) (60 : Int32) ν = some (sI ν 87 0 (jv 60)) := fun ν => pp ν 0 60 (by omega)
  have q1 : ∀ ν : Mm, sh_X5_put (85 + 1) (1 : Int32) (40 : Int32) ν = some (sI ν 87 1 (jv 40)) := fun ν => pp ν 1 40 (by omega)
  have q2 : ∀ ν : Mm, sh_X5_put (85 + 1) (2 : Int32) (40 : Int32) ν = some (sI ν 87 2 (jv 40)) := fun ν => pp ν 2 40 (by omega)
  have q3 : ∀ ν : Mm, sh_X5_put (85 + 1) (3 : Int32) (2 : Int32) ν = some (sI ν 87 3 (jv 2)) := fun ν => pp ν 3 2 (by omega)
  have q4 : ∀ ν : Mm, sh_X5_put (85 + 1) (4 : Int32) (3 : Int32) ν = some (sI ν 87 4 (jv 3)) := fun ν => pp ν 4 3 (by omega)
  have q5 : ∀ ν : Mm, sh_X5_put (85 + 1) (5 : Int32) (1 : Int32) ν = some (sI ν 87 5 (jv 1)) := fun ν => pp ν 5 1 (by omega)
  have q6 : ∀ ν : Mm, sh_X5_put (85 + 1) (6 : Int32) (2 : Int32) ν = some (sI ν 87 6 (jv 2)) := fun ν => pp ν 6 2 (by omega)
  have q7 : ∀ ν : Mm, sh_X5_put (85 + 1) (7 : Int32) (3 : Int32) ν = some (sI ν 87 7 (jv 3)) := fun ν => pp ν 7 3 (by omega)
  have q8 : ∀ ν : Mm, pz ν 85 1 (0 : Int32) = some (sI ν 85 1 (jv 0)) := fun ν => pz_jv (Or.inl rfl)
  unfold sh_X0_empty
  rw [q0, Option.bind_some, q1, Option.bind_some, q2, Option.bind_some, q3, Option.bind_some, q4, Option.bind_some, q5, Option.bind_some, q6, Option.bind_some, q7, Option.bind_some, q8, Option.bind_some, pt_eq, Option.bind_some, pt_eq, Option.bind_some]
  refine ⟨_, rfl, fun i h1 h2 => ?_, ⟨?_, ?_, ?_⟩, ?_⟩
  · rcases (by omega : i = 3 ∨ i = 4 ∨ i = 5 ∨ i = 6 ∨ i = 7) with rfl | rfl | rfl | rfl | rfl
    · simp only [sI_1]; rfl
    · simp only [sI_1]; rfl
    · simp only [sI_1]; rfl
    · simp only [sI_1]; rfl
    · simp only [sI_1]; rfl
  · rw [sI_1, if_neg (by omega), sI_1, if_neg (by omega), sI_1, if_pos ⟨rfl, rfl⟩]
  · rw [sI_1, if_neg (by omega), sI_1, if_pos ⟨rfl, rfl⟩]
    rfl
  · rw [sI_1, if_pos ⟨rfl, rfl⟩]
    rfl
  · exact ((((((((((Fm.rf.sI (Or.inr rfl)).sI (Or.inr rfl)).sI (Or.inr rfl)).sI (Or.inr rfl)).sI (Or.inr rfl)).sI (Or.inr rfl)).sI (Or.inr rfl)).sI (Or.inr rfl)).sI (Or.inl rfl)).sI (Or.inl rfl)).sI (Or.inl rfl)
/-- the model's draft emptied -/
theorem ld50 : ∀ (k f i : Nat) (ν : Mm), i + k = 2460 → k < f → ∃ ν1, sh_X12_load_50 n f (jv i) ν = sh_X12_load_50 n 1 (jv 2460) ν1 ∧ (∀ j, j < 2460 → ν1.1 308 j = if i ≤ j then jv 0 else ν.1 308 j) ∧ Fm (fun k _ => k = 308) ν ν1 := by
  have l308 : ln 308 = 2460 := rfl
  intro k
  induction k with
  | zero =>
    intro f i ν hi hf
    obtain ⟨f, rfl⟩ : ∃ g, f = g + 1 := ⟨f - 1, by omega⟩
    refine ⟨ν, ?_, fun j hj => by rw [if_neg (by omega)], Fm.rf⟩
    have ei : i = 2460 := by omega
    subst ei
    show sh_X12_load_50 n (f + 1) (jv 2460) ν = sh_X12_load_50 n (0 + 1) (jv 2460) ν
    rw [sh_X12_load_50, sh_X12_load_50, jv_lit (nat_lit 2460), if_pos (Int32.le_refl _), if_pos (Int32.le_refl _)]
  | succ k ih =>
    intro f i ν hi hf
    obtain ⟨f, rfl⟩ : ∃ g, f = g + 1 := ⟨f - 1, by omega⟩
    have f0 : Fm (fun k _ => k = 308) ν (sI ν 308 i (jv 0)) := Fm.rf.sI rfl
    obtain ⟨ν1, e1, a1, a2⟩ := ih f (i + 1) (sI ν 308 i (jv 0)) (by omega) (by omega)
    refine ⟨ν1, ?_, fun j hj => ?_, f0.tr a2 (fun _ _ y => y)⟩
    · rw [sh_X12_load_50, jv_lit (nat_lit 2460), if_neg (by rw [jv_le] <;> omega), jv_lit (nat_lit 0), st_jv (by omega) (by omega), Option.bind_some, Int.toNat_natCast, jv_lit (nat_lit 1), jv_add, show (i : Int) + 1 = ((i + 1 : Nat) : Int) by omega]
      exact e1
    · rw [a1 j hj, sI_1]
      by_cases z : j = i
      · rw [if_neg (by omega), if_pos ⟨rfl, z⟩, if_pos (by omega)]
      · by_cases y : i + 1 ≤ j
        · rw [if_pos y, if_pos (by omega)]
        · rw [if_neg y, if_neg (fun q => z q.2), if_neg (by omega)]
theorem beM {ν : Mm} (h : ∀ j, j < 2460 → ν.1 308 j = jv 0) : ∃ ν1, sh_X12_begin 308 ν = some ν1 ∧ (∀ j, j < 2460 → ν1.1 308 j = jv (Z0 j)) ∧ Fm (fun k _ => k = 308) ν ν1 := by
  have l308 : ln 308 = 2460 := rfl
  unfold sh_X12_begin
  simp only [jv_lit]
  rw [st_jv (by omega) (by omega), Option.bind_some, st_jv (by omega) (by omega), Option.bind_some, st_jv (by omega) (by omega), Option.bind_some, st_jv (by omega) (by omega), Option.bind_some, st_jv (by omega) (by omega), Option.bind_some]
  have FF : ∀ (a b c d e : Nat) (v1 v2 v3 v4 v5 : Int32), Fm (fun k _ => k = 308) ν (sI (sI (sI (sI (sI ν 308 a v1) 308 b v2) 308 c v3) 308 d v4) 308 e v5) := fun a b c d e v1 v2 v3 v4 v5 => (((((Fm.rf (P := fun k _ => k = 308) (μ := ν)).sI (k0 := 308) (j0 := a) rfl).sI (k0 := 308) (j0 := b) rfl).sI (k0 := 308) (j0 := c) rfl).sI (k0 := 308) (j0 := d) rfl).sI (k0 := 308) (j0 := e) rfl
  refine ⟨_, rfl, fun j hj => ?_, FF _ _ _ _ _ _ _ _ _ _⟩
  rw [sI_1, sI_1, sI_1, sI_1, sI_1]
  unfold Z0
  by_cases z7 : j = 7
  · rw [if_pos ⟨rfl, z7⟩, if_neg (by omega), if_neg (by omega), if_neg (by omega), if_neg (by omega), if_pos z7]
  · rw [if_neg (fun q => z7 q.2)]
    by_cases z6 : j = 6
    · rw [if_pos ⟨rfl, z6⟩, if_neg (by omega), if_neg (by omega), if_neg (by omega), if_pos z6]
    · rw [if_neg (fun q => z6 q.2)]
      by_cases z5 : j = 5
      · rw [if_pos ⟨rfl, z5⟩, if_neg (by omega), if_neg (by omega), if_pos z5]
      · rw [if_neg (fun q => z5 q.2)]
        by_cases z4 : j = 4
        · rw [if_pos ⟨rfl, z4⟩, if_neg (by omega), if_pos z4]
        · rw [if_neg (fun q => z4 q.2)]
          by_cases z3 : j = 3
          · rw [if_pos ⟨rfl, z3⟩, if_pos z3]
          · rw [if_neg (fun q => z3 q.2), if_neg z3, if_neg z4, if_neg z5, if_neg z6, if_neg z7, h j hj]
def tlM (n : Nat) (ν : Mm) : Option (Int32 × Mm) := (sh_X12_word n 0 ν).bind fun r13 => (sh_X12_numberBehind n 1 (20 : Int32) (120 : Int32) r13).bind fun r15 => (st r15.2 (r13.2.2 0) (0 : Int32) r15.1).bind fun μ16 => (sh_X12_numberBehind n 2 (2 : Int32) (60 : Int32) μ16).bind fun r18 => (st r18.2 (μ16.2.2 0) (1 : Int32) r18.1).bind fun μ19 => (sh_X12_numberBehind n 3 (5 : Int32) (99 : Int32) μ19).bind fun r21 => (st r21.2 (μ19.2.2 0) (2 : Int32) r21.1).bind fun μ22 => (sh_X12_semicolon n μ22).bind fun r23 => sh_X12_load_146 n n r23
/-- the model at the text's first token -/
theorem ld0 (hn : 3000 ≤ n) {ξ : Mm} (hi : Ix ξ I) : ∃ ν0, sh_X12_load n ξ = tlM n ν0 ∧ GD ν0 ∧ TM ν0 I 0 ∧ MB 308 ν0 Z0 ∧ (ν0.1 306 14 = jv 0 ∧ ν0.1 306 15 = jv 0 ∧ ν0.1 306 13 = jv 0) ∧ ν0.1 306 5 = jv 0 ∧ (∀ k j, ¬ (k = 306 ∧ (j = 0 ∨ 5 ≤ j ∧ j ≤ 15) ∨ k = 308) → ν0.1 k j = ξ.1 k j) ∧ ν0.2.1 = ξ.2.1 ∧ ∀ a, ν0.2.2 a = if a = 0 then 308 else ξ.2.2 a := by
  have hl := hi.1
  have f9 : Fm (fun k j => k = 306 ∧ (j = 0 ∨ 5 ≤ j ∧ j ≤ 15)) ξ (sI (sI (sI (sI (sI (sI (sI (sI (sI ξ 306 0 (jv 0)) 306 6 (ξ.1 306 5)) 306 5 (jv 0)) 306 7 (jv 0)) 306 11 (jv 0)) 306 12 (jv (-1))) 306 13 (jv 0)) 306 14 (jv 0)) 306 15 (jv 0)) := ((((((((Fm.rf.sI (by omega)).sI (by omega)).sI (by omega)).sI (by omega)).sI (by omega)).sI (by omega)).sI (by omega)).sI (by omega)).sI (by omega)
  have ez : ∀ ν k j, pz ν k j (jv 0) = some (sI ν k j (jv 0)) := fun ν k j => pz_jv (Or.inl rfl)
  unfold sh_X12_load
  rw [ng1]
  simp only [jv_lit]
  rw [pt_eq, Option.bind_some, show (sI ξ 306 0 (jv 0)).1 306 5 = ξ.1 306 5 from rfl, pt_eq, Option.bind_some, pt_eq, Option.bind_some, pt_eq, Option.bind_some, pt_eq, Option.bind_some, pt_eq, Option.bind_some, ez, Option.bind_some, ez, Option.bind_some, ez, Option.bind_some]
  have v5 : (sI (sI (sI (sI (sI (sI (sI (sI (sI ξ 306 0 (jv 0)) 306 6 (ξ.1 306 5)) 306 5 (jv 0)) 306 7 (jv 0)) 306 11 (jv 0)) 306 12 (jv (-1))) 306 13 (jv 0)) 306 14 (jv 0)) 306 15 (jv 0)).1 306 5 = jv 0 := rfl
  have v6 : (sI (sI (sI (sI (sI (sI (sI (sI (sI ξ 306 0 (jv 0)) 306 6 (ξ.1 306 5)) 306 5 (jv 0)) 306 7 (jv 0)) 306 11 (jv 0)) 306 12 (jv (-1))) 306 13 (jv 0)) 306 14 (jv 0)) 306 15 (jv 0)).1 306 6 = ξ.1 306 5 := rfl
  have v7 : (sI (sI (sI (sI (sI (sI (sI (sI (sI ξ 306 0 (jv 0)) 306 6 (ξ.1 306 5)) 306 5 (jv 0)) 306 7 (jv 0)) 306 11 (jv 0)) 306 12 (jv (-1))) 306 13 (jv 0)) 306 14 (jv 0)) 306 15 (jv 0)).1 306 7 = jv 0 := rfl
  have v11 : (sI (sI (sI (sI (sI (sI (sI (sI (sI ξ 306 0 (jv 0)) 306 6 (ξ.1 306 5)) 306 5 (jv 0)) 306 7 (jv 0)) 306 11 (jv 0)) 306 12 (jv (-1))) 306 13 (jv 0)) 306 14 (jv 0)) 306 15 (jv 0)).1 306 11 = jv 0 := rfl
  have v12 : (sI (sI (sI (sI (sI (sI (sI (sI (sI ξ 306 0 (jv 0)) 306 6 (ξ.1 306 5)) 306 5 (jv 0)) 306 7 (jv 0)) 306 11 (jv 0)) 306 12 (jv (-1))) 306 13 (jv 0)) 306 14 (jv 0)) 306 15 (jv 0)).1 306 12 = jv (-1) := rfl
  have v13 : (sI (sI (sI (sI (sI (sI (sI (sI (sI ξ 306 0 (jv 0)) 306 6 (ξ.1 306 5)) 306 5 (jv 0)) 306 7 (jv 0)) 306 11 (jv 0)) 306 12 (jv (-1))) 306 13 (jv 0)) 306 14 (jv 0)) 306 15 (jv 0)).1 306 13 = jv 0 := rfl
  have v14 : (sI (sI (sI (sI (sI (sI (sI (sI (sI ξ 306 0 (jv 0)) 306 6 (ξ.1 306 5)) 306 5 (jv 0)) 306 7 (jv 0)) 306 11 (jv 0)) 306 12 (jv (-1))) 306 13 (jv 0)) 306 14 (jv 0)) 306 15 (jv 0)).1 306 14 = jv 0 := rfl
  have v15 : (sI (sI (sI (sI (sI (sI (sI (sI (sI ξ 306 0 (jv 0)) 306 6 (ξ.1 306 5)) 306 5 (jv 0)) 306 7 (jv 0)) 306 11 (jv 0)) 306 12 (jv (-1))) 306 13 (jv 0)) 306 14 (jv 0)) 306 15 (jv 0)).1 306 15 = jv 0 := rfl
  generalize (sI (sI (sI (sI (sI (sI (sI (sI (sI ξ 306 0 (jv 0)) 306 6 (ξ.1 306 5)) 306 5 (jv 0)) 306 7 (jv 0)) 306 11 (jv 0)) 306 12 (jv (-1))) 306 13 (jv 0)) 306 14 (jv 0)) 306 15 (jv 0)) = ν9 at *
  obtain ⟨ν1, e1, a1, g1⟩ := ld50 (n := n) 2460 n 0 ν9 (by omega) (by omega)
  have e1' : sh_X12_load_50 n n (jv 0) ν9 = _ := e1
  obtain ⟨ν2, e2, a2, g2⟩ := beM (ν := ν1) (fun j hj => by rw [a1 j hj, if_pos (Nat.zero_le _)])
  have G2 : Fm (fun k _ => k = 308) ν9 ν2 := g1.tr g2 (fun _ _ y => y)
  have im : IM (sR ν2 0 308) I := by
    refine ⟨hl, hi.2.1, ?_, fun i hi2 => ?_⟩
    · show ν2.1 306 6 = _
      rw [G2.at _ _ (by omega), v6]
      exact hi.2.2.1
    · show ν2.1 309 i = _
      rw [G2.at _ _ (by omega), f9.at _ _ (by omega)]
      exact hi.2.2.2 i hi2
  obtain ⟨ν3, e3, m3, g3⟩ := scM (n := n) (by omega) im (p := 0) (Nat.zero_le _) (by
    show ν2.1 306 7 = _
    rw [G2.at _ _ (by omega), v7]
    rfl)
  have k : ∀ a b, ¬ (a = 306 ∧ 7 ≤ b ∧ b ≤ 10) → ν3.1 a b = ν2.1 a b := fun a b q => g3.at a b q
  refine ⟨ν3, ?_, ⟨?_, ?_⟩, m3, ⟨Or.inr rfl, ?_, fun i hi2 => ?_⟩, ⟨?_, ?_, ?_⟩, ?_, fun a b q => ?_, ?_, fun a => ?_⟩
  · rw [e1']
    show sh_X12_load_50 n (0 + 1) (jv 2460) ν1 = _
    rw [sh_X12_load_50, jv_lit (nat_lit 2460), if_pos (Int32.le_refl _), e2, Option.bind_some, Option.bind_some, e3, Option.bind_some]
    rfl
  · rw [k _ _ (by omega), G2.at _ _ (by omega), v11]
  · rw [k _ _ (by omega), G2.at _ _ (by omega), v12]
  · rw [g3.1]; rfl
  · rw [k _ _ (by omega)]
    exact a2 i hi2
  · rw [k _ _ (by omega), G2.at _ _ (by omega), v14]
  · rw [k _ _ (by omega), G2.at _ _ (by omega), v15]
  · rw [k _ _ (by omega), G2.at _ _ (by omega), v13]
  · rw [k _ _ (by omega), G2.at _ _ (by omega), v5]
  · rw [k _ _ (by omega), G2.at _ _ (by omega), f9.at _ _ (by omega)]
  · rw [g3.1]
    show ν2.2.1 = _
    rw [G2.1, f9.1]
  · rw [g3.1]
    show (if a = 0 then 308 else ν2.2.2 a) = _
    rw [G2.1, f9.1]
/-- the draft taken over by the model -/
theorem ld191 : ∀ (k f i : Nat) (ν : Mm), i + k = 2460 → k < f → ∃ ν1, sh_X12_load_191 n f (jv i) ν = some (ν1.1 307 9, ν1) ∧ (∀ x, x < 2460 → ν1.1 307 x = if i ≤ x then ν.1 308 x else ν.1 307 x) ∧ Fm (fun k j => k = 307 ∧ j < 2460) ν ν1 := by
  have l307 : ln 307 = 18701 := rfl
  have l308 : ln 308 = 2460 := rfl
  intro k
  induction k with
  | zero =>
    intro f i ν hi hf
    obtain ⟨f, rfl⟩ : ∃ g, f = g + 1 := ⟨f - 1, by omega⟩
    refine ⟨ν, ?_, fun x hx => by rw [if_neg (by omega)], Fm.rf⟩
    rw [sh_X12_load_191, jv_lit (nat_lit 2460), if_pos (by rw [jv_le] <;> omega), jv_lit (nat_lit 9), ld_jv (by omega) (by omega), Option.bind_some]
    rfl
  | succ k ih =>
    intro f i ν hi hf
    obtain ⟨f, rfl⟩ : ∃ g, f = g + 1 := ⟨f - 1, by omega⟩
    have f0 : Fm (fun k j => k = 307 ∧ j < 2460) ν (sI ν 307 i (ν.1 308 i)) := Fm.rf.sI ⟨rfl, by omega⟩
    obtain ⟨ν1, e1, a1, a2⟩ := ih f (i + 1) (sI ν 307 i (ν.1 308 i)) (by omega) (by omega)
    refine ⟨ν1, ?_, fun x hx => ?_, f0.tr a2 (fun _ _ y => y)⟩
    · rw [sh_X12_load_191, jv_lit (nat_lit 2460), if_neg (by rw [jv_le] <;> omega), ld_jv (by omega) (by omega), Option.bind_some, st_jv (by omega) (by omega), Option.bind_some, Int.toNat_natCast, jv_lit (nat_lit 1), jv_add, show (i : Int) + 1 = ((i + 1 : Nat) : Int) by omega]
      exact e1
    · rw [a1 x hx, sI_1, sI_1]
      by_cases z : x = i
      · rw [if_neg (by omega), if_pos ⟨rfl, z⟩, if_pos (by omega), z]
      · by_cases y : i + 1 ≤ x
        · rw [if_pos y, if_neg (by omega), if_pos (by omega)]
        · rw [if_neg y, if_neg (fun q => z q.2), if_neg (by omega)]
/-- both read the whole text -/
theorem rd2 (hn : 3000 ≤ n) {μ ν : Mm} (hc : TC μ I 0) (hg : GD ν) (hm : TM ν I 0) (hmb : MB 308 ν Z0) (hf : JF μ ν 0 0 0) (h87 : ∀ i, 3 ≤ i → i < 8 → μ.1 87 i = jv (Z0 i)) (h85 : μ.1 85 1 = jv 0 ∧ μ.1 85 2 = jv 0 ∧ μ.1 85 3 = jv 0) (h5 : FC μ 0 (-1)) : ∃ v μ1 ν1, ((sh_X4_bookStatement n 85 μ).bind fun r6 => if r6.1 = (0 : Int32) then some ((0 : Int32), r6.2) else sh_X4_readBook_36 n 1 85 n (0 : Int32) r6.2) = some (v, μ1) ∧ Fw PJc QJc μ μ1 ∧ tlM n ν = sh_X12_load_167 n ν1 ∧ Fm PJm ν ν1 ∧ ((v = 0 ∧ JB μ1 ν1) ∨ (v = 1 ∧ ∃ p' sty rgt man R N fr, J I μ1 ν1 p' sty rgt man R N fr)) := by
  have hl := hc.len
  obtain ⟨v, μ1, ν1, e1, f1, K, g1, o1⟩ := bk2 (n := n) (by omega) hc hg hm hmb hf ⟨rfl, rfl, rfl, rfl, rfl, rfl⟩ h87 h85 h5
  have d1 : tlM n ν = sh_X12_load_146 n n ν1 := K (fun r23 => sh_X12_load_146 n n r23)
  rw [e1, Option.bind_some, d1]
  rcases o1 with ⟨w, c, z, hF, hB⟩ | ⟨w, p', s', r', m', R', N', fr', j1⟩
  · obtain ⟨g, rfl⟩ : ∃ r, n = r + 1 := ⟨n - 1, by omega⟩
    refine ⟨0, μ1, ν1, by rw [w, if_pos rfl], f1, ?_, g1, Or.inl ⟨rfl, c, z, hF, hB⟩⟩
    rw [sh_X12_load_146, hB.g, Option.bind_some, if_pos rfl]
  · obtain ⟨v2, μ2, ν2, e2, f2, d2, g2, o2⟩ := lpJ (n := n) (by omega) I.length n n 0 p' s' r' m' R' N' fr' μ1 ν1 (by omega) (Nat.zero_le _) (by omega) (by omega) j1
    have e2' : sh_X4_readBook_36 n 1 85 n (0 : Int32) μ1 = _ := e2
    exact ⟨v2, μ2, ν2, by rw [w, if_neg (show ¬ (1 : Int32) = 0 by decide)]; exact e2', f1.tr f2 (fun _ _ y => y) (fun _ y => y), d2, g1.tr g2 (fun _ _ y => y), o2⟩
/-- what the class does with a book that it has read -/
theorem ldC (hn : 30 ≤ n) {μ : Mm} {B : Nat → Int32} {u nx : Nat} (hs : SNR 10 μ B R N fr) (hL : okLy 38) (hu : u ≤ 6) (hnx : nx < 6) (h8 : μ.1 0 8 = jv u) (h7 : μ.1 0 7 = jv nx) {R' : Nat → Int} {N' fr' : Nat} (hw : WB 500 R' N' fr') (hb : CB 85 μ R' N' fr') : ∃ μ5 μ8, sh_X11_keepForUndo μ = some μ5 ∧ ((sh_X0_take 11 85 μ5).bind fun r7 => (pz r7 10 2 (0 : Int32)).bind fun μ8 => (sh_X1_layAnew n 38 11 μ8).bind fun r9 => some ((r9.1 11 2), r9)) = some (jv N', μ8) ∧ CB 11 μ8 R' N' fr' ∧ LY 38 μ8 R' N' fr' ∧ (∀ i, i < 24 → μ8.1 23 i = μ.1 97 i) ∧ μ8.1 10 2 = jv 0 ∧ Fw (fun k j => k = 0 ∧ (j = 7 ∨ j = 8) ∨ 144 ≤ k ∧ k ≤ 305) (fun k => 144 ≤ k ∧ k ≤ 305) μ μ5 ∧ Fw (fun k j => k = 10 ∧ j = 2 ∨ 11 ≤ k ∧ k ≤ 23 ∨ 38 ≤ k ∧ k ≤ 79) (fun k => k = 21) μ5 μ8 := by
  obtain ⟨μ5, e5, s5, a7, a8, f5⟩ := kfu (nx := nx) (u := u) hs hu hnx h8 h7
  have F5 : Fw (fun k j => k = 0 ∧ (j = 7 ∨ j = 8) ∨ 144 ≤ k ∧ k ≤ 305) (fun k => 144 ≤ k ∧ k ≤ 305) μ μ5 := f5.mono (fun k j y => by omega) (fun k y => by omega)
  obtain ⟨μ6, e6, b6, o6, f6⟩ := tkB (t := 11) (a := 85) (by omega) ⟨rfl, rfl, rfl, rfl, rfl, rfl⟩ hw (hb.fw F5 (fun q j a b y => by omega) (fun q a b y => by omega))
  have f7 : Fm (fun k j => k = 10 ∧ j = 2) μ6 (sI μ6 10 2 (jv 0)) := Fm.rf.sI ⟨rfl, rfl⟩
  have p7 : pz μ6 10 2 (0 : Int32) = some (sI μ6 10 2 (jv 0)) := pz_jv (Or.inl rfl)
  obtain ⟨μ8, e8, f8, L8⟩ := layA (n := n) (t := 38) (kb := 11) hn hw (by omega) hL (by omega) (b6.fr f7 (fun q j a b y => by omega))
  refine ⟨μ5, μ8, e5, ?_, (b6.fr f7 (fun q j a b y => by omega)).fr f8 (fun q j a b y => by omega), L8, fun i hi => ?_, ?_, F5, ((f6.mono (fun k j y => by omega) (fun k y => by omega)).tr (Fw.of (Q := fun _ => False) f7) (fun k j y => by omega) (fun _ y => y.elim)).tr (Fw.of (Q := fun _ => False) f8) (fun k j y => by omega) (fun _ y => y.elim)⟩
  · rw [e6, Option.bind_some, p7, Option.bind_some, e8, Option.bind_some, f8.at _ _ (by omega), f7.at _ _ (by omega), b6.2.2.1.2.1]
  · rw [f8.at _ _ (by omega), f7.at _ _ (by omega)]
    exact (o6 i hi).trans (F5.1 _ _ (by omega))
  · rw [f8.at _ _ (by omega), sI_1, if_pos ⟨rfl, rfl⟩]
theorem q_load (hn : 120000 ≤ n) {μ : Mm} (h : ST μ I O R N fr) : Qsn μ (sh_X11_load n μ) (sh_X12_load n) := by
  have hr := h.sr
  obtain ⟨hsn, hL, h22, hio, hun⟩ := id hr
  have ho : okI I := hio.2.1.2.1
  have hl := hio.1.1
  -- the class at the first token
  obtain ⟨μe, ee, he1, he2, fe⟩ := empC μ
  have ff : Fm (fun k j => k = 5 ∧ (j = 9 ∨ j = 10 ∨ j = 11)) μe (sI (sI (sI μe 5 9 (jv 0)) 5 10 (jv 0)) 5 11 (jv 0)) := ((Fm.rf.sI (by omega)).sI (by omega)).sI (by omega)
  have w9 : (sI (sI (sI μe 5 9 (jv 0)) 5 10 (jv 0)) 5 11 (jv 0)).1 5 9 = jv 0 := rfl
  have w10 : (sI (sI (sI μe 5 9 (jv 0)) 5 10 (jv 0)) 5 11 (jv 0)).1 5 10 = jv 0 := rfl
  have w11 : (sI (sI (sI μe 5 9 (jv 0)) 5 10 (jv 0)) 5 11 (jv 0)).1 5 11 = jv 0 := rfl
  have ez : ∀ ν k j, pz ν k j (0 : Int32) = some (sI ν k j (jv 0)) := fun ν k j => pz_jv (Or.inl rfl)
  have er0 : sh_X4_readBook n 1 85 μ = (sh_X4_start n 1 (sI (sI (sI μe 5 9 (jv 0)) 5 10 (jv 0)) 5 11 (jv 0))).bind fun r5 => (sh_X4_bookStatement n 85 r5).bind fun r6 => if r6.1 = (0 : Int32) then some ((0 : Int32), r6.2) else sh_X4_readBook_36 n 1 85 n (0 : Int32) r6.2 := by
    unfold sh_X4_readBook
    rw [ee, Option.bind_some, ez, Option.bind_some, ez, Option.bind_some, ez, Option.bind_some]
  generalize (sI (sI (sI μe 5 9 (jv 0)) 5 10 (jv 0)) 5 11 (jv 0)) = μf at *
  have Ff : Fm (fun k j => k = 85 ∨ k = 87 ∨ k = 5) μ μf := (fe.mono (fun k j y => by omega)).tr ff (fun k j y => by omega)
  have hx1 : Tx 1 μ I := hio.1
  obtain ⟨μg, eg, cg, fg, hg5⟩ := stC (n := n) (by omega) (hx1.kp Ff (by omega) (fun j => by omega)) ho
  have Fg : Fw PJc QJc (sR μ 1 1) μg := by
    refine ⟨fun k j q => ?_, fun k j q => ?_, ?_⟩
    · rw [fg.at _ _ (by omega)]
      exact Ff.at _ _ (by omega)
    · rw [fg.1]
      show μf.2.1 k j = μ.2.1 k j
      rw [Ff.1]
    · rw [fg.1]
      show (sR μf 1 1).2.2 = (sR μ 1 1).2.2
      show (fun a => if a = 1 then 1 else μf.2.2 a) = (fun a => if a = 1 then 1 else μ.2.2 a)
      rw [Ff.1]
  have h87 : ∀ i, 3 ≤ i → i < 8 → μg.1 87 i = jv (Z0 i) := fun i a b => by
    rw [fg.at _ _ (by omega)]
    show μf.1 87 i = _
    rw [ff.at _ _ (by omega)]
    exact he1 i a b
  have h85 : μg.1 85 1 = jv 0 ∧ μg.1 85 2 = jv 0 ∧ μg.1 85 3 = jv 0 := by
    refine ⟨?_, ?_, ?_⟩
    · rw [fg.at _ _ (by omega)]; show μf.1 85 1 = _; rw [ff.at _ _ (by omega)]; exact he2.1
    · rw [fg.at _ _ (by omega)]; show μf.1 85 2 = _; rw [ff.at _ _ (by omega)]; exact he2.2.1
    · rw [fg.at _ _ (by omega)]; show μf.1 85 3 = _; rw [ff.at _ _ (by omega)]; exact he2.2.2
  have g9 : μg.1 5 9 = jv 0 ∧ μg.1 5 10 = jv 0 ∧ μg.1 5 11 = jv 0 := by
    refine ⟨?_, ?_, ?_⟩
    · rw [fg.at _ _ (by omega)]; exact w9
    · rw [fg.at _ _ (by omega)]; exact w10
    · rw [fg.at _ _ (by omega)]; exact w11
  have er1 : sh_X4_readBook n 1 85 μ = (sh_X4_bookStatement n 85 μg).bind fun r6 => if r6.1 = (0 : Int32) then some ((0 : Int32), r6.2) else sh_X4_readBook_36 n 1 85 n (0 : Int32) r6.2 := by
    rw [er0, eg, Option.bind_some]
  -- what both read, the model from any memory with this input
  have both : ∀ ξ : Mm, Ix ξ I → ∃ ν0, sh_X12_load n ξ = tlM n ν0 ∧ ν0.1 306 5 = jv 0 ∧ (∀ k j, ¬ (k = 306 ∧ (j = 0 ∨ 5 ≤ j ∧ j ≤ 15) ∨ k = 308) → ν0.1 k j = ξ.1 k j) ∧ ν0.2.1 = ξ.2.1 ∧ (∀ a, ν0.2.2 a = if a = 0 then 308 else ξ.2.2 a) ∧ ∃ v μ1 ν1, sh_X4_readBook n 1 85 μ = some (v, μ1) ∧ Fw PJc QJc μg μ1 ∧ tlM n ν0 = sh_X12_load_167 n ν1 ∧ Fm PJm ν0 ν1 ∧ ((v = 0 ∧ JB μ1 ν1) ∨ (v = 1 ∧ ∃ p' sty rgt man R N fr, J I μ1 ν1 p' sty rgt man R N fr)) := by
    intro ξ hξ
    obtain ⟨ν0, d0, k0, m0, b0, ⟨t14, t15, t13⟩, t5, q1, q2, q3⟩ := ld0 (n := n) (by omega) hξ
    obtain ⟨v, μ1, ν1, e1, f1, d1, g1, o1⟩ := rd2 (n := n) (by omega) cg k0 m0 b0 ⟨⟨Or.inl rfl, Or.inl rfl, Or.inl rfl⟩, g9, t14, t15, t13⟩ h87 h85 hg5
    exact ⟨ν0, d0, t5, q1, q2, q3, v, μ1, ν1, by rw [er1]; exact e1, f1, d1, g1, o1⟩
  obtain ⟨_, _, _, _, _, _, v, μ1, _, e1, f1, _, _, o1⟩ := both (sR μ 1 1) hio.2.1
  -- the class behind its reading
  have F1 : Fw PJc QJc (sR μ 1 1) μ1 := Fg.tr f1 (fun _ _ y => y) (fun _ y => y)
  have f4 : Fm (fun k j => k = 1 ∧ j = 1 ∨ k = 0 ∧ (j = 3 ∨ j = 4)) μ1 (sI (sI (sI μ1 1 1 (jv 0)) 0 3 (μ1.1 5 0)) 0 4 (μ1.1 5 1)) := ((Fm.rf.sI (by omega)).sI (by omega)).sI (by omega)
  have x1 : (sI (sI (sI μ1 1 1 (jv 0)) 0 3 (μ1.1 5 0)) 0 4 (μ1.1 5 1)).1 1 1 = jv 0 := rfl
  have x3 : (sI (sI (sI μ1 1 1 (jv 0)) 0 3 (μ1.1 5 0)) 0 4 (μ1.1 5 1)).1 0 3 = μ1.1 5 0 := rfl
  have x4 : (sI (sI (sI μ1 1 1 (jv 0)) 0 3 (μ1.1 5 0)) 0 4 (μ1.1 5 1)).1 0 4 = μ1.1 5 1 := rfl
  have eC : sh_X11_load n μ = if v = (0 : Int32) then some ((-4 : Int32), sI (sI (sI μ1 1 1 (jv 0)) 0 3 (μ1.1 5 0)) 0 4 (μ1.1 5 1)) else (sh_X11_keepForUndo (sI (sI (sI μ1 1 1 (jv 0)) 0 3 (μ1.1 5 0)) 0 4 (μ1.1 5 1))).bind fun r6 => (sh_X0_take 11 85 r6).bind fun r7 => (pz r7 10 2 (0 : Int32)).bind fun μ8 => (sh_X1_layAnew n 38 11 μ8).bind fun r9 => some ((r9.1 11 2), r9) := by
    unfold sh_X11_load
    rw [e1, Option.bind_some]
    simp only [nm_eq]
    unfold sh_X8_cut
    rw [jv_lit (nat_lit 0), pt_eq, Option.bind_some, Option.bind_some, pt_eq, Option.bind_some, pt_eq, Option.bind_some]
    rfl
  rw [eC]
  generalize (sI (sI (sI μ1 1 1 (jv 0)) 0 3 (μ1.1 5 0)) 0 4 (μ1.1 5 1)) = μ4 at *
  have F4 : Fw (fun k j => PJc k j ∨ k = 1 ∧ j = 1 ∨ k = 0 ∧ (j = 3 ∨ j = 4)) QJc (sR μ 1 1) μ4 := (F1.mono (fun k j y => Or.inl y) (fun _ y => y)).tr (Fw.of (Q := fun _ => False) f4) (fun k j y => by omega) (fun _ y => y.elim)
  have h0 : (sR μ 1 1).2.2 0 = 307 := h22
  -- the model's memory behind all
  have eaF : ∀ νF : Mm, νF.1 1 1 = jv 0 → νF.1 306 5 = jv 0 → (∀ k j, (k = 3 ∨ k = 4 ∨ k = 306 ∧ j = 49 ∨ k = 330) → νF.1 k j = (sR μ 1 1).1 k j) → νF.1 0 3 = νF.1 306 11 → νF.1 0 4 = νF.1 306 12 → EA νF [] O := by
    intro νF a1 a2 a3 a4 a5
    obtain ⟨_, _, ⟨c1, c2, c3⟩, ⟨d1, d2⟩, _⟩ := id hio
    exact ⟨⟨Nat.zero_le _, a1, fun i hi => absurd hi (by show ¬ i < 0; omega)⟩, ⟨Nat.zero_le _, fun i hi => absurd hi (by show ¬ i < 0; omega), a2, fun i hi => absurd hi (by show ¬ i < 0; omega)⟩, ⟨c1, by rw [a3 _ _ (by omega), c2], fun i hi => by rw [a3 _ _ (by omega), c3 i hi]⟩, ⟨by rw [a3 _ _ (by omega), d1], fun i hi => by rw [a3 _ _ (by omega), d2 i hi]⟩, a4, a5⟩
  rcases o1 with ⟨hv, _⟩ | ⟨hv, p', s', r', m', R1, N1, fr1, j1⟩
  · -- refused
    have i4 : Ix μ4 I := ⟨hio.2.1.1, hio.2.1.2.1, by rw [F4.1 _ _ (by omega)]; exact hio.2.1.2.2.1, fun i hi => by rw [F4.1 _ _ (by omega)]; exact hio.2.1.2.2.2 i hi⟩
    obtain ⟨ν0, d0, t5, q1, q2, q3, v', μ1', ν1, e1', f1', d1, g1, o2⟩ := both μ4 i4
    rw [e1] at e1'
    obtain ⟨rfl, rfl⟩ := Prod.mk.inj (Option.some.inj e1')
    rw [if_pos hv]
    rcases o2 with ⟨_, c, z, hF, hB⟩ | ⟨hv2, _⟩
    · have hBr : BD (sR ν1 0 307) c z := hB
      have FF : Fw (fun k j => PJc k j ∨ k = 1 ∧ j = 1 ∨ k = 0 ∧ (j = 3 ∨ j = 4) ∨ k = 306 ∧ (j = 0 ∨ 5 ≤ j ∧ j ≤ 15) ∨ k = 308) QJc (sR μ 1 1) (sR ν1 0 307) := by
        refine ⟨fun k j y => ?_, fun k j y => ?_, ?_⟩
        · show ν1.1 k j = _
          rw [g1.at _ _ (by omega), q1 _ _ (by omega), F4.1 _ _ (by omega)]
        · show ν1.2.1 k j = _
          rw [g1.1, q2, F4.2.1 _ _ y]
        · show (fun a => if a = 0 then 307 else ν1.2.2 a) = _
          funext a
          rw [g1.1, q3, F4.2.2]
          by_cases y : a = 0
          · rw [if_pos y, y, h0]
          · rw [if_neg y, if_neg y]
      refine ⟨jv (-4), μ4, sR ν1 0 307, [], O, R, N, fr, rfl, ?_, hr.ke (FF.mono (fun k j y => by omega) (fun k y => by omega)) (eaF _ ?_ ?_ (fun k j y => FF.1 _ _ (by omega)) ?_ ?_)⟩
      · rw [d0, d1]
        unfold sh_X12_load_167
        rw [Option.bind_some, hBr.g, Option.bind_some, if_pos rfl]
        rfl
      · show ν1.1 1 1 = _
        rw [g1.at _ _ (by omega), q1 _ _ (by omega), x1]
      · show ν1.1 306 5 = _
        rw [g1.at _ _ (by omega), t5]
      · show ν1.1 0 3 = ν1.1 306 11
        rw [g1.at _ _ (by omega), q1 _ _ (by omega), x3, hF.1, hB.1]
      · show ν1.1 0 4 = ν1.1 306 12
        rw [g1.at 0 4 (by omega), q1 _ _ (by omega), x4, hF.2, hB.2.2]
    · rw [hv] at hv2
      exact absurd hv2 (by decide)
  · -- taken
    obtain ⟨u, nx, hunr0⟩ := hun
    have s4 : SNR 10 μ4 (μ4.1 307) R N fr := (hsn.fw F4 (fun k j a b y => by omega) (fun k a b y => by omega)).cg (fun i _ => F4.1 _ _ (by omega))
    have un4 : UN μ4 := (show UN (sR μ 1 1) from ⟨u, nx, hunr0⟩).fw F4 (fun k j y => by omega) (fun k y => by omega)
    clear hunr0
    obtain ⟨u4, nx4, hunr⟩ := un4
    obtain ⟨hu, hnx, h8, h7, h47, hpast⟩ := id hunr
    have cb4 : ∀ (R2 : Nat → Int) (N2 fr2 : Nat), CB 85 μ1 R2 N2 fr2 → CB 85 μ4 R2 N2 fr2 := fun R2 N2 fr2 c => c.fr f4 (fun q j a b y => by omega)
    obtain ⟨μ5, μ8, e5, e8, _, _, _, _, F5, F8⟩ := ldC (n := n) (by omega) s4 hL.1 hu hnx h8 h7 j1.2.2.2.1 (cb4 _ _ _ j1.2.2.2.2.1)
    have F48 : Fw (fun k j => k = 0 ∧ (j = 7 ∨ j = 8) ∨ 144 ≤ k ∧ k ≤ 305 ∨ k = 10 ∧ j = 2 ∨ 11 ≤ k ∧ k ≤ 23 ∨ 38 ≤ k ∧ k ≤ 79) (fun k => 144 ≤ k ∧ k ≤ 305 ∨ k = 21) μ4 μ8 := (F5.mono (fun k j y => by omega) (fun k y => by omega)).tr F8 (fun k j y => by omega) (fun k y => by omega)
    have F08 : Fw (fun k j => (PJc k j ∨ k = 1 ∧ j = 1 ∨ k = 0 ∧ (j = 3 ∨ j = 4)) ∨ k = 0 ∧ (j = 7 ∨ j = 8) ∨ 144 ≤ k ∧ k ≤ 305 ∨ k = 10 ∧ j = 2 ∨ 11 ≤ k ∧ k ≤ 23 ∨ 38 ≤ k ∧ k ≤ 79) (fun k => QJc k ∨ 144 ≤ k ∧ k ≤ 305 ∨ k = 21) (sR μ 1 1) μ8 := (F4.mono (fun k j y => Or.inl y) (fun k y => Or.inl y)).tr F48 (fun k j y => Or.inr y) (fun k y => Or.inr y)
    have i8 : Ix μ8 I := ⟨hio.2.1.1, hio.2.1.2.1, by rw [F08.1 _ _ (by omega)]; exact hio.2.1.2.2.1, fun i hi => by rw [F08.1 _ _ (by omega)]; exact hio.2.1.2.2.2 i hi⟩
    obtain ⟨ν0, d0, t5, q1, q2, q3, v', μ1', ν1, e1', f1', d1, g1, o2⟩ := both μ8 i8
    rw [e1] at e1'
    obtain ⟨rfl, rfl⟩ := Prod.mk.inj (Option.some.inj e1')
    rcases o2 with ⟨hv2, _⟩ | ⟨_, p2, s2, r2, m2, R2, N2, fr2, j2⟩
    · rw [hv] at hv2
      exact absurd hv2 (by decide)
    · obtain ⟨jc, ⟨jg, jm⟩, jf, jw, jb, jmb, jh, j97, jfrm, j10, j5⟩ := j2
      obtain ⟨μ5', μ8', e5', e8', b8, L8, o8, v10, _, _⟩ := ldC (n := n) (by omega) s4 hL.1 hu hnx h8 h7 jw (cb4 _ _ _ jb)
      rw [e5] at e5'
      obtain rfl := Option.some.inj e5'
      rw [e8] at e8'
      obtain ⟨e9, rfl⟩ := Prod.mk.inj (Option.some.inj e8')
      have hNN := jw.1
      have hgr : GD (sR ν1 0 307) := jg
      -- the model remembers
      have hE : ∀ k j, ¬ (k = 306 ∧ (j = 0 ∨ 5 ≤ j ∧ j ≤ 15) ∨ k = 308) → (sR ν1 0 307).1 k j = μ8.1 k j := fun k j y => by
        show ν1.1 k j = _
        rw [g1.at _ _ (by omega), q1 _ _ (by omega)]
      have hE2 : (sR ν1 0 307).2.1 = μ8.2.1 := by
        show ν1.2.1 = _
        rw [g1.1, q2]
      have hE3 : (sR ν1 0 307).2.2 = μ8.2.2 := by
        show (fun a => if a = 0 then 307 else ν1.2.2 a) = _
        funext a
        rw [g1.1, q3]
        by_cases y : a = 0
        · rw [if_pos y, y, F08.2.2, h0]
        · rw [if_neg y, if_neg y]
      obtain ⟨ν2, d2, un2, g2⟩ := keep2 (n := n) hn (ν := sR ν1 0 307) hunr s4 e5 (fun k j y1 y2 => by rw [hE k j (by omega), F8.1 _ _ (by omega)]) (fun k j y => by rw [hE2, F8.2.1 _ _ (by omega)]) (by rw [hE3, F8.2.2])
      obtain ⟨ν3, d3, a3, g3⟩ := ld191 (n := n) 2460 n 0 ν2 (by omega) (by omega)
      have d3' : sh_X12_load_191 n n (0 : Int32) ν2 = _ := d3
      have c307 : ∀ i, i < 2460 → ν3.1 307 i = jv (R2 i) := fun i hi => by
        rw [a3 i hi, if_pos (Nat.zero_le _), g2.at _ _ (by omega)]
        show ν1.1 308 i = _
        exact jmb.2.2 i hi
      have FF : Fw (fun k j => ((PJc k j ∨ k = 1 ∧ j = 1 ∨ k = 0 ∧ (j = 3 ∨ j = 4)) ∨ k = 0 ∧ (j = 7 ∨ j = 8) ∨ 144 ≤ k ∧ k ≤ 305 ∨ k = 10 ∧ j = 2 ∨ 11 ≤ k ∧ k ≤ 23 ∨ 38 ≤ k ∧ k ≤ 79) ∨ k = 306 ∧ (j = 0 ∨ j = 47 ∨ 5 ≤ j ∧ j ≤ 15) ∨ k = 308 ∨ k = 329 ∨ k = 307 ∧ j < 2460) (fun k => QJc k ∨ 144 ≤ k ∧ k ≤ 305 ∨ k = 21) (sR μ 1 1) ν3 := by
        refine ⟨fun k j y => ?_, fun k j y => ?_, ?_⟩
        · rw [g3.at _ _ (by omega), g2.at _ _ (by omega), hE _ _ (by omega), F08.1 _ _ (by omega)]
        · rw [g3.1, g2.1, hE2, F08.2.1 _ _ y]
        · rw [g3.1, g2.1, hE3, F08.2.2]
      have F83 : ∀ k j, ¬ (k = 306 ∧ (j = 0 ∨ j = 47 ∨ 5 ≤ j ∧ j ≤ 15) ∨ k = 308 ∨ k = 329 ∨ k = 307 ∧ j < 2460) → ν3.1 k j = μ8.1 k j := fun k j y => by rw [g3.at _ _ (by omega), g2.at _ _ (by omega), hE _ _ (by omega)]
      have W83 : Fw (fun k j => k = 306 ∧ (j = 0 ∨ j = 47 ∨ 5 ≤ j ∧ j ≤ 15) ∨ k = 308 ∨ k = 329 ∨ k = 307 ∧ j < 2460) (fun _ => False) μ8 ν3 := ⟨F83, fun k j _ => by rw [g3.1, g2.1, hE2], by rw [g3.1, g2.1, hE3]⟩
      rw [hv, if_neg (show ¬ (1 : Int32) = 0 by decide), e5, Option.bind_some, e8]
      refine ⟨jv N1, μ8, ν3, [], O, R2, N2, fr2, rfl, ?_, ⟨jw, b8.fw W83 (fun q j a b y => by omega) (fun q a b y => y), c307, ?_⟩, L8.fw W83 (fun q j a b y => by omega), by rw [FF.2.2]; exact h0, eaF ν3 ?_ ?_ (fun k j y => FF.1 _ _ (by omega)) ?_ ?_, un2.fw (Fw.of (Q := fun _ => False) g3) (fun k j y => by omega) (fun _ y => y.elim)⟩
      · rw [d0, d1]
        unfold sh_X12_load_167
        rw [Option.bind_some, hgr.g, Option.bind_some, if_neg (show ¬ (1 : Int32) = 0 by decide), d2, Option.bind_some, d3', c307 9 (by omega), hNN.1, e9]
      · obtain ⟨_, Rp, Np, frp, p3, p4, p5, p6⟩ := hsn.2.2.2
        refine ⟨⟨by rw [F83 _ _ (by omega), v10, j10], Or.inl j10⟩, Rp, Np, frp, p3, p4.fw FF (fun q j a b y => by omega) (fun q a b y => by omega), fun q => by omega, fun s hs => Or.inl ⟨jfrm s hs, ?_⟩⟩
        show ν3.1 23 s = _
        rw [F83 _ _ (by omega), o8 s (by omega), f4.at _ _ (by omega)]
        exact j97 s hs
      · rw [F83 _ _ (by omega), F48.1 _ _ (by omega), x1]
      · rw [g3.at _ _ (by omega), g2.at _ _ (by omega)]
        show ν1.1 306 5 = _
        rw [g1.at _ _ (by omega), t5]
      · rw [F83 _ _ (by omega), F48.1 _ _ (by omega), x3, j5.1, g3.at _ _ (by omega), g2.at _ _ (by omega)]
        exact jg.1.symm
      · rw [F83 _ _ (by omega), F48.1 _ _ (by omega), x4, j5.2, g3.at _ _ (by omega), g2.at _ _ (by omega)]
        exact jg.2.symm
end LD2
