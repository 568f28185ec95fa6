/-! ANOTHER LEVEL of a section -/
section LVL
variable {n : Nat} {R : Nat → Int} {N fr : Nat} {I O : List Int}
abbrev lvc (s : Nat) : Nat := 12 + 102 * s + 0
theorem lv_ne (s : Nat) (v : Int) : (∀ j, lev (bup R (lvc s) v) j = if j = s then v else lev R j) ∧ (∀ j, lng (bup R (lvc s) v) j = lng R j) ∧ (∀ j, prt (bup R (lvc s) v) j = prt R j) ∧ (∀ j, wct (bup R (lvc s) v) j = wct R j) ∧ ∀ j w p, w < 8 → p < 12 → lt (bup R (lvc s) v) j w p = lt R j w p := by
  refine ⟨fun j => ?_, fun j => ?_, fun j => ?_, fun j => ?_, fun j w p hw hp => ?_⟩
  · show bup R (12 + 102 * s + 0) v (12 + 102 * j + 0) = if j = s then v else R (12 + 102 * j + 0)
    by_cases z : j = s
    · rw [if_pos z, z]
      exact if_pos rfl
    · rw [if_neg z]
      exact bup_ne (by omega)
  · show bup R (12 + 102 * s + 0) v (12 + 102 * j + 1) = R (12 + 102 * j + 1)
    exact bup_ne (by omega)
  · show bup R (12 + 102 * s + 0) v (12 + 102 * j + 2) = R (12 + 102 * j + 2)
    exact bup_ne (by omega)
  · show bup R (12 + 102 * s + 0) v (12 + 102 * j + 3) = R (12 + 102 * j + 3)
    exact bup_ne (by omega)
  · show bup R (12 + 102 * s + 0) v (12 + 102 * j + (6 + (12 * w + p))) = R (12 + 102 * j + (6 + (12 * w + p)))
    refine bup_ne ?_
    rcases Nat.lt_trichotomy j s with q | q | q <;> omega
/-- a level that can be there -/
abbrev okLv (R : Nat → Int) (N fr s : Nat) (v : Int) : Prop := v ≤ (if s = 0 ∨ s = fr then 1 else lev R (s - 1) + 1) ∧ (s + 1 < N → s + 1 ≠ fr → lev R (s + 1) ≤ v + 1)
theorem WB.lv (hw : WB 500 R N fr) {s : Nat} (hs : s < N) {v : Int} (hv : 1 ≤ v ∧ v ≤ 4) (ho : okLv R N fr s v) : WB 500 (bup R (lvc s) v) N fr := by
  obtain ⟨g1, g2, g3, g4, g5⟩ := lv_ne (R := R) s v
  have e : ∀ j, j < 12 → bup R (lvc s) v j = R j := fun j hj => bup_ne (by show j ≠ 12 + 102 * s + 0; omega)
  obtain ⟨a0, a1, a2, a3, a4, a5, a6, a7, a8, a9, a10⟩ := hw
  refine ⟨by rw [e 9 (by omega)]; exact a0, by rw [e 0 (by omega)]; exact a1, by rw [e 1 (by omega)]; exact a2, by rw [e 2 (by omega)]; exact a3, by rw [e 3 (by omega)]; exact a4, by rw [e 4 (by omega)]; exact a5, by rw [e 5 (by omega)]; exact a6, by rw [e 6 (by omega)]; exact a7, by rw [e 7 (by omega)]; exact a8, by rw [e 8 (by omega)]; exact a9, fun j hj => ?_⟩
  obtain ⟨b1, b2, b3, b4, b5, b6⟩ := a10 j hj
  refine ⟨by rw [g3]; exact b1, ?_, by rw [g2]; exact b3, by rw [g4]; exact b4, fun w hww => ?_, ?_⟩
  · rw [g1]
    by_cases z : j = s
    · rw [if_pos z]
      exact hv
    · rw [if_neg z]
      exact b2
  · rw [g4] at hww
    obtain ⟨c1, c2⟩ := b5 w hww
    have hw8 : w < 8 := by omega
    exact ⟨okL_cg (fun p hp => g5 j w p hw8 hp) c1, by rw [g5 j w 0 hw8 (by omega)]; exact c2⟩
  · rw [g1, g1]
    by_cases z : j = s
    · rw [if_pos z]
      have := ho.1
      rw [← z] at this
      by_cases y : j = 0 ∨ j = fr
      · rw [if_pos y] at this ⊢
        exact this
      · rw [if_neg y] at this ⊢
        rw [if_neg (by omega)]
        exact this
    · rw [if_neg z]
      by_cases y : j = 0 ∨ j = fr
      · rw [if_pos y] at b6 ⊢
        exact b6
      · rw [if_neg y] at b6 ⊢
        by_cases x : j - 1 = s
        · rw [if_pos x]
          have := ho.2 (by omega) (by omega)
          rw [show s + 1 = j by omega] at this
          exact this
        · rw [if_neg x]
          exact b6
theorem CB.lv2 {k : Nat} {μ : Mm} (hw : WB 500 R N fr) (hb : CB k μ R N fr) {s : Nat} (hs : s < N) (v : Int) : sh_X5_put (k + 3) (jv s) (jv v) μ = some (sI μ (k + 4) s (jv v)) ∧ CB k (sI μ (k + 4) s (jv v)) (bup R (lvc s) v) N fr := by
  obtain ⟨g1, g2, g3, g4, g5⟩ := lv_ne (R := R) s v
  have hN := hw.1
  have o1 : ln (k + 3 + 1) = 24 := hb.1.2.1
  have e : ∀ j, j < 12 → bup R (lvc s) v j = R j := fun j hj => bup_ne (by show j ≠ 12 + 102 * s + 0; omega)
  refine ⟨by rw [p5_in (by omega) (by omega), Int.toNat_natCast], hb.1, fun j hj => ?_, ⟨?_, ?_, ?_⟩, fun j hj => ?_⟩
  · rw [sI_1, if_neg (by omega), hb.2.1 j hj, e j (by omega)]
  · rw [sI_1, if_neg (by omega), hb.2.2.1.1, e 8 (by omega)]
  · rw [sI_1, if_neg (by omega), hb.2.2.1.2.1]
  · rw [sI_1, if_neg (by omega), hb.2.2.1.2.2]
  · obtain ⟨q1, q2, q3, q4⟩ := hb.2.2.2 j hj
    have hwc := (hw.sec hj).2.2.2.1
    refine ⟨?_, by rw [sI_1, if_neg (by omega), q2, g2], by rw [sI_1, if_neg (by omega), q3, g4], fun w hww => ?_⟩
    · rw [sI_1, g1]
      by_cases z : j = s
      · rw [if_pos ⟨rfl, z⟩, if_pos z]
      · rw [if_neg (fun q => z q.2), if_neg z, q1]
    · rw [g4] at hww
      rw [sI_2, q4 w hww]
      exact (pk_cg (fun p hp => g5 j w p (by omega) hp)).symm
/-- the class asks -/
theorem lvC {μ : Mm} (hw : WB 500 R N fr) (hb : CB 11 μ R N fr) {s : Nat} (hs : s < N) {v : Int} (hv : 1 ≤ v ∧ v ≤ 4) : sh_X0_levelStands 11 (jv (prt R s)) (jv s) (jv ((s : Int) + 1)) (jv v) μ = some (jv (if okLv R N fr s v then 1 else 0)) := by
  have hN := hw.1
  have hp : prt R s = 0 ∨ prt R s = 1 := by rcases hw.pb hs with h | h <;> omega
  have hls := (hw.sec hs).2.1
  have g1 : sh_X0_greatestLevel 11 (jv (prt R s)) (jv s) μ = some (jv (if s = 0 ∨ s = fr then 1 else if 4 < lev R (s - 1) + 1 then 4 else lev R (s - 1) + 1)) := by
    unfold sh_X0_greatestLevel
    rw [(peC hb hp).2, Option.bind_some]
    by_cases z : s = 0 ∨ s = fr
    · have e : (if prt R s = 0 then 0 else fr) = s := by
        rcases hw.pb hs with ⟨h1, h2⟩ | ⟨h1, h2⟩
        · rw [if_pos h1]; omega
        · rw [if_neg (by omega)]; omega
      rw [e, if_pos rfl, if_pos z]
      rfl
    · have hl1 := (hw.sec (s := s - 1) (by omega)).2.1
      have e : (if prt R s = 0 then 0 else fr) ≠ s := by
        split <;> omega
      have e24 : (if prt R s = 0 then 0 else fr) ≤ 24 := by split <;> omega
      rw [if_neg (by rw [jv_eq] <;> omega), if_neg z]
      simp only [jv_lit]
      rw [jv_sub, show (s : Int) - 1 = ((s - 1 : Nat) : Int) by omega, hb.lv hw (by omega), Option.bind_some, jv_add]
      by_cases y : 4 < lev R (s - 1) + 1
      · rw [if_pos (show jv 4 < _ by rw [jv_lt] <;> omega), if_pos y]
      · rw [if_neg (show ¬ jv 4 < _ by rw [jv_lt] <;> omega), if_neg y]
  have hub : ¬ okLv R N fr s v → ¬ v ≤ (if s = 0 ∨ s = fr then 1 else lev R (s - 1) + 1) ∨ s + 1 < N ∧ s + 1 ≠ fr ∧ v + 1 < lev R (s + 1) := by
    intro q
    by_cases z : v ≤ (if s = 0 ∨ s = fr then 1 else lev R (s - 1) + 1)
    · right
      by_cases y : s + 1 < N ∧ s + 1 ≠ fr ∧ v + 1 < lev R (s + 1)
      · exact y
      · exact absurd ⟨z, fun a b => by omega⟩ q
    · exact Or.inl z
  have gl : (if s = 0 ∨ s = fr then (1 : Int) else if 4 < lev R (s - 1) + 1 then 4 else lev R (s - 1) + 1) < v ↔ ¬ v ≤ (if s = 0 ∨ s = fr then 1 else lev R (s - 1) + 1) := by
    by_cases z : s = 0 ∨ s = fr
    · rw [if_pos z, if_pos z]
      omega
    · rw [if_neg z, if_neg z]
      split <;> omega
  have gb : -10 ≤ (if s = 0 ∨ s = fr then (1 : Int) else if 4 < lev R (s - 1) + 1 then 4 else lev R (s - 1) + 1) ∧ (if s = 0 ∨ s = fr then (1 : Int) else if 4 < lev R (s - 1) + 1 then 4 else lev R (s - 1) + 1) ≤ 10 := by
    by_cases z : s = 0 ∨ s = fr
    · rw [if_pos z]
      omega
    · have hl1 := (hw.sec (s := s - 1) (by omega)).2.1
      rw [if_neg z]
      split <;> omega
  have g24 : (s + 1 < N → s + 1 ≠ fr → lev R (s + 1) ≤ v + 1) → sh_X0_levelStands_24 11 (jv (prt R s)) (jv s) (jv ((s : Int) + 1)) (jv v) μ = some (jv (if okLv R N fr s v then 1 else 0)) := by
    intro hnx
    unfold sh_X0_levelStands_24 sh_X0_levelStands_29
    rw [if_neg (by decide), g1, Option.bind_some]
    generalize (if s = 0 ∨ s = fr then (1 : Int) else if 4 < lev R (s - 1) + 1 then 4 else lev R (s - 1) + 1) = g at *
    by_cases y : g < v
    · rw [if_pos (by rw [jv_lt] <;> omega), if_neg (fun q : okLv R N fr s v => (gl.mp y) q.1)]
      rfl
    · rw [if_neg (by rw [jv_lt] <;> omega), if_pos (⟨Decidable.not_not.mp (fun q => y (gl.mpr q)), hnx⟩ : okLv R N fr s v)]
      rfl
  unfold sh_X0_levelStands
  rw [(peC hb hp).1, Option.bind_some]
  have ee : (if prt R s = 0 then fr else N) ≤ 24 := by split <;> omega
  by_cases z : (if prt R s = 0 then fr else N) ≤ s + 1
  · rw [if_pos (by rw [jv_le] <;> omega)]
    refine g24 (fun a b => ?_)
    exfalso
    rcases hw.pb hs with ⟨h1, h2⟩ | ⟨h1, h2⟩
    · rw [if_pos h1] at z; omega
    · rw [if_neg (by omega)] at z; omega
  · have hin : s + 1 < N ∧ s + 1 ≠ fr := by
      rcases hw.pb hs with ⟨h1, h2⟩ | ⟨h1, h2⟩
      · rw [if_pos h1] at z; omega
      · rw [if_neg (by omega)] at z; omega
    have hl1 := (hw.sec hin.1).2.1
    have hlv : sh_X5_at (11 + 3) (jv ((s : Int) + 1)) μ = some (jv (lev R (s + 1))) := hb.lv hw hin.1
    rw [if_neg (by rw [jv_le] <;> omega), hlv, Option.bind_some, jv_lit (nat_lit 1), jv_add]
    by_cases y : v + 1 < lev R (s + 1)
    · rw [if_pos (by rw [jv_lt] <;> omega), if_neg (fun q : okLv R N fr s v => by have := q.2 hin.1 hin.2; omega)]
      rfl
    · rw [if_neg (by rw [jv_lt] <;> omega)]
      exact g24 (fun _ _ => by omega)
end LVL
