/-! A BRANCH cut out of the book -/
def cutR (R : Nat → Int) (N s m : Nat) : Nat → Int := fun i => if i = 9 then (N : Int) - m else if 12 + 102 * s ≤ i ∧ i < 12 + 102 * (N - m) then R (i + 102 * m) else R i
def sh1 (s m j : Nat) : Nat := if s ≤ j then j + m else j
section CUT
variable {n : Nat} {R : Nat → Int} {N fr s m : Nat}
theorem cut_f (hm : s + m ≤ N) {j f : Nat} (hj : j < N - m) (hf : f < 102) : cutR R N s m (12 + 102 * j + f) = R (12 + 102 * sh1 s m j + f) := by
  unfold cutR sh1
  rw [if_neg (by omega)]
  by_cases z : s ≤ j
  · rw [if_pos ⟨by omega, by omega⟩, if_pos z, show 12 + 102 * j + f + 102 * m = 12 + 102 * (j + m) + f by omega]
  · rw [if_neg (by omega), if_neg z]
theorem cut_lev (hm : s + m ≤ N) {j : Nat} (hj : j < N - m) : lev (cutR R N s m) j = lev R (sh1 s m j) := cut_f hm hj (f := 0) (by omega)
theorem cut_lng (hm : s + m ≤ N) {j : Nat} (hj : j < N - m) : lng (cutR R N s m) j = lng R (sh1 s m j) := cut_f hm hj (f := 1) (by omega)
theorem cut_prt (hm : s + m ≤ N) {j : Nat} (hj : j < N - m) : prt (cutR R N s m) j = prt R (sh1 s m j) := cut_f hm hj (f := 2) (by omega)
theorem cut_wct (hm : s + m ≤ N) {j : Nat} (hj : j < N - m) : wct (cutR R N s m) j = wct R (sh1 s m j) := cut_f hm hj (f := 3) (by omega)
theorem cut_lt (hm : s + m ≤ N) {j w p : Nat} (hj : j < N - m) (hw : w < 8) (hp : p < 12) : lt (cutR R N s m) j w p = lt R (sh1 s m j) w p := cut_f hm hj (f := 6 + (12 * w + p)) (by omega)
/-- a branch: a section with all below it -/
def brn (R : Nat → Int) (N fr s m : Nat) : Prop := 1 ≤ m ∧ s + m ≤ N ∧ (s < fr → s + m ≤ fr) ∧ (s + m < N → s + m ≠ fr → lev R (s + m) ≤ lev R s)
theorem WB.cut (hw : WB 500 R N fr) (hb : brn R N fr s m) : WB 500 (cutR R N s m) (N - m) (if s < fr then fr - m else fr) := by
  obtain ⟨b1, b2, b3, b4⟩ := hb
  have e : ∀ j, j < 9 → cutR R N s m j = R j := fun j hj => by
    unfold cutR
    rw [if_neg (by omega), if_neg (by omega)]
  obtain ⟨a0, a1, a2, a3, a4, a5, a6, a7, a8, a9, a10⟩ := hw
  refine ⟨⟨?_, by omega, by split <;> omega⟩, by rw [e 0 (by omega)]; exact a1, by rw [e 1 (by omega)]; exact a2, by rw [e 2 (by omega)]; exact a3, by rw [e 3 (by omega)]; exact a4, by rw [e 4 (by omega)]; exact a5, by rw [e 5 (by omega)]; exact a6, by rw [e 6 (by omega)]; exact a7, by rw [e 7 (by omega)]; exact a8, by rw [e 8 (by omega)]; exact a9, fun j hj => ?_⟩
  · have : cutR R N s m 9 = (N : Int) - m := if_pos rfl
    rw [this]
    omega
  · have hsj : sh1 s m j < N := by unfold sh1; split <;> omega
    obtain ⟨c1, c2, c3, c4, c5, c6⟩ := a10 _ hsj
    rw [cut_prt b2 hj, cut_lev b2 hj, cut_lng b2 hj, cut_wct b2 hj]
    refine ⟨?_, c2, c3, c4, fun w hww => ?_, ?_⟩
    · rw [c1]
      unfold sh1
      by_cases x : s < fr
      · have := b3 x
        rw [if_pos x]
        by_cases z : s ≤ j
        · rw [if_pos z]
          by_cases y : j < fr - m
          · rw [if_pos (by omega), if_pos y]
          · rw [if_neg (by omega), if_neg y]
        · rw [if_neg z, if_pos (by omega), if_pos (by omega)]
      · rw [if_neg x]
        by_cases z : s ≤ j
        · rw [if_pos z, if_neg (by omega), if_neg (by omega)]
        · rw [if_neg z]
    · obtain ⟨d1, d2⟩ := c5 w hww
      have hw8 : w < 8 := by omega
      exact ⟨okL_cg (fun p hp => cut_lt b2 hj hw8 hp) d1, by rw [cut_lt b2 hj hw8 (by omega)]; exact d2⟩
    · have hfr : (if s < fr then fr - m else fr) = fr ∨ s < fr ∧ (if s < fr then fr - m else fr) = fr - m := by
        by_cases x : s < fr
        · right; exact ⟨x, if_pos x⟩
        · left; exact if_neg x
      have hfr2 : ¬ s < fr → (if s < fr then fr - m else fr) = fr := fun x => if_neg x
      have hfr3 : s < fr → (if s < fr then fr - m else fr) = fr - m := fun x => if_pos x
      generalize (if s < fr then fr - m else fr) = fr' at *
      by_cases y : j = 0 ∨ j = fr'
      · rw [if_pos y]
        by_cases z : s ≤ j
        · have es : sh1 s m j = j + m := if_pos z
          rw [es] at c6 ⊢
          by_cases v : j + m = fr
          · rw [if_pos (Or.inr v)] at c6
            exact c6
          · -- then j is s, first of its part
            have hjs : j = s := by
              by_cases x : s < fr
              · have := hfr3 x; have := b3 x; omega
              · have := hfr2 x; omega
            subst hjs
            have h9 := b4 (by omega) v
            obtain ⟨_, _, _, _, _, k6⟩ := a10 j (by omega)
            have hj0 : j = 0 ∨ j = fr := by
              by_cases x : j < fr
              · have := hfr3 x; have := b3 x; omega
              · have := hfr2 x; omega
            rw [if_pos hj0] at k6
            omega
        · have es : sh1 s m j = j := if_neg z
          rw [es] at c6 ⊢
          have hj0 : j = 0 ∨ j = fr := by
            by_cases x : s < fr
            · have := hfr3 x; have := b3 x; omega
            · have := hfr2 x; omega
          rw [if_pos hj0] at c6
          exact c6
      · rw [if_neg y, cut_lev b2 (by omega)]
        by_cases z : s ≤ j
        · have es : sh1 s m j = j + m := if_pos z
          rw [es] at c6 ⊢
          have hne : ¬ j + m = fr := by
            by_cases x : s < fr
            · have := hfr3 x; omega
            · omega
          by_cases v : j = s
          · subst v
            have h9 := b4 (by omega) hne
            obtain ⟨_, _, _, _, _, k6⟩ := a10 j (by omega)
            have e1 : sh1 j m (j - 1) = j - 1 := if_neg (by omega)
            rw [e1]
            have hj0 : ¬ (j = 0 ∨ j = fr) := by
              by_cases x : j < fr
              · omega
              · have := hfr2 x; omega
            rw [if_neg hj0] at k6
            omega
          · have e1 : sh1 s m (j - 1) = j - 1 + m := if_pos (by omega)
            rw [e1, show j - 1 + m = j + m - 1 by omega]
            rw [if_neg (by omega)] at c6
            exact c6
        · have es : sh1 s m j = j := if_neg z
          have e1 : sh1 s m (j - 1) = j - 1 := if_neg (by omega)
          rw [es] at c6 ⊢
          rw [e1]
          have hj0 : ¬ (j = 0 ∨ j = fr) := by
            by_cases x : s < fr
            · omega
            · have := hfr2 x; omega
          rw [if_neg hj0] at c6
          exact c6
end CUT
