/-! ROWS moved by the class -/
theorem mv5g {t l a b c : Nat} (hl : ln (t + 1) = l) (ha : a + c ≤ l) (hb : b + c ≤ l) {μ : Mm} : ∃ μ1, sh_X5_move t (jv a) (jv b) (jv c) μ = some μ1 ∧ (∀ i, μ1.1 (t + 1) i = if b ≤ i ∧ i < b + c then μ.1 (t + 1) (a + (i - b)) else μ.1 (t + 1) i) ∧ Fm (fun k _ => k = t + 1) μ μ1 := by
  have hln := ln_lt (t + 1)
  unfold sh_X5_move
  simp only [jv_lit]
  by_cases z : c = 0
  · rw [if_pos (by rw [jv_le] <;> omega)]
    exact ⟨μ, rfl, fun i => by rw [if_neg (by omega)], Fm.rf⟩
  · have em : (if jv (a : Int) < jv (b : Int) then jv (b : Int) else jv (a : Int)) = jv ((max a b : Nat) : Int) := by
      by_cases y : a < b
      · rw [if_pos (by rw [jv_lt] <;> omega), show max a b = b by omega]
      · rw [if_neg (by rw [jv_lt] <;> omega), show max a b = a by omega]
    rw [if_neg (by rw [jv_le] <;> omega), if_neg (by rw [jv_lt] <;> omega), if_neg (by rw [jv_lt] <;> omega), em, hl, jv_nI, jv_sub, if_neg (by rw [jv_lt] <;> omega)]
    have ec : cp μ (t + 1) (jv a) (t + 1) (jv b) (jv c) = some (cpI μ (t + 1) a (t + 1) b c) := by
      unfold cp
      rw [jv_ix (by omega) (by omega), jv_ix (by omega) (by omega), jv_ix (by omega) (by omega), if_pos ⟨by rw [jv_lit (nat_lit 0), jv_lt] <;> omega, by rw [jv_lit (nat_lit 0), jv_lt] <;> omega, by rw [jv_lit (nat_lit 0), jv_lt] <;> omega, by omega, by omega⟩, Int.toNat_natCast, Int.toNat_natCast, Int.toNat_natCast]
    rw [ec, Option.bind_some]
    refine ⟨_, rfl, fun i => ?_, rfl, fun k j hk => ?_⟩
    · show (if t + 1 = t + 1 ∧ b ≤ i ∧ i < b + c then μ.1 (t + 1) (a + (i - b)) else μ.1 (t + 1) i) = _
      by_cases y : b ≤ i ∧ i < b + c
      · rw [if_pos ⟨rfl, y.1, y.2⟩, if_pos y]
      · rw [if_neg (fun q => y q.2), if_neg y]
    · show (if k = t + 1 ∧ _ then _ else _) = _
      rw [if_neg (fun q => hk q.1)]
theorem mv9g {t l a b c : Nat} (hl : ln (t + 1) = l) (ha : a + c ≤ l) (hb : b + c ≤ l) {μ : Mm} : ∃ μ1, sh_X9_move t (jv a) (jv b) (jv c) μ = some μ1 ∧ (∀ i, μ1.2.1 (t + 1) i = if b ≤ i ∧ i < b + c then μ.2.1 (t + 1) (a + (i - b)) else μ.2.1 (t + 1) i) ∧ Fw (fun _ _ => False) (fun k => k = t + 1) μ μ1 := by
  have hln := ln_lt (t + 1)
  unfold sh_X9_move
  simp only [jv_lit]
  by_cases z : c = 0
  · rw [if_pos (by rw [jv_le] <;> omega)]
    exact ⟨μ, rfl, fun i => by rw [if_neg (by omega)], Fw.rf⟩
  · have em : (if jv (a : Int) < jv (b : Int) then jv (b : Int) else jv (a : Int)) = jv ((max a b : Nat) : Int) := by
      by_cases y : a < b
      · rw [if_pos (by rw [jv_lt] <;> omega), show max a b = b by omega]
      · rw [if_neg (by rw [jv_lt] <;> omega), show max a b = a by omega]
    rw [if_neg (by rw [jv_le] <;> omega), if_neg (by rw [jv_lt] <;> omega), if_neg (by rw [jv_lt] <;> omega), em, hl, jv_nI, jv_sub, if_neg (by rw [jv_lt] <;> omega)]
    have ec : cpL μ (t + 1) (jv a) (t + 1) (jv b) (jv c) = some (cpJ μ (t + 1) a (t + 1) b c) := by
      unfold cpL
      rw [jv_ix (by omega) (by omega), jv_ix (by omega) (by omega), jv_ix (by omega) (by omega), if_pos ⟨by rw [jv_lit (nat_lit 0), jv_lt] <;> omega, by rw [jv_lit (nat_lit 0), jv_lt] <;> omega, by rw [jv_lit (nat_lit 0), jv_lt] <;> omega, by omega, by omega⟩, Int.toNat_natCast, Int.toNat_natCast, Int.toNat_natCast]
    rw [ec, Option.bind_some]
    refine ⟨_, rfl, fun i => ?_, fun k j _ => rfl, fun k j hk => ?_, rfl⟩
    · show (if t + 1 = t + 1 ∧ b ≤ i ∧ i < b + c then μ.2.1 (t + 1) (a + (i - b)) else μ.2.1 (t + 1) i) = _
      by_cases y : b ≤ i ∧ i < b + c
      · rw [if_pos ⟨rfl, y.1, y.2⟩, if_pos y]
      · rw [if_neg (fun q => y q.2), if_neg y]
    · show (if k = t + 1 ∧ _ then _ else _) = _
      rw [if_neg (fun q => hk q.1)]
/-- a moved index -/
def mvi (a b c i : Nat) : Nat := if b ≤ i ∧ i < b + c then a + (i - b) else i
theorem msC {k a b c : Nat} (ok : okB k) (ha : a + c ≤ 24) (hb : b + c ≤ 24) {μ : Mm} : ∃ μ1, sh_X0_moveSections k (jv a) (jv b) (jv c) μ = some μ1 ∧ (∀ i, μ1.1 (k + 4) i = μ.1 (k + 4) (mvi a b c i)) ∧ (∀ i, μ1.1 (k + 6) i = μ.1 (k + 6) (mvi a b c i)) ∧ (∀ i, μ1.1 (k + 8) i = μ.1 (k + 8) (mvi a b c i)) ∧ (∀ i, μ1.1 (k + 12) i = μ.1 (k + 12) (mvi a b c i)) ∧ (∀ i w, w < 8 → μ1.2.1 (k + 10) (8 * i + w) = μ.2.1 (k + 10) (8 * mvi a b c i + w)) ∧ Fw (fun q _ => q = k + 4 ∨ q = k + 6 ∨ q = k + 8 ∨ q = k + 12) (fun q => q = k + 10) μ μ1 := by
  obtain ⟨o1, o2, o3, o4, o5, o6⟩ := ok
  have up : ∀ (f : Nat → Int32) (i : Nat), (if b ≤ i ∧ i < b + c then f (a + (i - b)) else f i) = f (mvi a b c i) := by
    intro f i
    unfold mvi
    by_cases y : b ≤ i ∧ i < b + c
    · rw [if_pos y, if_pos y]
    · rw [if_neg y, if_neg y]
  unfold sh_X0_moveSections
  obtain ⟨μ1, e1, v1, f1⟩ := mv5g (t := k + 3) (l := 24) o2 ha hb (μ := μ)
  obtain ⟨μ2, e2, v2, f2⟩ := mv5g (t := k + 5) (l := 24) o3 ha hb (μ := μ1)
  obtain ⟨μ3, e3, v3, f3⟩ := mv5g (t := k + 7) (l := 24) o4 ha hb (μ := μ2)
  obtain ⟨μ4, e4, v4, f4⟩ := mv5g (t := k + 11) (l := 24) o6 ha hb (μ := μ3)
  obtain ⟨μ5, e5, v5, f5⟩ := mv9g (t := k + 9) (l := 192) (a := 8 * a) (b := 8 * b) (c := 8 * c) o5 (by omega) (by omega) (μ := μ4)
  simp only [jv_lit]
  rw [e1, Option.bind_some, e2, Option.bind_some, e3, Option.bind_some, e4, Option.bind_some, jv_mul, jv_mul, jv_mul, show (a : Int) * 8 = ((8 * a : Nat) : Int) by omega, show (b : Int) * 8 = ((8 * b : Nat) : Int) by omega, show (c : Int) * 8 = ((8 * c : Nat) : Int) by omega, e5, Option.bind_some]
  have J4 : μ4.2 = μ.2 := by rw [f4.1, f3.1, f2.1, f1.1]
  refine ⟨μ5, rfl, fun i => ?_, fun i => ?_, fun i => ?_, fun i => ?_, fun i w hw => ?_, ((((Fw.of (P := fun q _ => q = k + 4 ∨ q = k + 6 ∨ q = k + 8 ∨ q = k + 12) (Q := fun q => q = k + 10) (f1.mono (fun q j y => by omega))).tr (Fw.of (Q := fun _ => False) f2) (fun q j y => by omega) (fun _ y => y.elim)).tr (Fw.of (Q := fun _ => False) f3) (fun q j y => by omega) (fun _ y => y.elim)).tr (Fw.of (Q := fun _ => False) f4) (fun q j y => by omega) (fun _ y => y.elim)).tr f5 (fun q j y => y.elim) (fun q y => y)⟩
  · rw [f5.1 _ _ (fun y => y), f4.at _ _ (by omega), f3.at _ _ (by omega), f2.at _ _ (by omega)]
    exact (v1 i).trans (up (fun x => μ.1 (k + 4) x) i)
  · rw [f5.1 _ _ (fun y => y), f4.at _ _ (by omega), f3.at _ _ (by omega)]
    refine (v2 i).trans ((up (fun x => μ1.1 (k + 6) x) i).trans ?_)
    exact f1.at _ _ (by omega)
  · rw [f5.1 _ _ (fun y => y), f4.at _ _ (by omega)]
    refine (v3 i).trans ((up (fun x => μ2.1 (k + 8) x) i).trans ?_)
    show μ2.1 (k + 8) _ = _
    rw [f2.at _ _ (by omega), f1.at _ _ (by omega)]
  · rw [f5.1 _ _ (fun y => y)]
    refine (v4 i).trans ((up (fun x => μ3.1 (k + 12) x) i).trans ?_)
    show μ3.1 (k + 12) _ = _
    rw [f3.at _ _ (by omega), f2.at _ _ (by omega), f1.at _ _ (by omega)]
  · refine (v5 (8 * i + w)).trans ?_
    rw [J4]
    unfold mvi
    by_cases y : b ≤ i ∧ i < b + c
    · rw [if_pos y, if_pos (by omega), show 8 * a + (8 * i + w - 8 * b) = 8 * (a + (i - b)) + w by omega]
    · rw [if_neg y, if_neg (by omega)]
