/-! A SECTION put into the book, by both -/
def sh2 (s j : Nat) : Nat := if j < s then j else j - 1
def InsF (R R' : Nat → Int) (N s : Nat) (lv ln pt : Int) (I : List Int) (p x : Nat) : Prop := R' 9 = (N : Int) + 1 ∧ (∀ c, c < 9 → R' c = R c) ∧ (∀ j, j < N + 1 → j ≠ s → ∀ f, f < 102 → R' (12 + 102 * j + f) = R (12 + 102 * sh2 s j + f)) ∧ (lev R' s = lv ∧ lng R' s = ln ∧ prt R' s = pt ∧ wct R' s = x) ∧ ∀ w, w < x → ∀ q, q < 12 → lt R' s w q = wdL I p w q
/-- a level that a new section can have -/
abbrev okIn (R : Nat → Int) (N fr s : Nat) (pt lv : Int) : Prop := lv ≤ (if s = (if pt = 0 then 0 else fr) then 1 else lev R (s - 1) + 1) ∧ (s < (if pt = 0 then fr else N) → lev R s ≤ lv + 1)
section INS
variable {n : Nat} {R R' : Nat → Int} {N fr s : Nat} {lv ln pt : Int} {I O : List Int} {p x : Nat}
theorem InsF.f (F : InsF R R' N s lv ln pt I p x) {j : Nat} (hj : j < N + 1) (hjs : j ≠ s) : lev R' j = lev R (sh2 s j) ∧ lng R' j = lng R (sh2 s j) ∧ prt R' j = prt R (sh2 s j) ∧ wct R' j = wct R (sh2 s j) ∧ (∀ w q, w < 8 → q < 12 → lt R' j w q = lt R (sh2 s j) w q) ∧ R' (frm j) = R (frm (sh2 s j)) ∧ R' (lin5 j) = R (lin5 (sh2 s j)) := ⟨F.2.2.1 j hj hjs 0 (by omega), F.2.2.1 j hj hjs 1 (by omega), F.2.2.1 j hj hjs 2 (by omega), F.2.2.1 j hj hjs 3 (by omega), fun w q hw hq => F.2.2.1 j hj hjs (6 + (12 * w + q)) (by omega), F.2.2.1 j hj hjs 4 (by omega), F.2.2.1 j hj hjs 5 (by omega)⟩
theorem WB.ins (hw : WB 500 R N fr) (hN : N < 24) (hs : s ≤ N) (F : InsF R R' N s lv ln pt I p x) (hlv : 1 ≤ lv ∧ lv ≤ 4) (hln : 0 ≤ ln ∧ ln ≤ 500) (hpt : pt = 0 ∧ s ≤ fr ∨ pt = 1 ∧ fr ≤ s) (hx : okW I p x) (ho : okIn R N fr s pt lv) : WB 500 R' (N + 1) (if pt = 0 then fr + 1 else fr) := by
  have hNN := hw.1
  obtain ⟨F9, Fc, _, ⟨f1, f2, f3, f4⟩, f5⟩ := id F
  have h1 := hx.1
  have hfr : (pt = 0 ∧ (if pt = 0 then fr + 1 else fr) = fr + 1) ∨ (pt = 1 ∧ (if pt = 0 then fr + 1 else fr) = fr) := by
    rcases hpt with ⟨a, b⟩ | ⟨a, b⟩
    · exact Or.inl ⟨a, if_pos a⟩
    · exact Or.inr ⟨a, if_neg (by omega)⟩
  have ho2 : lv ≤ (if s = (if pt = 0 then 0 else fr) then 1 else lev R (s - 1) + 1) := ho.1
  have ho3 : s < (if pt = 0 then fr else N) → lev R s ≤ lv + 1 := ho.2
  have hb : (pt = 0 → (if pt = 0 then 0 else fr) = 0 ∧ (if pt = 0 then fr else N) = fr) ∧ (pt = 1 → (if pt = 0 then 0 else fr) = fr ∧ (if pt = 0 then fr else N) = N) := ⟨fun a => ⟨if_pos a, if_pos a⟩, fun a => ⟨if_neg (by omega), if_neg (by omega)⟩⟩
  generalize (if pt = 0 then fr + 1 else fr) = fr' at *
  generalize (if pt = 0 then 0 else fr) = pb at *
  generalize (if pt = 0 then fr else N) = pe at *
  obtain ⟨a0, a1, a2, a3, a4, a5, a6, a7, a8, a9, a10⟩ := hw
  refine ⟨⟨by rw [F9]; omega, by omega, by omega⟩, by rw [Fc 0 (by omega)]; exact a1, by rw [Fc 1 (by omega)]; exact a2, by rw [Fc 2 (by omega)]; exact a3, by rw [Fc 3 (by omega)]; exact a4, by rw [Fc 4 (by omega)]; exact a5, by rw [Fc 5 (by omega)]; exact a6, by rw [Fc 6 (by omega)]; exact a7, by rw [Fc 7 (by omega)]; exact a8, by rw [Fc 8 (by omega)]; exact a9, fun j hj => ?_⟩
  by_cases z : j = s
  · subst z
    rw [f1, f2, f3, f4]
    refine ⟨?_, hlv, hln, by omega, fun w hww => ?_, ?_⟩
    · split <;> omega
    · obtain ⟨c1, c2⟩ := hx.2 w (by omega)
      exact ⟨okL_cg (fun q hq => f5 w (by omega) q hq) c1, by rw [f5 w (by omega) 0 (by omega)]; exact c2⟩
    · by_cases y : j = 0 ∨ j = fr'
      · rw [if_pos y]
        by_cases v : j = pb
        · rw [if_pos v] at ho2
          exact ho2
        · rcases hfr with ⟨b1, b2⟩ | ⟨b1, b2⟩
          · have := hb.1 b1; omega
          · have := hb.2 b1; omega
      · have e1 := (F.f (j := j - 1) (by omega) (by omega)).1
        have e2 : sh2 j (j - 1) = j - 1 := if_pos (by omega)
        rw [if_neg y, e1, e2]
        by_cases v : j = pb
        · rcases hfr with ⟨b1, b2⟩ | ⟨b1, b2⟩
          · have := hb.1 b1; omega
          · have := hb.2 b1; omega
        · rw [if_neg v] at ho2
          exact ho2
  · obtain ⟨g1, g2, g3, g4, g5, _⟩ := F.f hj z
    have hsh : sh2 s j < N := by unfold sh2; split <;> omega
    obtain ⟨c1, c2, c3, c4, c5, c6⟩ := a10 _ hsh
    rw [g1, g2, g3, g4]
    refine ⟨?_, c2, c3, c4, fun w hww => ?_, ?_⟩
    · rw [c1]
      by_cases y : j < s
      · rw [show sh2 s j = j from if_pos y]
        split <;> split <;> omega
      · rw [show sh2 s j = j - 1 from if_neg y]
        split <;> split <;> omega
    · obtain ⟨d1, d2⟩ := c5 w hww
      have hw8 : w < 8 := by omega
      exact ⟨okL_cg (fun q hq => g5 w q hw8 hq) d1, by rw [g5 w 0 hw8 (by omega)]; exact d2⟩
    · by_cases y : j < s
      · have e : sh2 s j = j := if_pos y
        rw [e] at c6 ⊢
        by_cases v : j = 0 ∨ j = fr'
        · rw [if_pos v]
          rw [if_pos (by omega)] at c6
          exact c6
        · have e1 := (F.f (j := j - 1) (by omega) (by omega)).1
          have e2 : sh2 s (j - 1) = j - 1 := if_pos (by omega)
          rw [if_neg v, e1, e2]
          by_cases u : j = 0 ∨ j = fr
          · rw [if_pos u] at c6
            have := (a10 (j - 1) (by omega)).2.1
            omega
          · rw [if_neg u] at c6
            exact c6
      · have e : sh2 s j = j - 1 := if_neg y
        rw [e] at c6 c2 ⊢
        by_cases u : j = s + 1
        · subst u
          rw [Nat.add_sub_cancel] at *
          by_cases v : s + 1 = 0 ∨ s + 1 = fr'
          · rw [if_pos v]
            rw [if_pos (by omega)] at c6
            exact c6
          · rw [if_neg v, f1]
            exact ho3 (by
              rcases hfr with ⟨b1, b2⟩ | ⟨b1, b2⟩
              · have := hb.1 b1; omega
              · have := hb.2 b1; omega)
        · have e1 := (F.f (j := j - 1) (by omega) (by omega)).1
          have e2 : sh2 s (j - 1) = j - 1 - 1 := if_neg (by omega)
          by_cases v : j = 0 ∨ j = fr'
          · rw [if_pos v]
            rw [if_pos (by omega)] at c6
            exact c6
          · rw [if_neg v, e1, e2]
            rw [if_neg (by omega)] at c6
            exact c6
/-- the class's rows of a book with a section more -/
theorem CB.ins {k : Nat} {μ μ' : Mm} (hw : WB 500 R N fr) (hb : CB k μ R N fr) (hs : s ≤ N) (F : InsF R R' N s lv ln pt I p x) (hx : okW I p x) {fr' : Nat} (h1 : ∀ i, i < 8 → μ'.1 (k + 2) i = μ.1 (k + 2) i) (h2 : μ'.1 k 1 = μ.1 k 1) (h3 : μ'.1 k 2 = jv ((N + 1 : Nat) : Int)) (h4 : μ'.1 k 3 = jv fr') (h5 : ∀ j, j < N + 1 → j ≠ s → μ'.1 (k + 4) j = μ.1 (k + 4) (sh2 s j) ∧ μ'.1 (k + 6) j = μ.1 (k + 6) (sh2 s j) ∧ μ'.1 (k + 8) j = μ.1 (k + 8) (sh2 s j) ∧ ∀ w, w < 8 → μ'.2.1 (k + 10) (8 * j + w) = μ.2.1 (k + 10) (8 * sh2 s j + w)) (h6 : μ'.1 (k + 4) s = jv lv ∧ μ'.1 (k + 6) s = jv ln ∧ μ'.1 (k + 8) s = jv x ∧ ∀ w, w < x → μ'.2.1 (k + 10) (8 * s + w) = pk (wdL I p w)) : CB k μ' R' (N + 1) fr' := by
  obtain ⟨F9, Fc, _, ⟨f1, f2, f3, f4⟩, f5⟩ := id F
  refine ⟨hb.1, fun i hi => by rw [h1 i hi, hb.2.1 i hi, Fc i (by omega)], ⟨by rw [h2, hb.2.2.1.1, Fc 8 (by omega)], h3, h4⟩, fun j hj => ?_⟩
  by_cases z : j = s
  · subst z
    refine ⟨by rw [h6.1, f1], by rw [h6.2.1, f2], by rw [h6.2.2.1, f4], fun w hww => ?_⟩
    rw [f4] at hww
    rw [h6.2.2.2 w (by omega)]
    exact (pk_cg (fun q hq => f5 w (by omega) q hq)).symm
  · obtain ⟨g1, g2, g3, g4, g5, _⟩ := F.f hj z
    obtain ⟨q1, q2, q3, q4⟩ := h5 j hj z
    have hsh : sh2 s j < N := by unfold sh2; split <;> omega
    obtain ⟨r1, r2, r3, r4⟩ := hb.2.2.2 _ hsh
    have hwc := (hw.sec hsh).2.2.2.1
    refine ⟨by rw [q1, r1, g1], by rw [q2, r2, g2], by rw [q3, r3, g4], fun w hww => ?_⟩
    rw [g4] at hww
    rw [q4 w (by omega), r4 w hww]
    exact (pk_cg (fun q hq => g5 w q (by omega) hq)).symm
/-- a place opened in the class's rows -/
theorem opC {k : Nat} (ok : okB k) (hN : N < 24) (hs : s ≤ N) {μ : Mm} (h2 : μ.1 k 2 = jv N) (h3 : μ.1 k 3 = jv fr) (hp : pt = 0 ∨ pt = 1) : ∃ μ1, sh_X0_open k (jv s) (jv pt) μ = some μ1 ∧ (μ1.1 k 2 = jv ((N + 1 : Nat) : Int) ∧ μ1.1 k 3 = jv ((if pt = 0 then fr + 1 else fr : Nat) : Int)) ∧ (∀ j, j < N + 1 → j ≠ s → μ1.1 (k + 4) j = μ.1 (k + 4) (sh2 s j) ∧ μ1.1 (k + 6) j = μ.1 (k + 6) (sh2 s j) ∧ μ1.1 (k + 8) j = μ.1 (k + 8) (sh2 s j) ∧ μ1.1 (k + 12) j = μ.1 (k + 12) (sh2 s j) ∧ ∀ w, w < 8 → μ1.2.1 (k + 10) (8 * j + w) = μ.2.1 (k + 10) (8 * sh2 s j + w)) ∧ (μ1.1 (k + 4) s = μ.1 (k + 4) s ∧ μ1.1 (k + 6) s = μ.1 (k + 6) s ∧ μ1.1 (k + 12) s = jv (-1)) ∧ Fw (fun q j => q = k ∧ (j = 2 ∨ j = 3) ∨ q = k + 4 ∨ q = k + 6 ∨ q = k + 8 ∨ q = k + 12) (fun q => q = k + 10) μ μ1 := by
  obtain ⟨o1, o2, o3, o4, o5, o6⟩ := id ok
  obtain ⟨μ1, e1, v1, v2, v3, v4, v5, f1⟩ := msC (a := s) (b := s + 1) (c := N - s) ok (by omega) (by omega) (μ := μ)
  have emv : ∀ j, j < N + 1 → j ≠ s → mvi s (s + 1) (N - s) j = sh2 s j := by
    intro j hj hjs
    unfold mvi sh2
    by_cases z : j < s
    · rw [if_neg (by omega), if_pos z]
    · rw [if_pos (by omega), if_neg z]
      omega
  have ems : mvi s (s + 1) (N - s) s = s := by unfold mvi; rw [if_neg (by omega)]
  have l11 : ln (k + 11 + 1) = 24 := o6
  have f2 : Fm (fun q j => q = k + 12 ∧ j = s) μ1 (sI μ1 (k + 12) s (jv (-1))) := Fm.rf.sI ⟨rfl, rfl⟩
  -- once the counts are set
  have fin : ∀ μ2 : Mm, Fm (fun q j => q = k ∧ (j = 2 ∨ j = 3)) (sI μ1 (k + 12) s (jv (-1))) μ2 → (∀ j, j < N + 1 → j ≠ s → μ2.1 (k + 4) j = μ.1 (k + 4) (sh2 s j) ∧ μ2.1 (k + 6) j = μ.1 (k + 6) (sh2 s j) ∧ μ2.1 (k + 8) j = μ.1 (k + 8) (sh2 s j) ∧ μ2.1 (k + 12) j = μ.1 (k + 12) (sh2 s j) ∧ ∀ w, w < 8 → μ2.2.1 (k + 10) (8 * j + w) = μ.2.1 (k + 10) (8 * sh2 s j + w)) ∧ (μ2.1 (k + 4) s = μ.1 (k + 4) s ∧ μ2.1 (k + 6) s = μ.1 (k + 6) s ∧ μ2.1 (k + 12) s = jv (-1)) ∧ Fw (fun q j => q = k ∧ (j = 2 ∨ j = 3) ∨ q = k + 4 ∨ q = k + 6 ∨ q = k + 8 ∨ q = k + 12) (fun q => q = k + 10) μ μ2 := by
    intro μ2 f3
    refine ⟨fun j hj hjs => ⟨?_, ?_, ?_, ?_, fun w hw => ?_⟩, ⟨?_, ?_, ?_⟩, ((f1.mono (fun q j y => by omega) (fun q y => y)).tr (Fw.of (Q := fun _ => False) f2) (fun q j y => by omega) (fun _ y => y.elim)).tr (Fw.of (Q := fun _ => False) f3) (fun q j y => by omega) (fun _ y => y.elim)⟩
    · rw [f3.at _ _ (by omega), f2.at _ _ (by omega), v1, emv j hj hjs]
    · rw [f3.at _ _ (by omega), f2.at _ _ (by omega), v2, emv j hj hjs]
    · rw [f3.at _ _ (by omega), f2.at _ _ (by omega), v3, emv j hj hjs]
    · rw [f3.at _ _ (by omega), f2.at _ _ (by omega), v4, emv j hj hjs]
    · rw [f3.1, f2.1, v5 j w hw, emv j hj hjs]
    · rw [f3.at _ _ (by omega), f2.at _ _ (by omega), v1, ems]
    · rw [f3.at _ _ (by omega), f2.at _ _ (by omega), v2, ems]
    · rw [f3.at _ _ (by omega), sI_1, if_pos ⟨rfl, rfl⟩]
  unfold sh_X0_open
  rw [h2, jv_lit (nat_lit 1), jv_lit (nat_lit 0), jv_add, jv_sub, show (s : Int) + 1 = ((s + 1 : Nat) : Int) by omega, show (N : Int) - (s : Int) = ((N - s : Nat) : Int) by omega, e1, Option.bind_some, jv_neg, p5_in (by omega) (by omega), Option.bind_some, Int.toNat_natCast]
  have k2 : (sI μ1 (k + 12) s (jv (-1))).1 k 2 = jv N := by rw [f2.at _ _ (by omega), f1.1 _ _ (by omega), h2]
  have k3 : (sI μ1 (k + 12) s (jv (-1))).1 k 3 = jv fr := by rw [f2.at _ _ (by omega), f1.1 _ _ (by omega), h3]
  rw [k2, jv_add, show (N : Int) + 1 = ((N + 1 : Nat) : Int) by omega, pt_eq, Option.bind_some]
  rcases hp with rfl | rfl
  · rw [if_pos (show jv 0 = jv 0 from rfl), sI_1, if_neg (by omega), k3, jv_add, show (fr : Int) + 1 = ((fr + 1 : Nat) : Int) by omega, pt_eq]
    obtain ⟨g1, g2, g3⟩ := fin (sI (sI (sI μ1 (k + 12) s (jv (-1))) k 2 (jv ((N + 1 : Nat) : Int))) k 3 (jv ((fr + 1 : Nat) : Int))) ((Fm.rf.sI (by omega)).sI (by omega))
    exact ⟨_, rfl, ⟨by rw [sI_1, if_neg (by omega), sI_1, if_pos ⟨rfl, rfl⟩], by rw [sI_1, if_pos ⟨rfl, rfl⟩, if_pos rfl]⟩, g1, g2, g3⟩
  · rw [if_neg (show ¬ jv 1 = jv 0 by decide)]
    obtain ⟨g1, g2, g3⟩ := fin (sI (sI μ1 (k + 12) s (jv (-1))) k 2 (jv ((N + 1 : Nat) : Int))) (Fm.rf.sI (by omega))
    exact ⟨_, rfl, ⟨by rw [sI_1, if_pos ⟨rfl, rfl⟩], by rw [sI_1, if_neg (by omega), k3, if_neg (by omega)]⟩, g1, g2, g3⟩
/-- the part into which a new section comes -/
def ptN (N fr s : Nat) : Int := if s < fr ∨ fr = N then 0 else 1
theorem ptN_b (hs : s ≤ N) (hf : fr ≤ N) : ptN N fr s = 0 ∧ s ≤ fr ∨ ptN N fr s = 1 ∧ fr ≤ s := by
  unfold ptN
  split
  · exact Or.inl ⟨rfl, by omega⟩
  · exact Or.inr ⟨rfl, by omega⟩
theorem pnC {μ : Mm} (hw : WB 500 R N fr) (hb : CB 11 μ R N fr) (hs : s ≤ N) : sh_X0_partForNew 11 (jv s) μ = some (jv (ptN N fr s)) := by
  have hN := hw.1
  unfold sh_X0_partForNew ptN
  rw [hb.2.2.1.2.2, hb.2.2.1.2.1]
  by_cases z : s < fr
  · rw [if_pos (by rw [jv_lt] <;> omega), if_pos (Or.inl z)]
    rfl
  · rw [if_neg (by rw [jv_lt] <;> omega)]
    by_cases y : fr = N
    · rw [if_pos (by rw [y]), if_pos (Or.inr y)]
      rfl
    · rw [if_neg (by rw [jv_eq] <;> omega), if_neg (by omega)]
      rfl
/-- the greatest level, by the class -/
theorem glC {k : Nat} {μ : Mm} (hw : WB 500 R N fr) (hb : CB k μ R N fr) (hs : s ≤ N) (hpt : pt = 0 ∧ s ≤ fr ∨ pt = 1 ∧ fr ≤ s) : sh_X0_greatestLevel k (jv pt) (jv s) μ = some (jv (if s = (if pt = 0 then 0 else fr) then 1 else if 4 < lev R (s - 1) + 1 then 4 else lev R (s - 1) + 1)) := by
  have hN := hw.1
  have epb : sh_X0_partBegin k (jv pt) μ = some (jv ((if pt = 0 then 0 else fr : Nat) : Int)) := by
    unfold sh_X0_partBegin
    rcases hpt with ⟨rfl, _⟩ | ⟨rfl, _⟩
    · rw [if_pos zro]; rfl
    · rw [if_neg one_ne, hb.2.2.1.2.2]; rfl
  have e24 : (if pt = 0 then 0 else fr) ≤ 24 ∧ ((if pt = 0 then 0 else fr) ≤ s) := by rcases hpt with ⟨a, b⟩ | ⟨a, b⟩ <;> (rw [a]; simp <;> omega)
  unfold sh_X0_greatestLevel
  rw [epb, Option.bind_some]
  generalize (if pt = 0 then 0 else fr) = pb at *
  by_cases z : s = pb
  · rw [if_pos (by rw [z]), if_pos z]
    rfl
  · have hl1 := (hw.sec (s := s - 1) (by omega)).2.1
    rw [if_neg (by rw [jv_eq] <;> omega), if_neg z]
    simp only [jv_lit]
    rw [jv_sub, show (s : Int) - 1 = ((s - 1 : Nat) : Int) by omega, hb.lv hw (by omega), Option.bind_some, jv_add]
    by_cases y : 4 < lev R (s - 1) + 1
    · rw [if_pos (show jv 4 < _ by rw [jv_lt] <;> omega), if_pos y]
    · rw [if_neg (show ¬ jv 4 < _ by rw [jv_lt] <;> omega), if_neg y]
theorem lsI {μ : Mm} (hw : WB 500 R N fr) (hb : CB 11 μ R N fr) (hs : s ≤ N) (hpt : pt = 0 ∧ s ≤ fr ∨ pt = 1 ∧ fr ≤ s) (hlv : 1 ≤ lv ∧ lv ≤ 4) : sh_X0_levelStands 11 (jv pt) (jv s) (jv s) (jv lv) μ = some (jv (if okIn R N fr s pt lv then 1 else 0)) := by
  have hN := hw.1
  have hp : pt = 0 ∨ pt = 1 := by omega
  have hg := glC hw hb hs hpt
  obtain ⟨gl, hgl⟩ : ∃ gl, gl = (if s = (if pt = 0 then 0 else fr) then 1 else lev R (s - 1) + 1) := ⟨_, rfl⟩
  obtain ⟨pe, hpe⟩ : ∃ pe, pe = (if pt = 0 then fr else N) := ⟨_, rfl⟩
  have hok : okIn R N fr s pt lv ↔ lv ≤ gl ∧ (s < pe → lev R s ≤ lv + 1) := by
    rw [hgl, hpe]
  have e24 : sh_X0_levelStands_24 11 (jv pt) (jv s) (jv s) (jv lv) μ = some (jv (if lv ≤ gl then 1 else 0)) := by
    clear hok
    subst hgl
    unfold sh_X0_levelStands_24 sh_X0_levelStands_29
    rw [if_neg (show ¬ (1 : Int32) = 0 by decide), hg, Option.bind_some]
    have hpb : (if pt = 0 then 0 else fr) ≤ s := by rcases hpt with ⟨a, b⟩ | ⟨a, b⟩ <;> (rw [a]; simp <;> omega)
    generalize (if pt = 0 then 0 else fr) = pb at *
    by_cases z : s = pb
    · rw [if_pos z, if_pos z]
      by_cases y : lv ≤ 1
      · rw [if_neg (by rw [jv_lt] <;> omega), if_pos y]; rfl
      · rw [if_pos (by rw [jv_lt] <;> omega), if_neg y]; rfl
    · have hl1 := (hw.sec (s := s - 1) (by omega)).2.1
      rw [if_neg z, if_neg z]
      by_cases x : 4 < lev R (s - 1) + 1
      · rw [if_pos x, if_neg (by rw [jv_lt] <;> omega), if_pos (by omega)]; rfl
      · rw [if_neg x]
        by_cases y : lv ≤ lev R (s - 1) + 1
        · rw [if_neg (by rw [jv_lt] <;> omega), if_pos y]; rfl
        · rw [if_pos (by rw [jv_lt] <;> omega), if_neg y]; rfl
  have he : pe ≤ N := by rw [hpe]; split <;> omega
  have e1 : sh_X0_partEnd 11 (jv pt) μ = some (jv (pe : Nat)) := by rw [hpe]; exact (peC hb hp).1
  unfold sh_X0_levelStands
  rw [e1, Option.bind_some, e24]
  by_cases z : pe ≤ s
  · rw [if_pos (by rw [jv_le] <;> omega)]
    congr 2
    by_cases y : lv ≤ gl
    · rw [if_pos y, if_pos (hok.mpr ⟨y, fun q => by omega⟩)]
    · rw [if_neg y, if_neg (fun q => y (hok.mp q).1)]
  · have hl := (hw.sec (s := s) (by omega)).2.1
    rw [if_neg (by rw [jv_le] <;> omega), hb.lv hw (by omega), Option.bind_some, jv_lit (nat_lit 1), jv_add]
    by_cases x : lv + 1 < lev R s
    · rw [if_pos (by rw [jv_lt] <;> omega), if_neg (fun q => by have := (hok.mp q).2 (by omega); omega)]
      rfl
    · rw [if_neg (by rw [jv_lt] <;> omega)]
      congr 2
      by_cases y : lv ≤ gl
      · rw [if_pos y, if_pos (hok.mpr ⟨y, fun q => by omega⟩)]
      · rw [if_neg y, if_neg (fun q => y (hok.mp q).1)]
/-! the model -/
theorem pfM {μ : Mm} (hw : WB 500 R N fr) (hb : MB 307 μ R) (hs : s ≤ N) : sh_X12_partFor (jv s) μ = some (jv (ptN N fr s)) := by
  have hN := hw.1
  unfold sh_X12_partFor ptN
  simp only [jv_lit]
  rw [mbl9 hb, Option.bind_some, hN.1]
  by_cases z : N = 0
  · rw [if_pos (by rw [z]; rfl), if_pos (by omega)]
  · rw [if_neg (by rw [jv_eq] <;> omega), Option.bind_some, jv_sub]
    by_cases y : s < N
    · rw [if_neg (show ¬ jv ((N : Int) - 1) < jv s by rw [jv_lt] <;> omega), hb.oP (by omega), Option.bind_some]
      rcases hw.pb y with ⟨a, b⟩ | ⟨a, b⟩
      · rw [a, if_pos (by omega)]
      · rw [a, if_neg (by omega)]
    · rw [if_pos (show jv ((N : Int) - 1) < jv s by rw [jv_lt] <;> omega), show (N : Int) - 1 = ((N - 1 : Nat) : Int) by omega, hb.oP (by omega), Option.bind_some]
      rcases hw.pb (s := N - 1) (by omega) with ⟨a, b⟩ | ⟨a, b⟩
      · rw [a, if_pos (by omega)]
      · rw [a, if_neg (by omega)]
theorem LB_in (hw : WB 500 R N fr) (hs : s ≤ N) (hf : pt = ptN N fr s) : LB R s pt = if s = (if pt = 0 then 0 else fr) then 1 else if lev R (s - 1) + 1 < 4 then lev R (s - 1) + 1 else 4 := by
  have hN := hw.1
  have hb := ptN_b hs hN.2.2
  rw [← hf] at hb
  have hd : pt = 0 → s < fr ∨ fr = N := fun a => by
    rw [hf] at a
    unfold ptN at a
    by_cases q : s < fr ∨ fr = N
    · exact q
    · rw [if_neg q] at a; omega
  unfold LB
  by_cases z : s = 0
  · have e : s = (if pt = 0 then 0 else fr) := by rcases hb with ⟨a, b⟩ | ⟨a, b⟩ <;> (rw [a]; simp <;> omega)
    rw [if_pos z, if_pos e]
  · rw [if_neg z]
    rcases hb with ⟨a, b⟩ | ⟨a, b⟩
    · have := hd a
      rw [if_pos a, if_neg z, hw.p0 (s := s - 1) (by omega) (by omega), a, if_pos rfl]
    · rw [if_neg (show ¬ pt = 0 by omega)]
      by_cases y : s = fr
      · rw [if_pos y, hw.p0 (s := s - 1) (by omega) (by omega), a, if_neg (by omega)]
      · rw [if_neg y, hw.p1 (s := s - 1) (by omega) (by omega), a, if_pos rfl]
theorem cbM {μ : Mm} (hw : WB 500 R N fr) (hb : MB 307 μ R) (hs : s ≤ N) (hlv : 1 ≤ lv ∧ lv ≤ 4) : sh_X12_canBeAt (jv s) (jv lv) μ = some (jv (if okIn R N fr s (ptN N fr s) lv then 1 else 0)) := by
  have hN := hw.1
  have hpb := ptN_b hs hN.2.2
  have hLB := LB_in hw hs rfl
  have hlb := lbM hb (s := s) (by omega) (p := ptN N fr s) (by omega) (fun h0 => ⟨by rcases hw.pb (s := s - 1) (by omega) with h | h <;> omega, (hw.sec (s := s - 1) (by omega)).2.1⟩)
  have hLb := LB_b R s (ptN N fr s) (fun h0 => (hw.sec (s := s - 1) (by omega)).2.1.1)
  have hd : ptN N fr s = 0 → s < fr ∨ fr = N := fun a => by
    unfold ptN at a
    by_cases q : s < fr ∨ fr = N
    · exact q
    · rw [if_neg q] at a; omega
  unfold sh_X12_canBeAt
  rw [pfM hw hb hs, Option.bind_some]
  simp only [jv_lit]
  rw [jv_sub, hlb, Option.bind_some]
  have hok : okIn R N fr s (ptN N fr s) lv ↔ lv ≤ LB R s (ptN N fr s) ∧ (s < (if ptN N fr s = 0 then fr else N) → lev R s ≤ lv + 1) := by
    rw [hLB]
    generalize ptN N fr s = pt at *
    by_cases z : s = (if pt = 0 then 0 else fr)
    · show (lv ≤ (if s = (if pt = 0 then 0 else fr) then 1 else lev R (s - 1) + 1) ∧ _) ↔ _
      rw [if_pos z, if_pos z]
    · show (lv ≤ (if s = (if pt = 0 then 0 else fr) then 1 else lev R (s - 1) + 1) ∧ _) ↔ _
      rw [if_neg z, if_neg z]
      refine and_congr_left (fun _ => ?_)
      split <;> omega
  generalize LB R s (ptN N fr s) = L at *
  by_cases z : lv ≤ L
  · rw [if_pos (by rw [jv_le] <;> omega), mbl9 hb, Option.bind_some, hN.1]
    by_cases y : s = N
    · have : ¬ s < (if ptN N fr s = 0 then fr else N) := by split <;> omega
      rw [if_pos (by rw [y]), if_pos (hok.mpr ⟨z, fun q => absurd q this⟩)]
    · have hl := (hw.sec (s := s) (by omega)).2.1
      rw [if_neg (by rw [jv_eq] <;> omega), hb.oP (by omega), Option.bind_some]
      have hpe : prt R s = ptN N fr s ↔ s < (if ptN N fr s = 0 then fr else N) := by
        rcases hpb with ⟨a, b⟩ | ⟨a, b⟩
        · rw [a, if_pos rfl]
          rcases hw.pb (s := s) (by omega) with ⟨c, d⟩ | ⟨c, d⟩ <;> rw [c] <;> omega
        · rw [a, if_neg (by omega)]
          rcases hw.pb (s := s) (by omega) with ⟨c, d⟩ | ⟨c, d⟩ <;> rw [c] <;> omega
      have hpR : prt R s = 0 ∨ prt R s = 1 := by rcases hw.pb (s := s) (by omega) with h | h <;> omega
      by_cases x : prt R s = ptN N fr s
      · rw [if_pos (by rw [x]), hb.oL (by omega), Option.bind_some, jv_add]
        by_cases w : lv + 1 < lev R s
        · rw [if_pos (by rw [jv_lt] <;> omega), if_neg (fun q => by have := (hok.mp q).2 (hpe.mp x); omega)]
        · rw [if_neg (by rw [jv_lt] <;> omega), if_pos (hok.mpr ⟨z, fun _ => by omega⟩)]
      · rw [if_neg (by rw [jv_eq] <;> omega), if_pos (hok.mpr ⟨z, fun q => absurd (hpe.mpr q) x⟩)]
  · rw [if_neg (by rw [jv_le] <;> omega), if_neg (fun q => z (hok.mp q).1)]
def movR (R : Nat → Int) (N s : Nat) : Nat → Int := fun i => if i = 9 then (N : Int) + 1 else if 12 + 102 * (s + 1) ≤ i ∧ i < 12 + 102 * (N + 1) then R (i - 102) else R i
theorem ms17 {a1 : Nat} (hN : N < 24) (ha : a1 ≤ N) : ∀ (m f : Nat) (μ : Mm), m ≤ 102 * (N - a1) → m < f → (∀ i, i < 12 + 102 * (N + 1) → 12 + 102 * a1 + m + 102 ≤ i → i < 12 + 102 * (N + 1)) → ∃ μ1, sh_X12_moveSections_17 n (jv a1) (jv 1) f (jv (102 * (a1 : Int) + m - 1)) μ = sh_X12_moveSections_105 n (jv a1) (jv 1) μ1 ∧ (∀ i, μ1.1 307 i = if 12 + 102 * (a1 + 1) ≤ i ∧ i < 12 + 102 * (a1 + 1) + m then μ.1 307 (i - 102) else μ.1 307 i) ∧ Fm (fun k j => k = 307 ∧ j < 2460 ∧ j ≠ 9) μ μ1 := by
  have l1 : ln 307 = 18701 := rfl
  intro m
  induction m with
  | zero =>
    intro f μ hm hf _
    obtain ⟨f, rfl⟩ : ∃ g, f = g + 1 := ⟨f - 1, by omega⟩
    rw [sh_X12_moveSections_17, jv_lit (nat_lit 102), jv_mul, if_pos (by rw [jv_lt] <;> omega)]
    exact ⟨μ, rfl, fun i => by rw [if_neg (by omega)], Fm.rf⟩
  | succ m ih =>
    intro f μ hm hf h0
    obtain ⟨f, rfl⟩ : ∃ g, f = g + 1 := ⟨f - 1, by omega⟩
    rw [sh_X12_moveSections_17]
    simp only [jv_lit]
    rw [jv_mul, if_neg (by rw [jv_lt] <;> omega), jv_add, ld_jv (by omega) (by omega), Option.bind_some, jv_mul, jv_add, st_jv (by omega) (by omega), Option.bind_some, show (12 + (102 * (a1 : Int) + ((m + 1 : Nat) : Int) - 1)).toNat = 12 + 102 * a1 + m by omega, show (12 + (102 * (a1 : Int) + ((m + 1 : Nat) : Int) - 1) + 102 * 1).toNat = 12 + 102 * a1 + m + 102 by omega, jv_neg, jv_add, show 102 * (a1 : Int) + ((m + 1 : Nat) : Int) - 1 + -1 = 102 * (a1 : Int) + (m : Int) - 1 by omega]
    have f0 : Fm (fun k j => k = 307 ∧ j < 2460 ∧ j ≠ 9) μ (sI μ 307 (12 + 102 * a1 + m + 102) (μ.1 307 (12 + 102 * a1 + m))) := Fm.rf.sI ⟨rfl, by omega, by omega⟩
    obtain ⟨μ1, e1, a2, a3⟩ := ih f (sI μ 307 (12 + 102 * a1 + m + 102) (μ.1 307 (12 + 102 * a1 + m))) (by omega) (by omega) (fun i hi _ => hi)
    refine ⟨μ1, e1, fun i => ?_, f0.tr a3 (fun _ _ y => y)⟩
    rw [a2, sI_1, sI_1]
    by_cases z : i = 12 + 102 * a1 + m + 102
    · rw [if_neg (by omega), if_pos ⟨rfl, z⟩, if_pos (by omega), show i - 102 = 12 + 102 * a1 + m by omega]
    · by_cases y : 12 + 102 * (a1 + 1) ≤ i ∧ i < 12 + 102 * (a1 + 1) + m
      · rw [if_pos y, if_neg (by omega), if_pos (by omega)]
      · rw [if_neg y, if_neg (fun q => z q.2), if_neg (by omega)]
theorem mvM (hn : 3000 ≤ n) (hw : WB 500 R N fr) (hN : N < 24) (hs : s ≤ N) {μ : Mm} (hb : MB 307 μ R) : ∃ μ1, sh_X12_moveSections n (jv s) (jv 1) μ = some μ1 ∧ MB 307 μ1 (movR R N s) ∧ Fm (fun k j => k = 307 ∧ j < 2460) μ μ1 := by
  have hNN := hw.1
  have l1 : ln 307 = 18701 := rfl
  obtain ⟨μ1, e1, a1, a2⟩ := ms17 (n := n) hN hs (102 * (N - s)) n μ (Nat.le_refl _) (by omega) (fun i hi _ => hi)
  unfold sh_X12_moveSections
  simp only [nm_eq, jv_lit]
  rw [if_neg (show ¬ jv 1 ≤ jv 0 by decide), mbl9 hb, Option.bind_some, hNN.1, jv_mul, jv_sub, show 102 * (N : Int) - 1 = 102 * (s : Int) + ((102 * (N - s) : Nat) : Int) - 1 by omega, e1]
  have h9 : μ1.1 307 9 = jv N := by rw [a2.at _ _ (by omega), hb.2.2 9 (by omega), hNN.1]
  unfold sh_X12_moveSections_105
  simp only [jv_lit]
  rw [ld_jv (by omega) (by omega), Option.bind_some, show (9 : Int).toNat = 9 from rfl, h9, jv_add, st_jv (by omega) (by omega), Option.bind_some, show (9 : Int).toNat = 9 from rfl]
  refine ⟨_, rfl, ⟨hb.1, by rw [sI_2, a2.1]; exact hb.2.1, fun i hi => ?_⟩, (a2.mono (fun k j y => ⟨y.1, y.2.1⟩)).sI ⟨rfl, by omega⟩⟩
  rw [sI_1]
  unfold movR
  by_cases z : i = 9
  · rw [if_pos ⟨rfl, z⟩, if_pos z]
  · rw [if_neg (fun q => z q.2), if_neg z, a1]
    by_cases y : 12 + 102 * (s + 1) ≤ i ∧ i < 12 + 102 * (N + 1)
    · rw [if_pos (by omega), if_pos y, hb.2.2 _ (by omega)]
    · rw [if_neg (by omega), if_neg y, hb.2.2 _ (by omega)]
/-- the book with the new section -/
def insB (R : Nat → Int) (N s : Nat) (lv ln pt : Int) : Nat → Int := bup (bup (bup (bup (bup (movR R N s) (12 + 102 * s + 0) lv) (12 + 102 * s + 1) ln) (12 + 102 * s + 2) pt) (12 + 102 * s + 4) (-1)) (12 + 102 * s + 5) 0
theorem insF_of (hs : s ≤ N) (hx : x ≤ 8) : InsF R (tiR (insB R N s lv ln pt) s I p x) N s lv ln pt I p x ∧ (∀ c, c < 12 → c ≠ 9 → tiR (insB R N s lv ln pt) s I p x c = R c) ∧ tiR (insB R N s lv ln pt) s I p x (frm s) = -1 := by
  have hne : ∀ c, c ≠ 12 + 102 * s + 0 → c ≠ 12 + 102 * s + 1 → c ≠ 12 + 102 * s + 2 → c ≠ 12 + 102 * s + 4 → c ≠ 12 + 102 * s + 5 → insB R N s lv ln pt c = movR R N s c := by
    intro c h0 h1 h2 h4 h5
    unfold insB
    rw [bup_ne h5, bup_ne h4, bup_ne h2, bup_ne h1, bup_ne h0]
  have hlow : ∀ c, c < 12 → c ≠ 9 → tiR (insB R N s lv ln pt) s I p x c = R c := by
    intro c hc h9
    rw [tiR_ne (by omega) x hx (by omega), hne c (by omega) (by omega) (by omega) (by omega) (by omega)]
    unfold movR
    rw [if_neg h9, if_neg (by omega)]
  refine ⟨⟨?_, fun c hc => hlow c (by omega) (by omega), fun j hj hjs f hf => ?_, ⟨?_, ?_, ?_, tiR_w x hx⟩, fun w hw q hq => tiR_l hq x hx hw⟩, hlow, ?_⟩
  · rw [tiR_ne (by omega) x hx (by omega), hne 9 (by omega) (by omega) (by omega) (by omega) (by omega)]
    exact if_pos rfl
  · rw [tiR_ne (by omega) x hx (by omega), hne _ (by omega) (by omega) (by omega) (by omega) (by omega)]
    unfold movR sh2
    rw [if_neg (by omega)]
    by_cases z : j < s
    · rw [if_neg (by omega), if_pos z]
    · rw [if_pos (by omega), if_neg z, show 12 + 102 * j + f - 102 = 12 + 102 * (j - 1) + f by omega]
  · show tiR (insB R N s lv ln pt) s I p x (12 + 102 * s + 0) = lv
    rw [tiR_ne (by omega) x hx (by omega)]
    unfold insB
    rw [bup_ne (by omega), bup_ne (by omega), bup_ne (by omega), bup_ne (by omega)]
    exact if_pos rfl
  · show tiR (insB R N s lv ln pt) s I p x (12 + 102 * s + 1) = ln
    rw [tiR_ne (by omega) x hx (by omega)]
    unfold insB
    rw [bup_ne (by omega), bup_ne (by omega), bup_ne (by omega)]
    exact if_pos rfl
  · show tiR (insB R N s lv ln pt) s I p x (12 + 102 * s + 2) = pt
    rw [tiR_ne (by omega) x hx (by omega)]
    unfold insB
    rw [bup_ne (by omega), bup_ne (by omega)]
    exact if_pos rfl
  · show tiR (insB R N s lv ln pt) s I p x (12 + 102 * s + 4) = -1
    rw [tiR_ne (by omega) x hx (by omega)]
    unfold insB
    rw [bup_ne (by omega)]
    exact if_pos rfl
end INS
