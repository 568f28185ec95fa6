/-! THE CLASS'S BOOK and its measures -/
def okB (k : Nat) : Prop := ln (k + 2) = 8 ∧ ln (k + 4) = 24 ∧ ln (k + 6) = 24 ∧ ln (k + 8) = 24 ∧ ln (k + 10) = 192 ∧ ln (k + 12) = 24
def CB (k : Nat) (μ : Mm) (R : Nat → Int) (N fr : Nat) : Prop := okB k ∧ (∀ i, i < 8 → μ.1 (k + 2) i = jv (R i)) ∧ (μ.1 k 1 = jv (R 8) ∧ μ.1 k 2 = jv N ∧ μ.1 k 3 = jv fr) ∧ ∀ s, s < N → μ.1 (k + 4) s = jv (lev R s) ∧ μ.1 (k + 6) s = jv (lng R s) ∧ μ.1 (k + 8) s = jv (wct R s) ∧ ∀ w : Nat, (w : Int) < wct R s → μ.2.1 (k + 10) (8 * s + w) = pk (lt R s w)
theorem CB.fr {k : Nat} {μ μ' : Mm} {R : Nat → Int} {N fr : Nat} {P : Nat → Nat → Prop} (h : CB k μ R N fr) (hf : Fm P μ μ') (hp : ∀ q j, k ≤ q → q ≤ k + 12 → ¬ P q j) : CB k μ' R N fr := by
  obtain ⟨h0, h1, ⟨h2, h3, h4⟩, h5⟩ := h
  refine ⟨h0, fun i hi => by rw [hf.2 _ _ (hp _ _ (by omega) (by omega))]; exact h1 i hi, ⟨?_, ?_, ?_⟩, fun s hs => ⟨?_, ?_, ?_, fun w hw => ?_⟩⟩
  · rw [hf.2 _ _ (hp _ _ (by omega) (by omega))]; exact h2
  · rw [hf.2 _ _ (hp _ _ (by omega) (by omega))]; exact h3
  · rw [hf.2 _ _ (hp _ _ (by omega) (by omega))]; exact h4
  · rw [hf.2 _ _ (hp _ _ (by omega) (by omega))]; exact (h5 s hs).1
  · rw [hf.2 _ _ (hp _ _ (by omega) (by omega))]; exact (h5 s hs).2.1
  · rw [hf.2 _ _ (hp _ _ (by omega) (by omega))]; exact (h5 s hs).2.2.1
  · rw [hf.1]; exact (h5 s hs).2.2.2 w hw
section CBR
variable {k : Nat} {μ : Mm} {R : Nat → Int} {N fr : Nat}
theorem CB.se (h : CB k μ R N fr) (i : Nat) (hi : i < 8) : sh_X5_at (k + 1) (jv i) μ = some (jv (R i)) := by
  have e : ln (k + 1 + 1) = 8 := h.1.1
  rw [a5_in (by omega) (by omega), Int.toNat_natCast]
  exact congrArg some (h.2.1 i hi)
theorem CB.s0 (h : CB k μ R N fr) : sh_X5_at (k + 1) (jv 0) μ = some (jv (R 0)) := h.se 0 (by omega)
theorem CB.s1 (h : CB k μ R N fr) : sh_X5_at (k + 1) (jv 1) μ = some (jv (R 1)) := h.se 1 (by omega)
theorem CB.s2 (h : CB k μ R N fr) : sh_X5_at (k + 1) (jv 2) μ = some (jv (R 2)) := h.se 2 (by omega)
theorem CB.s3 (h : CB k μ R N fr) : sh_X5_at (k + 1) (jv 3) μ = some (jv (R 3)) := h.se 3 (by omega)
theorem CB.s4 (h : CB k μ R N fr) : sh_X5_at (k + 1) (jv 4) μ = some (jv (R 4)) := h.se 4 (by omega)
theorem CB.s5 (h : CB k μ R N fr) : sh_X5_at (k + 1) (jv 5) μ = some (jv (R 5)) := h.se 5 (by omega)
theorem CB.s6 (h : CB k μ R N fr) : sh_X5_at (k + 1) (jv 6) μ = some (jv (R 6)) := h.se 6 (by omega)
theorem CB.s7 (h : CB k μ R N fr) : sh_X5_at (k + 1) (jv 7) μ = some (jv (R 7)) := h.se 7 (by omega)
theorem CB.lv (h : CB k μ R N fr) {K : Int} (hw : WB K R N fr) {s : Nat} (hs : s < N) : sh_X5_at (k + 3) (jv s) μ = some (jv (lev R s)) := by
  have e : ln (k + 3 + 1) = 24 := h.1.2.1
  have := hw.1.2.1
  rw [a5_in (by omega) (by omega), Int.toNat_natCast]
  exact congrArg some (h.2.2.2 s hs).1
theorem CB.lg (h : CB k μ R N fr) {K : Int} (hw : WB K R N fr) {s : Nat} (hs : s < N) : sh_X5_at (k + 5) (jv s) μ = some (jv (lng R s)) := by
  have e : ln (k + 5 + 1) = 24 := h.1.2.2.1
  have := hw.1.2.1
  rw [a5_in (by omega) (by omega), Int.toNat_natCast]
  exact congrArg some (h.2.2.2 s hs).2.1
theorem CB.wc (h : CB k μ R N fr) {K : Int} (hw : WB K R N fr) {s : Nat} (hs : s < N) : sh_X5_at (k + 7) (jv s) μ = some (jv (wct R s)) := by
  have e : ln (k + 7 + 1) = 24 := h.1.2.2.2.1
  have := hw.1.2.1
  rw [a5_in (by omega) (by omega), Int.toNat_natCast]
  exact congrArg some (h.2.2.2 s hs).2.2.1
theorem CB.ti (h : CB k μ R N fr) {K : Int} (hw : WB K R N fr) {s w : Nat} (hs : s < N) (hww : (w : Int) < wct R s) : sh_X9_at (k + 9) (jv ((s : Int) * 8 + w)) μ = some (pk (lt R s w)) := by
  have e : ln (k + 9 + 1) = 192 := h.1.2.2.2.2.1
  have := hw.1.2.1
  have h8 := (hw.sec hs).2.2.2.1
  rw [a9_in (by omega) (by omega), show ((s : Int) * 8 + w).toNat = 8 * s + w by omega]
  exact congrArg some ((h.2.2.2 s hs).2.2.2 w hww)
theorem WB.p0 {K : Int} (hw : WB K R N fr) {s : Nat} (hs : s < N) : s < fr → prt R s = 0 := fun q => by rw [(hw.sec hs).1, if_pos q]
theorem WB.p1 {K : Int} (hw : WB K R N fr) {s : Nat} (hs : s < N) : fr ≤ s → prt R s = 1 := fun q => by rw [(hw.sec hs).1, if_neg (by omega)]
theorem WB.pb {K : Int} (hw : WB K R N fr) {s : Nat} (hs : s < N) : prt R s = 0 ∧ s < fr ∨ prt R s = 1 ∧ fr ≤ s := by
  rcases Nat.lt_or_ge s fr with q | q
  · exact Or.inl ⟨hw.p0 hs q, q⟩
  · exact Or.inr ⟨hw.p1 hs q, q⟩
theorem CB.po (h : CB k μ R N fr) {K : Int} (hw : WB K R N fr) {s : Nat} (hs : s < N) : sh_X0_partOf k (jv s) μ = some (jv (prt R s)) := by
  have h1 := hw.1
  have hp := hw.pb hs
  unfold sh_X0_partOf
  rw [h.2.2.1.2.2]
  simp only [jv_lit]
  rcases hp with ⟨e, q⟩ | ⟨e, q⟩
  · rw [if_neg (by rw [jv_le] <;> omega), e]
  · rw [if_pos (by rw [jv_le] <;> omega), e]
end CBR
def ch (R : Nat → Int) (s : Nat) : Nat → Int
  | 0 => 0
  | m + 1 => ch R s m + (if pr R m = s then 1 else 0)
def lbw (R : Nat → Int) (s : Nat) : Int := if prt R s = 1 then wsum (lab R s) else 0
def tok (R : Nat → Int) (s w : Nat) : List Int := (if w = 0 ∧ prt R s = 1 then lab R s ++ [32] else []) ++ lw (lt R s w)
def tokW (R : Nat → Int) (s w : Nat) : Int := wsum (tok R s w)
def ttl (R : Nat → Int) (s : Nat) : Nat → Int
  | 0 => 0
  | w + 1 => ttl R s w + (tokW R s w + if w = 0 then 0 else 1)
def ttw (R : Nat → Int) (s : Nat) : Int := ttl R s (wct R s).toNat
def okMe (m : Nat) : Prop := ln (m + 2) = 24 ∧ ln (m + 4) = 24 ∧ ln (m + 6) = 24 ∧ ln (m + 8) = 24 ∧ ln (m + 10) = 192 ∧ ln (m + 12) = 24
def ME (m : Nat) (μ : Mm) (R : Nat → Int) (i : Nat) : Prop := okMe m ∧ ∀ s, s < i → μ.1 (m + 2) s = jv (pr R s) ∧ μ.1 (m + 4) s = jv (ch R s i) ∧ μ.1 (m + 6) s = jv (od R s) ∧ μ.1 (m + 8) s = jv (lbw R s) ∧ (∀ w : Nat, (w : Int) < wct R s → μ.1 (m + 10) (8 * s + w) = jv (tokW R s w)) ∧ μ.1 (m + 12) s = jv (ttw R s)
theorem ME.fr {m : Nat} {μ μ' : Mm} {R : Nat → Int} {i : Nat} {P : Nat → Nat → Prop} (h : ME m μ R i) (hf : Fm P μ μ') (hp : ∀ q j, m ≤ q → q < m + 13 → ¬ P q j) : ME m μ' R i := by
  refine ⟨h.1, fun s hs => ?_⟩
  have h2 := h.2 s hs
  refine ⟨?_, ?_, ?_, ?_, fun w hw => ?_, ?_⟩
  · rw [hf.2 _ _ (hp _ _ (by omega) (by omega))]; exact h2.1
  · rw [hf.2 _ _ (hp _ _ (by omega) (by omega))]; exact h2.2.1
  · rw [hf.2 _ _ (hp _ _ (by omega) (by omega))]; exact h2.2.2.1
  · rw [hf.2 _ _ (hp _ _ (by omega) (by omega))]; exact h2.2.2.2.1
  · rw [hf.2 _ _ (hp _ _ (by omega) (by omega))]; exact h2.2.2.2.2.1 w hw
  · rw [hf.2 _ _ (hp _ _ (by omega) (by omega))]; exact h2.2.2.2.2.2
def bgn (fr s : Nat) : Nat := if s < fr then 0 else fr
theorem prG_bg {K : Int} {R : Nat → Int} {N fr : Nat} (hw : WB K R N fr) {s : Nat} (hs : s < N) : prG R s (bgn fr s) = -1 := by
  unfold bgn
  split
  · rfl
  · next q =>
    cases fr with
    | zero => rfl
    | succ g =>
      have e1 := hw.p0 (s := g) (by omega) (by omega)
      have e2 := hw.p1 hs (by omega)
      rw [prG, if_neg (by omega)]
theorem odG_bg {K : Int} {R : Nat → Int} {N fr : Nat} (hw : WB K R N fr) {s : Nat} (hs : s < N) : ∀ k, k ≤ bgn fr s → odG R s k = 1 := by
  intro k
  induction k with
  | zero => intro _; rfl
  | succ k ih =>
    intro hk
    unfold bgn at hk ih
    split at hk
    · omega
    · next q =>
      rw [if_neg q] at ih
      have e1 := hw.p0 (s := k) (by omega) (by omega)
      have e2 := hw.p1 hs (by omega)
      rw [odG, ih (by omega), if_neg (fun z => by omega)]
      rfl
theorem pr_part {K : Int} {R : Nat → Int} {N fr : Nat} (hw : WB K R N fr) (s : Nat) : ∀ k, 0 ≤ prG R s k → prt R (prG R s k).toNat = prt R s := by
  intro k
  induction k with
  | zero => intro h; exact absurd h (by show ¬ (0 : Int) ≤ -1; omega)
  | succ k ih =>
    rw [prG]
    split
    · next q =>
      split
      · intro _
        rw [Int.toNat_natCast]
        exact q
      · exact ih
    · intro h
      omega
theorem ch_own (R : Nat → Int) (s : Nat) : ∀ k, k ≤ s + 1 → ch R s k = 0 := by
  intro k
  induction k with
  | zero => intro _; rfl
  | succ k ih =>
    intro hk
    have := pr_b R k
    rw [ch, ih (by omega), if_neg (by omega)]
    rfl
theorem ch_b (R : Nat → Int) (s : Nat) : ∀ k, 0 ≤ ch R s k ∧ ch R s k ≤ k := by
  intro k
  induction k with
  | zero => exact ⟨Int.le_refl _, Int.le_refl _⟩
  | succ k ih =>
    rw [ch]
    split <;> omega
section MEA
variable {n m kb : Nat} {R : Nat → Int} {K : Int} {N fr s : Nat}
theorem fp15 {μ : Mm} (hb : CB kb μ R N fr) (hw : WB K R N fr) (hs : s < N) : ∀ (j f : Nat), bgn fr s + j ≤ s → j < f → sh_X2_findPlace_15 n m kb (jv s) f (jv (bgn fr s)) (jv ((bgn fr s + j : Nat) - 1 : Int)) μ = sh_X2_findPlace_67 n m kb (jv s) n (jv (prG R s (bgn fr s + j))) (jv 1) (jv (bgn fr s)) μ := by
  have hN := hw.1.2.1
  have hg : bgn fr s ≤ s := by unfold bgn; split <;> omega
  intro j
  induction j with
  | zero =>
    intro f hj hf
    obtain ⟨f, rfl⟩ : ∃ g, f = g + 1 := ⟨f - 1, by omega⟩
    rw [sh_X2_findPlace_15, Nat.add_zero, if_pos (by rw [jv_lt] <;> omega), prG_bg hw hs]
    unfold sh_X2_findPlace_47
    rw [if_neg (by rw [jv_le] <;> omega)]
    simp only [jv_lit, jv_neg]
  | succ j ih =>
    intro f hj hf
    obtain ⟨f, rfl⟩ : ∃ g, f = g + 1 := ⟨f - 1, by omega⟩
    have h1 := hw.sec (s := bgn fr s + j) (by omega)
    have h2 := hw.sec hs
    have hp : prt R (bgn fr s + j) = prt R s := by
      rw [h1.1, h2.1]
      unfold bgn
      split
      · next q => rw [if_pos (by unfold bgn at hj; rw [if_pos q] at hj; omega)]
      · next q => rw [if_neg (by omega)]
    rw [sh_X2_findPlace_15, show ((bgn fr s + (j + 1) : Nat) : Int) - 1 = ((bgn fr s + j : Nat) : Int) by omega, if_neg (by rw [jv_lt] <;> omega), hb.lv hw (by omega), Option.bind_some, hb.lv hw hs, Option.bind_some, show bgn fr s + (j + 1) = bgn fr s + j + 1 from rfl, prG, if_pos hp]
    by_cases q : lev R (bgn fr s + j) < lev R s
    · rw [if_pos (by rw [jv_lt] <;> omega), if_pos q]
      unfold sh_X2_findPlace_47
      rw [if_pos (by rw [jv_le] <;> omega)]
      simp only [jv_lit]
    · rw [if_neg (by rw [jv_lt] <;> omega), if_neg q, jv_lit (nat_lit 1), jv_neg, jv_add, show ((bgn fr s + j : Nat) : Int) + -1 = ((bgn fr s + j : Nat) : Int) - 1 by omega]
      exact ih f (by omega) (by omega)
abbrev PF (m s : Nat) : Nat → Nat → Prop := fun k j => k = m + 2 ∧ j = s ∨ k = m + 4 ∨ k = m + 6 ∧ j = s
theorem fp67 {μ : Mm} (hm : ME m μ R s) (hw : WB K R N fr) (hs : s < N) : ∀ (j f k : Nat), k + j = s → bgn fr s ≤ k → j < f → ∃ μ1, sh_X2_findPlace_67 n m kb (jv s) f (jv (pr R s)) (jv (odG R s k)) (jv k) μ = some μ1 ∧ Fm (PF m s) μ μ1 ∧ μ1.1 (m + 2) s = jv (pr R s) ∧ μ1.1 (m + 6) s = jv (od R s) ∧ ∀ i, i ≤ s → μ1.1 (m + 4) i = jv (ch R i (s + 1)) := by
  have hN := hw.1.2.1
  have l1 : ln (m + 1 + 1) = 24 := hm.1.1
  have l2 : ln (m + 3 + 1) = 24 := hm.1.2.1
  have l3 : ln (m + 5 + 1) = 24 := hm.1.2.2.1
  have hp := pr_b R s
  intro j
  induction j with
  | zero =>
    intro f k hk hg hf
    obtain ⟨f, rfl⟩ : ∃ g, f = g + 1 := ⟨f - 1, by omega⟩
    have e : k = s := by omega
    subst e
    rw [sh_X2_findPlace_67, if_pos (by rw [jv_le] <;> omega), p5_in (by omega) (by omega), Option.bind_some]
    simp only [jv_lit]
    rw [p5_in (by omega) (by omega), Option.bind_some, Int.toNat_natCast]
    rcases hp with q | q
    · rw [q, d5_lo (by omega) (by omega), Option.bind_some, p5_in (by omega) (by omega), Option.bind_some, Int.toNat_natCast]
      refine ⟨_, rfl, ((Fm.rf.sI (Or.inl ⟨rfl, rfl⟩)).sI (Or.inr (Or.inl rfl))).sI (Or.inr (Or.inr ⟨rfl, rfl⟩)), ?_, ?_, ?_⟩
      · rw [sI_1, if_neg (by omega), sI_1, if_neg (by omega), sI_1, if_pos ⟨rfl, rfl⟩]
      · rw [sI_1, if_pos ⟨rfl, rfl⟩]
        rfl
      · intro i hi
        rw [sI_1, if_neg (by omega), sI_1, ch, q, if_neg (by omega : ¬ (-1 : Int) = (i : Int)), Int.add_zero]
        by_cases z : i = k
        · subst z
          rw [if_pos ⟨rfl, rfl⟩, ch_own R i i (by omega)]
        · rw [if_neg (by omega), sI_1, if_neg (by omega)]
          exact (hm.2 i (by omega)).2.1
    · rw [d5_in (by omega) (by omega), Option.bind_some, p5_in (by omega) (by omega), Option.bind_some, Int.toNat_natCast]
      refine ⟨_, rfl, (((Fm.rf.sI (Or.inl ⟨rfl, rfl⟩)).sI (Or.inr (Or.inl rfl))).sI (Or.inr (Or.inl rfl))).sI (Or.inr (Or.inr ⟨rfl, rfl⟩)), ?_, ?_, ?_⟩
      · rw [sI_1, if_neg (by omega), sI_1, if_neg (by omega), sI_1, if_neg (by omega), sI_1, if_pos ⟨rfl, rfl⟩]
      · rw [sI_1, if_pos ⟨rfl, rfl⟩]
        rfl
      · intro i hi
        rw [sI_1, if_neg (by omega), sI_1, ch]
        by_cases z2 : i = (pr R k).toNat
        · rw [if_pos ⟨rfl, z2⟩, if_pos (by omega), ← z2, sI_1, if_neg (by omega), sI_1, if_neg (by omega)]
          have e9 := (hm.2 i (by omega)).2.1
          rw [show m + 3 + 1 = m + 4 from rfl, e9, jv_add]
        · rw [if_neg (fun z => z2 z.2), if_neg (by omega), Int.add_zero, sI_1]
          by_cases z : i = k
          · subst z
            rw [if_pos ⟨rfl, rfl⟩, ch_own R i i (by omega)]
          · rw [if_neg (by omega), sI_1, if_neg (by omega)]
            exact (hm.2 i (by omega)).2.1
  | succ j ih =>
    intro f k hk hg hf
    obtain ⟨f, rfl⟩ : ∃ g, f = g + 1 := ⟨f - 1, by omega⟩
    have h1 := hw.sec (s := k) (by omega)
    have h2 := hw.sec hs
    have hb1 := pr_b R k
    have hpp : prt R k = prt R s := by
      rw [h1.1, h2.1]
      unfold bgn at hg
      split at hg
      · next q => rw [if_pos (by omega), if_pos q]
      · next q => rw [if_neg (by omega), if_neg q]
    rw [sh_X2_findPlace_67, if_neg (by rw [jv_le] <;> omega), a5_in (by omega) (by omega), Option.bind_some, Int.toNat_natCast, show m + 1 + 1 = m + 2 from rfl, (hm.2 k (by omega)).1]
    simp only [jv_lit]
    by_cases q : pr R k = pr R s
    · have e : odG R s k + 1 = odG R s (k + 1) := by rw [odG, if_pos ⟨hpp, q⟩]
      rw [if_pos (by rw [q]), jv_add, jv_add, e, show (k : Int) + 1 = ((k + 1 : Nat) : Int) by omega]
      exact ih f (k + 1) (by omega) (by omega) (by omega)
    · have e : odG R s k = odG R s (k + 1) := by rw [odG, if_neg (fun z => q z.2), Int.add_zero]
      rw [if_neg (by rw [jv_eq] <;> omega), jv_add, e, show (k : Int) + 1 = ((k + 1 : Nat) : Int) by omega]
      exact ih f (k + 1) (by omega) (by omega) (by omega)
theorem fp8 {μ : Mm} (hn : 30 ≤ n) (hb : CB kb μ R N fr) (hm : ME m μ R s) (hw : WB K R N fr) (hs : s < N) : ∃ μ1, sh_X2_findPlace n m kb (jv s) μ = some μ1 ∧ Fm (PF m s) μ μ1 ∧ μ1.1 (m + 2) s = jv (pr R s) ∧ μ1.1 (m + 6) s = jv (od R s) ∧ ∀ i, i ≤ s → μ1.1 (m + 4) i = jv (ch R i (s + 1)) := by
  have hN := hw.1
  have hg : bgn fr s ≤ s := by unfold bgn; split <;> omega
  unfold sh_X2_findPlace
  rw [hb.po hw hs, Option.bind_some]
  have e : sh_X0_partBegin kb (jv (prt R s)) μ = some (jv (bgn fr s)) := by
    unfold sh_X0_partBegin bgn
    rw [hb.2.2.1.2.2]
    simp only [jv_lit]
    rcases hw.pb hs with ⟨a, q⟩ | ⟨a, q⟩
    · rw [a, if_pos rfl, if_pos q]
      rfl
    · rw [a, if_neg (by rw [jv_eq] <;> omega), if_neg (by omega)]
  rw [e, Option.bind_some, nm_eq, jv_lit (nat_lit 1), jv_sub]
  have h15 := fp15 (n := n) (m := m) hb hw hs (s - bgn fr s) n (by omega) (by omega)
  rw [show bgn fr s + (s - bgn fr s) = s by omega] at h15
  rw [h15]
  have h67 := fp67 (n := n) (kb := kb) hm hw hs (s - bgn fr s) n (bgn fr s) (by omega) (Nat.le_refl _) (by omega)
  rw [odG_bg hw hs _ (Nat.le_refl _)] at h67
  exact h67
end MEA
