/-! CROWDED pages: sections stand in the order of their pages -/
theorem fnd_sp (P : Nat → Prop) [DecidablePred P] : ∀ (k i : Nat), fnd P k i = -1 ∧ (∀ j, i ≤ j → j < i + k → ¬ P j) ∨ ∃ j : Nat, fnd P k i = j ∧ i ≤ j ∧ j < i + k ∧ P j ∧ ∀ j', i ≤ j' → j' < j → ¬ P j' := by
  intro k
  induction k with
  | zero => intro i; exact Or.inl ⟨rfl, fun j h1 h2 => absurd h2 (by omega)⟩
  | succ k ih =>
    intro i
    rw [fnd]
    by_cases z : P i
    · rw [if_pos z]
      exact Or.inr ⟨i, rfl, Nat.le_refl _, by omega, z, fun j h1 h2 => absurd h2 (by omega)⟩
    · rw [if_neg z]
      rcases ih (i + 1) with ⟨h1, h2⟩ | ⟨j, h1, h2, h3, h4, h5⟩
      · refine Or.inl ⟨h1, fun j h3 h4 => ?_⟩
        by_cases y : j = i
        · rw [y]; exact z
        · exact h2 j (by omega) (by omega)
      · refine Or.inr ⟨j, h1, by omega, by omega, h4, fun j' h6 h7 => ?_⟩
        by_cases y : j' = i
        · rw [y]; exact z
        · exact h5 j' (by omega) h7
abbrev fsP (p : Nat → Int) (j : Nat) : Prop := j = 0 ∨ p (j - 1) ≠ p j
section SEQ
variable {p : Nat → Int} {N : Nat} {L : Int}
theorem sq_mono (hm : ∀ s, s + 1 < N → p s ≤ p (s + 1)) : ∀ (k i : Nat), i + k < N → p i ≤ p (i + k) := by
  intro k
  induction k with
  | zero => intro i _; exact Int.le_refl _
  | succ k ih =>
    intro i h
    have := ih i (by omega)
    have := hm (i + k) (by omega)
    rw [show i + (k + 1) = i + k + 1 by omega]
    omega
theorem sq_le (hm : ∀ s, s + 1 < N → p s ≤ p (s + 1)) {i j : Nat} (h : i ≤ j) (hj : j < N) : p i ≤ p j := by
  have := sq_mono hm (j - i) i (by omega)
  rw [show i + (j - i) = j by omega] at this
  exact this
theorem sq_first : ∀ s, s < N → ∃ j, j ≤ s ∧ fsP p j ∧ p j = p s := by
  intro s
  induction s with
  | zero => intro _; exact ⟨0, Nat.le_refl _, Or.inl rfl, rfl⟩
  | succ s ih =>
    intro h
    by_cases z : p s = p (s + 1)
    · obtain ⟨j, h1, h2, h3⟩ := ih (by omega)
      exact ⟨j, by omega, h2, by omega⟩
    · exact ⟨s + 1, Nat.le_refl _, Or.inr (by rw [Nat.add_sub_cancel]; exact z), rfl⟩
theorem sq_cnt (hm : ∀ s, s + 1 < N → p s ≤ p (s + 1)) (h1 : ∀ s, s < N → 1 ≤ p s ∧ p s ≤ L) (F : Nat → Prop) [DecidablePred F] (hF : ∀ r : Nat, F r → ∃ s, s < N ∧ p s = r) : ∀ k, k < N → cnt F (p k).toNat 1 = cnt (fun j => fsP p j ∧ F (p j).toNat) (k + 1) 0 := by
  intro k
  induction k with
  | zero =>
    intro h
    have hp := h1 0 h
    rw [show (p 0).toNat = ((p 0).toNat - 1) + 1 by omega, cnt_app, cnt_no _ _ 1 (fun j a b q => ?_), cnt, cnt, cnt, cnt]
    · have e : 1 + ((p 0).toNat - 1) = (p 0).toNat := by omega
      rw [e]
      by_cases z : F (p 0).toNat
      · rw [if_pos z, if_pos ⟨Or.inl rfl, z⟩]
        rfl
      · rw [if_neg z, if_neg (fun q => z q.2)]
        rfl
    · obtain ⟨s, hs, e⟩ := hF j q
      have := sq_le hm (Nat.zero_le s) hs
      omega
  | succ k ih =>
    intro h
    have hp := h1 k (by omega)
    have hp2 := h1 (k + 1) h
    have hle := hm k h
    rw [cnt_app _ (k + 1) 1 0, ← ih (by omega), cnt, cnt, Nat.zero_add]
    by_cases z : p k = p (k + 1)
    · have hn : ¬ (fsP p (k + 1) ∧ F (p (k + 1)).toNat) := fun q => by
        rcases q.1 with w | w
        · omega
        · exact w (by rw [Nat.add_sub_cancel]; exact z)
      rw [if_neg hn, z]
      omega
    · rw [show (p (k + 1)).toNat = (p k).toNat + (((p (k + 1)).toNat - 1 - (p k).toNat) + 1) by omega, cnt_app, cnt_app, cnt_no _ _ (1 + (p k).toNat) (fun j a b q => ?_), cnt, cnt]
      · have e : 1 + (p k).toNat + ((p (k + 1)).toNat - 1 - (p k).toNat) = (p (k + 1)).toNat := by omega
        have e2 : (p k).toNat + (((p (k + 1)).toNat - 1 - (p k).toNat) + 1) = (p (k + 1)).toNat := by omega
        rw [e, e2]
        by_cases w : F (p (k + 1)).toNat
        · rw [if_pos w, if_pos ⟨Or.inr (by rw [Nat.add_sub_cancel]; exact z), w⟩]
          omega
        · rw [if_neg w, if_neg (fun q => w q.2)]
          omega
      · obtain ⟨s, hs, e⟩ := hF j q
        by_cases w : s ≤ k
        · have := sq_le hm w (by omega)
          omega
        · have := sq_le hm (show k + 1 ≤ s by omega) hs
          omega
theorem sq_all (hm : ∀ s, s + 1 < N → p s ≤ p (s + 1)) (h1 : ∀ s, s < N → 1 ≤ p s ∧ p s ≤ L) (F : Nat → Prop) [DecidablePred F] (hF : ∀ r : Nat, F r → ∃ s, s < N ∧ p s = r) : cnt F L.toNat 1 = cnt (fun j => fsP p j ∧ F (p j).toNat) N 0 := by
  by_cases z : N = 0
  · subst z
    rw [cnt_no _ _ 1 (fun j a b q => by obtain ⟨s, hs, _⟩ := hF j q; omega)]
    rfl
  · have hk := sq_cnt hm h1 F hF (N - 1) (by omega)
    have hp := h1 (N - 1) (by omega)
    rw [show N - 1 + 1 = N by omega] at hk
    rw [← hk, show L.toNat = (p (N - 1)).toNat + (L.toNat - (p (N - 1)).toNat) by omega, cnt_app, cnt_no _ _ (1 + (p (N - 1)).toNat) (fun j a b q => ?_)]
    · omega
    · obtain ⟨s, hs, e⟩ := hF j q
      have := sq_le hm (show s ≤ N - 1 by omega) (by omega)
      omega
theorem sq_fnd (hm : ∀ s, s + 1 < N → p s ≤ p (s + 1)) (h1 : ∀ s, s < N → 1 ≤ p s ∧ p s ≤ L) (G : Nat → Prop) [DecidablePred G] (hG : ∀ r : Nat, G r → ∃ s, s < N ∧ p s = r) : fnd G L.toNat 1 = (if fnd (fun j => fsP p j ∧ G (p j).toNat) N 0 = -1 then -1 else p (fnd (fun j => fsP p j ∧ G (p j).toNat) N 0).toNat) := by
  rcases fnd_sp (fun j => fsP p j ∧ G (p j).toNat) N 0 with ⟨a1, a2⟩ | ⟨j, a1, _, a3, a4, a5⟩
  · rw [a1, if_pos rfl]
    rcases fnd_sp G L.toNat 1 with ⟨b1, b2⟩ | ⟨r, b1, b2, b3, b4, b5⟩
    · exact b1
    · exfalso
      obtain ⟨s, hs, e⟩ := hG r b4
      obtain ⟨j0, c1, c2, c3⟩ := sq_first (p := p) s hs
      exact a2 j0 (Nat.zero_le _) (by omega) ⟨c2, by rw [c3, e, Int.toNat_natCast]; exact b4⟩
  · rw [a1, if_neg (by omega), Int.toNat_natCast]
    have hp := h1 j (by omega)
    rcases fnd_sp G L.toNat 1 with ⟨b1, b2⟩ | ⟨r, b1, b2, b3, b4, b5⟩
    · exact absurd a4.2 (b2 _ (by omega) (by omega))
    · rw [b1]
      by_cases w : (p j).toNat < r
      · exact absurd a4.2 (b5 _ (by omega) w)
      · by_cases v : r < (p j).toNat
        · exfalso
          obtain ⟨s, hs, e⟩ := hG r b4
          obtain ⟨j0, c1, c2, c3⟩ := sq_first (p := p) s hs
          have : ¬ j0 < j := fun q => a5 j0 (Nat.zero_le _) q ⟨c2, by rw [c3, e, Int.toNat_natCast]; exact b4⟩
          have := sq_le hm (show j ≤ j0 by omega) (by omega)
          omega
        · omega
end SEQ
section CRW
variable {n : Nat} {R : Nat → Int} {N fr : Nat}
theorem flw_up (hw : WB 500 R N fr) (q a : Int) : ∀ k i, i + k ≤ N → (flw R q a i).1 ≤ (flw R q a (i + k)).1 := by
  intro k
  induction k with
  | zero => intro i _; exact Int.le_refl _
  | succ k ih =>
    intro i h
    have h2 := ih i (by omega)
    have h3 := flw_b hw (by omega) q a (i + k) (by omega)
    rw [show i + (k + 1) = (i + k) + 1 by omega, flw]
    split
    · have := flE_b hw (by omega) (s := i + k) (by omega) h3.2.2.1 h3.2.2.2
      omega
    · exact h2
theorem pgs_up (hw : WB 500 R N fr) {s : Nat} (hs : s < N) (tp : Int) : pgs R tp s ≤ (flw R (prt R s) (fst R tp s) (s + 1)).1 := by
  have h3 := flw_b hw (by omega) (prt R s) (fst R tp s) s (by omega)
  have h4 := flB_b hw hs h3.2.2.1 h3.2.2.2
  have h5 := (hw.sec hs).2.2.1
  have h2 := hw.2.2.2.1
  rw [flw, if_pos rfl]
  unfold pgs flE
  have hh : 1 ≤ hdl R s := by unfold hdl; split <;> omega
  have : 0 ≤ ((flB R s (flw R (prt R s) (fst R tp s) s)).2 + hdl R s + lng R s - 1) / R 2 := Int.ediv_nonneg (by omega) (by omega)
  show _ ≤ (flB R s (flw R (prt R s) (fst R tp s) s)).1 + _
  omega
theorem bkp_or (hw : WB 500 R N fr) : (∀ s, s + 1 < N → bkp R (tpF R N) N fr s ≤ bkp R (tpF R N) N fr (s + 1)) ∧ ∀ s, s < N → 1 ≤ bkp R (tpF R N) N fr s ∧ bkp R (tpF R N) N fr s ≤ lsP R (tpF R N) N fr := by
  have hN := hw.1
  have hA := pg_all hw
  have h0 := tpF_b hw (by omega)
  have hbg : bhd R (tpF R N) N fr ≤ bgM R (tpF R N) N fr := by unfold bgM; split <;> omega
  have up : ∀ s, s < N → pgs R (tpF R N) s ≤ (flw R (prt R s) (fst R (tpF R N) s) N).1 := by
    intro s hs
    have h1 := pgs_up hw hs (tpF R N)
    have h2 := flw_up hw (prt R s) (fst R (tpF R N) s) (N - (s + 1)) (s + 1) (by omega)
    rw [show s + 1 + (N - (s + 1)) = N by omega] at h2
    omega
  have fro : ∀ s, s < N → s < fr → bkp R (tpF R N) N fr s ≤ bhd R (tpF R N) N fr - 1 := by
    intro s hs hf
    have hp := hw.p0 hs hf
    have h1 := up s hs
    have ef : fst R (tpF R N) s = tpF R N + 1 := by unfold fst; rw [if_pos hp]
    rw [ef, hp] at h1
    unfold bkp bhd
    rw [if_pos hp, if_pos (by omega)]
    omega
  constructor
  · intro s hs
    have b1 := pgs_b hw (by omega) (s := s) (by omega) h0.1 h0.2
    have b2 := pgs_b hw (by omega) hs h0.1 h0.2
    by_cases z : prt R s = prt R (s + 1)
    · have ef : fst R (tpF R N) s = fst R (tpF R N) (s + 1) := by unfold fst; rw [z]
      have h1 := pgs_up hw (s := s) (by omega) (tpF R N)
      have h2 := flw_b hw (by omega) (prt R (s + 1)) (fst R (tpF R N) (s + 1)) (s + 1) (by omega)
      have h3 := flB_b hw hs h2.2.2.1 h2.2.2.2
      rw [z, ef] at h1
      have h4 : pgs R (tpF R N) s ≤ pgs R (tpF R N) (s + 1) := Int.le_trans h1 h3.1
      unfold bkp
      rw [z]
      split <;> omega
    · rcases hw.pb (s := s) (by omega) with ⟨u1, v1⟩ | ⟨u1, v1⟩ <;> rcases hw.pb hs with ⟨u2, v2⟩ | ⟨u2, v2⟩
      · omega
      · have := fro s (by omega) v1
        have e2 : bkp R (tpF R N) N fr (s + 1) = bgM R (tpF R N) N fr + pgs R (tpF R N) (s + 1) - 1 := by unfold bkp; rw [if_neg (by omega)]
        omega
      · omega
      · omega
  · intro s hs
    refine ⟨(hA.2.2 s hs).1, ?_⟩
    rcases hw.pb hs with ⟨u1, v1⟩ | ⟨u1, v1⟩
    · have h1 := fro s hs v1
      unfold lsP
      by_cases z : fr < N
      · rw [if_pos z]
        have := flw_b hw (by omega) 1 1 N (Nat.le_refl _)
        have : 1 ≤ mnP R N fr := by unfold mnP; rw [if_pos z]; omega
        omega
      · rw [if_neg z]
        exact h1
    · have h1 := up s hs
      have ef : fst R (tpF R N) s = 1 := by unfold fst; rw [if_neg (by omega)]
      rw [ef, u1] at h1
      have em : mnP R N fr = (flw R 1 1 N).1 := by unfold mnP; rw [if_pos (by omega)]
      unfold bkp lsP
      rw [if_neg (by omega), if_pos (by omega)]
      omega
/-- how many sections begin on a page -/
def begn (R : Nat → Int) (N fr : Nat) (q : Int) : Int := cnt (fun s => bkp R (tpF R N) N fr s = q) N 0
theorem cnt_ex (P : Nat → Prop) [DecidablePred P] : ∀ (k i : Nat), 0 < cnt P k i → ∃ j, i ≤ j ∧ j < i + k ∧ P j := by
  intro k
  induction k with
  | zero => intro i h; exact absurd h (by show ¬ (0 : Int) < 0; omega)
  | succ k ih =>
    intro i h
    rw [cnt] at h
    by_cases z : P i
    · exact ⟨i, Nat.le_refl _, by omega, z⟩
    · rw [if_neg z, Int.zero_add] at h
      obtain ⟨j, h1, h2, h3⟩ := ih (i + 1) h
      exact ⟨j, by omega, by omega, h3⟩
theorem begn_ex {q : Int} (h : 0 < begn R N fr q) : ∃ s, s < N ∧ bkp R (tpF R N) N fr s = q := by
  obtain ⟨j, _, h2, h3⟩ := cnt_ex _ N 0 h
  exact ⟨j, by omega, h3⟩
theorem begn_b (R : Nat → Int) (N fr : Nat) (q : Int) : 0 ≤ begn R N fr q ∧ begn R N fr q ≤ N := cnt_b _ N 0
theorem begn_own {s : Nat} (hs : s < N) : 0 < begn R N fr (bkp R (tpF R N) N fr s) := by
  unfold begn
  have h := cnt_app (fun t => bkp R (tpF R N) N fr t = bkp R (tpF R N) N fr s) s (N - s) 0
  rw [show s + (N - s) = N by omega, show N - s = (N - s - 1) + 1 by omega, cnt, Nat.zero_add, if_pos rfl] at h
  have h1 := (cnt_b (fun t => bkp R (tpF R N) N fr t = bkp R (tpF R N) N fr s) s 0).1
  have h2 := (cnt_b (fun t => bkp R (tpF R N) N fr t = bkp R (tpF R N) N fr s) (N - s - 1) (s + 1)).1
  rw [h]
  omega
/-! the class -/
theorem bgC {μ : Mm} (hq : QS μ R N fr) {i : Nat} (hi : i < N) : ∀ (k f j : Nat) (x : Int), j + k = N → k < f → sh_X3_beginners_5 n 52 (jv i) (jv N) μ f (jv x) (jv j) = some (jv (x + cnt (fun s => bkp R (tpF R N) N fr s = bkp R (tpF R N) N fr i) k j)) := by
  obtain ⟨hw, hb, hL, hm⟩ := hq
  have hN := hw.1
  have hA := (pg_all hw).2.2
  have b1 := hA i hi
  intro k
  induction k with
  | zero =>
    intro f j x hj hf
    obtain ⟨f, rfl⟩ : ∃ g, f = g + 1 := ⟨f - 1, by omega⟩
    rw [sh_X3_beginners_5, if_pos (by rw [jv_le] <;> omega), cnt, Int.add_zero]
  | succ k ih =>
    intro f j x hj hf
    obtain ⟨f, rfl⟩ : ∃ g, f = g + 1 := ⟨f - 1, by omega⟩
    have b2 := hA j (by omega)
    rw [sh_X3_beginners_5, if_neg (by rw [jv_le] <;> omega), show (52 + 3 : Nat) = 38 + 17 from rfl, hL.bp hw (by omega), Option.bind_some, hL.bp hw hi, Option.bind_some]
    simp only [jv_lit]
    rw [jv_add, jv_add, show (j : Int) + 1 = ((j + 1 : Nat) : Int) by omega, ih f (j + 1) _ (by omega) (by omega), ih f (j + 1) _ (by omega) (by omega), cnt]
    by_cases y : bkp R (tpF R N) N fr j = bkp R (tpF R N) N fr i
    · rw [if_pos (by rw [y]), if_pos y, Int.add_assoc]
    · rw [if_neg (by rw [jv_eq] <;> omega), if_neg y, Int.zero_add]
theorem bgC0 (hn : 40 ≤ n) {μ : Mm} (hq : QS μ R N fr) {i : Nat} (hi : i < N) : sh_X3_beginners n 52 (jv i) (μ.1 11 2) μ = some (jv (begn R N fr (bkp R (tpF R N) N fr i))) := by
  have hN := hq.1.1
  have e : sh_X3_beginners_5 n 52 (jv i) (jv N) μ n (jv 0) (jv 0) = _ := bgC (n := n) hq hi N n 0 0 (by omega) (by omega)
  unfold sh_X3_beginners
  rw [hq.2.1.2.2.1.2.1]
  simp only [jv_lit]
  rw [e, Int.zero_add]
  rfl
theorem ffC {μ : Mm} (hq : QS μ R N fr) {i : Nat} (hi : i < N) : sh_X3_isFirstOnPage 52 (jv i) μ = some (jv (if fsP (bkp R (tpF R N) N fr) i then 1 else 0)) := by
  obtain ⟨hw, hb, hL, hm⟩ := hq
  have hN := hw.1
  have hA := (pg_all hw).2.2
  have b1 := hA i hi
  unfold sh_X3_isFirstOnPage
  simp only [jv_lit]
  by_cases z : i = 0
  · rw [if_pos (by rw [z]; rfl), if_pos (Or.inl z)]
  · have b2 := hA (i - 1) (by omega)
    rw [if_neg (by rw [jv_eq] <;> omega), jv_sub, show (i : Int) - 1 = ((i - 1 : Nat) : Int) by omega, show (52 + 3 : Nat) = 38 + 17 from rfl, hL.bp hw (by omega), Option.bind_some, hL.bp hw hi, Option.bind_some]
    by_cases y : bkp R (tpF R N) N fr (i - 1) = bkp R (tpF R N) N fr i
    · rw [if_pos (by rw [y]), if_neg (fun q => q.elim z (fun w => w y))]
    · rw [if_neg (by rw [jv_eq] <;> omega), if_pos (Or.inr y)]
/-- pages before a page, as the document orders them -/
abbrev ahP (R : Nat → Int) (N fr : Nat) (q : Int) (r : Nat) : Prop := begn R N fr q < begn R N fr r ∨ begn R N fr r = begn R N fr q ∧ (r : Int) < q
abbrev ahS (R : Nat → Int) (N fr : Nat) (q : Int) (j : Nat) : Prop := fsP (bkp R (tpF R N) N fr) j ∧ ahP R N fr q (bkp R (tpF R N) N fr j).toNat
theorem ite_cg {P Q : Prop} [Decidable P] [Decidable Q] (h : P ↔ Q) : (if P then (1 : Int) else 0) = if Q then 1 else 0 := by
  by_cases z : P
  · rw [if_pos z, if_pos (h.mp z)]
  · rw [if_neg z, if_neg (fun q => z (h.mpr q))]
theorem p103 {μ : Mm} (hq : QS μ R N fr) {j : Nat} (hj : j < N) {a : Int32} (k27 : Int32 → Int32 → Int32 → Option Int32) {x B C : Int} (hB : 0 ≤ B ∧ B ≤ 100) (hC : 0 ≤ C ∧ C ≤ 100) {t : Int} (ht : t = 0 ∨ t = 1) : sh_X11_pagesBefore_103 n a μ k27 (jv x) (jv B) (jv j) (jv C) (jv t) = k27 (jv (x + if fsP (bkp R (tpF R N) N fr) j ∧ (B < C ∨ C = B ∧ t = 1) then 1 else 0)) (jv B) (jv ((j + 1 : Nat) : Int)) := by
  have hN := hq.1.1
  unfold sh_X11_pagesBefore_103
  simp only [jv_lit]
  rw [ffC hq hj, Option.bind_some, jv_add, jv_add, show (j : Int) + 1 = ((j + 1 : Nat) : Int) by omega]
  by_cases z : fsP (bkp R (tpF R N) N fr) j
  · rw [if_pos z, if_neg (show ¬ jv 1 = jv 0 by decide)]
    by_cases u : B < C
    · rw [if_pos (show jv B < jv C by rw [jv_lt] <;> omega), if_pos ⟨z, Or.inl u⟩]
    · rw [if_neg (show ¬ jv B < jv C by rw [jv_lt] <;> omega)]
      by_cases v : C = B
      · rw [if_pos (show jv C = jv B by rw [v])]
        rcases ht with rfl | rfl
        · rw [if_pos (show jv 0 = jv 0 from rfl), if_neg (fun q => by rcases q.2 with w | w <;> omega), Int.add_zero]
        · rw [if_neg (show ¬ jv 1 = jv 0 by decide), if_pos ⟨z, Or.inr ⟨v, rfl⟩⟩]
      · rw [if_neg (show ¬ jv C = jv B by rw [jv_eq] <;> omega), if_neg (fun q => by rcases q.2 with w | w <;> omega), Int.add_zero]
  · rw [if_neg z, if_pos (show jv 0 = jv 0 from rfl), if_neg (fun q => z q.1), Int.add_zero]
theorem pbC (hn : 40 ≤ n) {μ : Mm} (hq : QS μ R N fr) {i : Nat} (hi : i < N) : ∀ (k f j : Nat) (x : Int), j + k = N → k < f → sh_X11_pagesBefore_27 n (jv i) μ f (jv x) (jv (begn R N fr (bkp R (tpF R N) N fr i))) (jv j) = some (jv (x + cnt (ahS R N fr (bkp R (tpF R N) N fr i)) k j)) := by
  have hw := hq.1
  have hN := hw.1
  have hA := (pg_all hw).2.2
  have b1 := hA i hi
  have c1 := begn_b R N fr (bkp R (tpF R N) N fr i)
  intro k
  induction k with
  | zero =>
    intro f j x hj hf
    obtain ⟨f, rfl⟩ : ∃ g, f = g + 1 := ⟨f - 1, by omega⟩
    rw [sh_X11_pagesBefore_27, hq.2.1.2.2.1.2.1, if_pos (by rw [jv_le] <;> omega), cnt, Int.add_zero]
  | succ k ih =>
    intro f j x hj hf
    obtain ⟨f, rfl⟩ : ∃ g, f = g + 1 := ⟨f - 1, by omega⟩
    have hjN : j < N := by omega
    have b2 := hA j hjN
    have c2 := begn_b R N fr (bkp R (tpF R N) N fr j)
    have hcast : (((bkp R (tpF R N) N fr j).toNat : Nat) : Int) = bkp R (tpF R N) N fr j := Int.toNat_of_nonneg (by omega)
    have e0 := bgC0 (n := n) hn hq hjN
    rw [sh_X11_pagesBefore_27]
    rw [e0, hq.2.1.2.2.1.2.1, if_neg (by rw [jv_le] <;> omega), Option.bind_some, show (55 : Nat) = 38 + 17 from rfl, hq.2.2.1.bp hw hjN, Option.bind_some, hq.2.2.1.bp hw hi, Option.bind_some]
    simp only [jv_lit]
    rw [p103 hq hjN _ (by omega) (by omega) (Or.inl rfl), p103 hq hjN _ (by omega) (by omega) (Or.inr rfl), ih f (j + 1) _ (by omega) (by omega), ih f (j + 1) _ (by omega) (by omega), cnt, Int.add_assoc, Int.add_assoc]
    by_cases w : bkp R (tpF R N) N fr j < bkp R (tpF R N) N fr i
    · rw [if_neg (show ¬ jv (bkp R (tpF R N) N fr i) ≤ jv (bkp R (tpF R N) N fr j) by rw [jv_le] <;> omega)]
      congr 4
      refine ite_cg (and_congr_right (fun _ => ?_))
      unfold ahP
      rw [hcast]
      exact or_congr_right (and_congr_right (fun _ => ⟨fun _ => w, fun _ => rfl⟩))
    · rw [if_pos (show jv (bkp R (tpF R N) N fr i) ≤ jv (bkp R (tpF R N) N fr j) by rw [jv_le] <;> omega)]
      congr 4
      refine ite_cg (and_congr_right (fun _ => ?_))
      unfold ahP
      rw [hcast]
      exact or_congr_right (and_congr_right (fun _ => ⟨fun y => absurd y (by omega), fun y => absurd y w⟩))
theorem fnd_cg (P Q : Nat → Prop) [DecidablePred P] [DecidablePred Q] : ∀ (k i : Nat), (∀ j, i ≤ j → j < i + k → (P j ↔ Q j)) → fnd P k i = fnd Q k i := by
  intro k
  induction k with
  | zero => intro i _; rfl
  | succ k ih =>
    intro i h
    have h1 := h i (Nat.le_refl _) (by omega)
    rw [fnd, fnd, ih (i + 1) (fun j a b => h j (by omega) (by omega))]
    by_cases z : P i
    · rw [if_pos z, if_pos (h1.mp z)]
    · rw [if_neg z, if_neg (fun q => z (h1.mpr q))]
abbrev isC (R : Nat → Int) (N fr : Nat) (p : Int) (i : Nat) : Prop := fsP (bkp R (tpF R N) N fr) i ∧ cnt (ahS R N fr (bkp R (tpF R N) N fr i)) N 0 = p
theorem cwC (hn : 40 ≤ n) {μ : Mm} (hq : QS μ R N fr) {p : Int} (hp : i32 p) : ∀ (k f i : Nat), i + k = N → k < f → sh_X11_crowded_7 n (jv p) μ f (jv i) = some (.inr (jv (if fnd (isC R N fr p) k i = -1 then -1 else bkp R (tpF R N) N fr (fnd (isC R N fr p) k i).toNat))) := by
  have hN := hq.1.1
  unfold i32 at hp
  intro k
  induction k with
  | zero =>
    intro f i hi hf
    obtain ⟨f, rfl⟩ : ∃ g, f = g + 1 := ⟨f - 1, by omega⟩
    rw [sh_X11_crowded_7, hq.2.1.2.2.1.2.1, if_pos (by rw [jv_le] <;> omega)]
    rfl
  | succ k ih =>
    intro f i hi hf
    obtain ⟨f, rfl⟩ : ∃ g, f = g + 1 := ⟨f - 1, by omega⟩
    have hiN : i < N := by omega
    have hc := cnt_b (ahS R N fr (bkp R (tpF R N) N fr i)) N 0
    have ih1 := ih f (i + 1) (by omega) (by omega)
    have e0 : sh_X11_pagesBefore_27 n (jv i) μ n (jv 0) (jv (begn R N fr (bkp R (tpF R N) N fr i))) (jv 0) = _ := pbC (n := n) hn hq hiN N n 0 0 (by omega) (by omega)
    have e1 := bgC0 (n := n) hn hq hiN
    rw [sh_X11_crowded_7]
    unfold sh_X11_pagesBefore
    simp only [jv_lit]
    rw [e1, hq.2.1.2.2.1.2.1, if_neg (by rw [jv_le] <;> omega), ffC hq hiN, Option.bind_some, Option.bind_some, e0, Option.bind_some, Int.zero_add, jv_add, show (i : Int) + 1 = ((i + 1 : Nat) : Int) by omega, ih1, fnd]
    by_cases z : fsP (bkp R (tpF R N) N fr) i
    · rw [if_pos z, if_neg (show ¬ jv 1 = jv 0 by decide)]
      by_cases y : cnt (ahS R N fr (bkp R (tpF R N) N fr i)) N 0 = p
      · have hz : isC R N fr p i := ⟨z, y⟩
        rw [if_pos (by rw [y]), if_pos hz, show (55 : Nat) = 38 + 17 from rfl, hq.2.2.1.bp hq.1 hiN, Option.bind_some, if_neg (by omega), Int.toNat_natCast]
      · have hz : ¬ isC R N fr p i := fun q => y q.2
        rw [if_neg (show ¬ jv (cnt (ahS R N fr (bkp R (tpF R N) N fr i)) N 0) = jv p by rw [jv_eq] <;> omega), if_neg hz]
    · have hz : ¬ isC R N fr p i := fun q => z q.1
      rw [if_neg z, if_pos (show jv 0 = jv 0 from rfl), if_neg hz]
/-! the model -/
theorem bnM {μ : Mm} (hw : WB 500 R N fr) (hm : MB 307 μ R) (hy : MY μ R N fr) {q : Int} (hqi : i32 q) : ∀ (k f j : Nat) (x : Int), j + k = N → k < f → sh_X12_beginnings_4 n (jv q) μ f (jv x) (jv j) = some (jv (x + cnt (fun s => bkp R (tpF R N) N fr s = q) k j)) := by
  have hN := hw.1
  have hA := (pg_all hw).2.2
  unfold i32 at hqi
  intro k
  induction k with
  | zero =>
    intro f j x hj hf
    obtain ⟨f, rfl⟩ : ∃ g, f = g + 1 := ⟨f - 1, by omega⟩
    rw [sh_X12_beginnings_4, jv_lit (nat_lit 9), mbl9 hm, Option.bind_some, hN.1, if_pos (by rw [jv_le] <;> omega), cnt, Int.add_zero]
  | succ k ih =>
    intro f j x hj hf
    obtain ⟨f, rfl⟩ : ∃ g, f = g + 1 := ⟨f - 1, by omega⟩
    have b2 := hA j (by omega)
    rw [sh_X12_beginnings_4, jv_lit (nat_lit 9), mbl9 hm, Option.bind_some, hN.1, if_neg (by rw [jv_le] <;> omega), bpO hw hm hy (by omega), Option.bind_some]
    simp only [jv_lit, nm_eq]
    rw [jv_add, jv_add, jv_add, show (j : Int) + 1 = ((j + 1 : Nat) : Int) by omega, ih f (j + 1) _ (by omega) (by omega), ih f (j + 1) _ (by omega) (by omega), cnt]
    by_cases y : bkp R (tpF R N) N fr j = q
    · rw [if_pos (by rw [y]), if_pos y, Int.add_assoc]
    · rw [if_neg (by rw [jv_eq] <;> omega), if_neg y, Int.add_zero, Int.zero_add]
theorem bnM0 (hn : 40 ≤ n) {μ : Mm} (hw : WB 500 R N fr) (hm : MB 307 μ R) (hy : MY μ R N fr) {q : Int} (hqi : i32 q) : sh_X12_beginnings n (jv q) μ = some (jv (begn R N fr q)) := by
  have hN := hw.1
  have e : sh_X12_beginnings_4 n (jv q) μ n (jv 0) (jv 0) = _ := bnM (n := n) hw hm hy hqi N n 0 0 (by omega) (by omega)
  unfold sh_X12_beginnings
  simp only [jv_lit]
  rw [e, Int.zero_add]
  rfl
theorem c44 (hn : 40 ≤ n) {μ : Mm} (hw : WB 500 R N fr) (hm : MB 307 μ R) (hy : MY μ R N fr) {a : Int32} (k24 : Int32 → Mm → Option (Int32 × Mm)) {q : Int} (hq0 : 0 ≤ q ∧ q ≤ 10001) (hb : 0 < begn R N fr q) : ∀ (k f r : Nat) (x : Int), r + k = (lsP R (tpF R N) N fr).toNat + 1 → k < f → sh_X12_crowded_44 n a k24 f (jv q) (jv (begn R N fr q)) (jv x) (jv r) μ = sh_X12_crowded_99 n a k24 (jv q) (jv (begn R N fr q)) (jv (x + cnt (ahP R N fr q) k r)) μ := by
  have hN := hw.1
  have hl := (pg_all hw).2.1
  have hbb := begn_b R N fr q
  intro k
  induction k with
  | zero =>
    intro f r x hj hf
    obtain ⟨f, rfl⟩ : ∃ g, f = g + 1 := ⟨f - 1, by omega⟩
    rw [sh_X12_crowded_44, hy.2.1.1.2.2, if_pos (by rw [jv_lt] <;> omega), cnt, Int.add_zero]
  | succ k ih =>
    intro f r x hj hf
    obtain ⟨f, rfl⟩ : ∃ g, f = g + 1 := ⟨f - 1, by omega⟩
    have hbr := begn_b R N fr r
    rw [sh_X12_crowded_44, hy.2.1.1.2.2, if_neg (by rw [jv_lt] <;> omega), bnM0 hn hw hm hy (q := (r : Int)) (by unfold i32; omega)]
    simp only [jv_lit, nm_eq, Option.bind_some]
    rw [if_neg (show ¬ jv (begn R N fr q) ≤ jv 0 by rw [jv_le] <;> omega), jv_add, jv_add, jv_add, show (r : Int) + 1 = ((r + 1 : Nat) : Int) by omega, ih f (r + 1) _ (by omega) (by omega), ih f (r + 1) _ (by omega) (by omega), cnt, Int.add_assoc, Int.add_assoc]
    by_cases u : begn R N fr q < begn R N fr r
    · have hz : ahP R N fr q r := Or.inl u
      rw [if_pos (show jv (begn R N fr q) < jv (begn R N fr r) by rw [jv_lt] <;> omega), if_pos hz]
    · rw [if_neg (show ¬ jv (begn R N fr q) < jv (begn R N fr r) by rw [jv_lt] <;> omega)]
      by_cases v : begn R N fr r = begn R N fr q
      · rw [if_pos (show jv (begn R N fr r) = jv (begn R N fr q) by rw [v])]
        by_cases w : (r : Int) < q
        · have hz : ahP R N fr q r := Or.inr ⟨v, w⟩
          rw [if_neg (show ¬ jv q ≤ jv r by rw [jv_le] <;> omega), if_pos hz]
        · have hz : ¬ ahP R N fr q r := fun y => by rcases y with y | y <;> omega
          rw [if_pos (show jv q ≤ jv r by rw [jv_le] <;> omega), if_neg hz]
      · have hz : ¬ ahP R N fr q r := fun y => by rcases y with y | y <;> omega
        rw [if_neg (show ¬ jv (begn R N fr r) = jv (begn R N fr q) by rw [jv_eq] <;> omega), if_neg hz]
abbrev isG (R : Nat → Int) (N fr : Nat) (p : Int) (q : Nat) : Prop := 0 < begn R N fr q ∧ cnt (ahP R N fr q) (lsP R (tpF R N) N fr).toNat 1 = p
theorem cwM (hn : 16001 ≤ n) {μ : Mm} (hw : WB 500 R N fr) (hm : MB 307 μ R) (hy : MY μ R N fr) {p : Int} (hp : i32 p) : ∀ (k f q : Nat), q + k = (lsP R (tpF R N) N fr).toNat + 1 → k < f → sh_X12_crowded_24 n (jv p) f (jv q) μ = some (jv (fnd (isG R N fr p) k q), μ) := by
  have hN := hw.1
  have hl := (pg_all hw).2.1
  unfold i32 at hp
  intro k
  induction k with
  | zero =>
    intro f q hj hf
    obtain ⟨f, rfl⟩ : ∃ g, f = g + 1 := ⟨f - 1, by omega⟩
    rw [sh_X12_crowded_24, hy.2.1.1.2.2, if_pos (by rw [jv_lt] <;> omega)]
    rfl
  | succ k ih =>
    intro f q hj hf
    obtain ⟨f, rfl⟩ : ∃ g, f = g + 1 := ⟨f - 1, by omega⟩
    have hbb := begn_b R N fr q
    have ih1 := ih f (q + 1) (by omega) (by omega)
    rw [sh_X12_crowded_24, hy.2.1.1.2.2, if_neg (by rw [jv_lt] <;> omega), bnM0 (by omega) hw hm hy (q := (q : Int)) (by unfold i32; omega), Option.bind_some, fnd]
    by_cases z : 0 < begn R N fr q
    · have e : sh_X12_crowded_44 n (jv p) (fun (x2 : Int32) (μ : Mm) => sh_X12_crowded_24 n (jv p) f x2 μ) n (jv q) (jv (begn R N fr q)) (jv 0) (jv 1) μ = _ := c44 (n := n) (by omega) hw hm hy (fun (x2 : Int32) (μ : Mm) => sh_X12_crowded_24 n (jv p) f x2 μ) (q := (q : Int)) (by omega) z (lsP R (tpF R N) N fr).toNat n 1 0 (by omega) (by omega)
      have hc := cnt_b (ahP R N fr q) (lsP R (tpF R N) N fr).toNat 1
      simp only [jv_lit]
      rw [e, Int.zero_add]
      unfold sh_X12_crowded_99
      simp only [jv_lit]
      rw [if_neg (show ¬ jv (begn R N fr q) ≤ jv 0 by rw [jv_le] <;> omega), jv_add, show (q : Int) + 1 = ((q + 1 : Nat) : Int) by omega, ih1]
      by_cases y : cnt (ahP R N fr q) (lsP R (tpF R N) N fr).toNat 1 = p
      · have hz : isG R N fr p q := ⟨z, y⟩
        rw [if_pos (by rw [y]), if_pos hz]
      · have hz : ¬ isG R N fr p q := fun w => y w.2
        rw [if_neg (by rw [jv_eq] <;> omega), if_neg hz]
    · have hz : ¬ isG R N fr p q := fun w => z w.1
      obtain ⟨g, rfl⟩ : ∃ g, n = g + 1 := ⟨n - 1, by omega⟩
      have e99 : ∀ x : Int32, sh_X12_crowded_99 (g + 1) (jv p) (fun (x2 : Int32) (μ : Mm) => sh_X12_crowded_24 (g + 1) (jv p) f x2 μ) (jv q) (jv (begn R N fr q)) x μ = sh_X12_crowded_24 (g + 1) (jv p) f (jv ((q + 1 : Nat) : Int)) μ := by
        intro x
        unfold sh_X12_crowded_99
        simp only [jv_lit]
        rw [if_pos (show jv (begn R N fr q) ≤ jv 0 by rw [jv_le] <;> omega), jv_add, show (q : Int) + 1 = ((q + 1 : Nat) : Int) by omega]
      rw [sh_X12_crowded_44, if_pos (show jv (begn R N fr q) ≤ (0 : Int32) by rw [jv_lit (nat_lit 0), jv_le] <;> omega), e99, ite_self, ih1, if_neg hz]
theorem cw_same (hw : WB 500 R N fr) (p : Int) : fnd (isG R N fr p) (lsP R (tpF R N) N fr).toNat 1 = (if fnd (isC R N fr p) N 0 = -1 then -1 else bkp R (tpF R N) N fr (fnd (isC R N fr p) N 0).toNat) := by
  obtain ⟨h1, h2⟩ := bkp_or hw
  rw [sq_fnd (p := bkp R (tpF R N) N fr) (N := N) h1 h2 (isG R N fr p) (fun r h => begn_ex h.1)]
  have e : fnd (fun j => fsP (bkp R (tpF R N) N fr) j ∧ isG R N fr p (bkp R (tpF R N) N fr j).toNat) N 0 = fnd (isC R N fr p) N 0 := by
    refine fnd_cg _ _ N 0 (fun j _ hj => ?_)
    have hb := h2 j (by omega)
    have hown := begn_own (R := R) (fr := fr) (show j < N by omega)
    have hcast : (((bkp R (tpF R N) N fr j).toNat : Nat) : Int) = bkp R (tpF R N) N fr j := Int.toNat_of_nonneg (by omega)
    refine and_congr_right (fun _ => ?_)
    show (0 < begn R N fr ((bkp R (tpF R N) N fr j).toNat : Nat) ∧ cnt (ahP R N fr ((bkp R (tpF R N) N fr j).toNat : Nat)) (lsP R (tpF R N) N fr).toNat 1 = p) ↔ _
    rw [hcast]
    have ec := sq_all (p := bkp R (tpF R N) N fr) (N := N) h1 h2 (ahP R N fr (bkp R (tpF R N) N fr j)) (fun r h => begn_ex (by rcases h with h | h <;> omega))
    rw [ec]
    exact ⟨fun y => y.2, fun y => ⟨hown, y⟩⟩
  rw [e]
theorem q_crowded (hn : 16001 ≤ n) {μ : Mm} (hq : QS μ R N fr) (a : Int32) : Qr [1] μ (sh_X11_crowded n a μ) (sh_X12_crowded n a μ) := by
  obtain ⟨z, h1, h2, rfl⟩ := jv_ex a
  have hN := hq.1.1
  have hl := (pg_all hq.1).2.1
  unfold sh_X11_crowded sh_X12_crowded sh_X12_crowded_10
  rw [ckP ⟨h1, h2⟩, Option.bind_some]
  simp only [jv_lit]
  by_cases y : 0 ≤ z
  · have f0 : Fm PQ μ (sI μ 306 0 (jv 0)) := Fm.rf.sI (by omega)
    obtain ⟨μ1, e1, hy, f1⟩ := layMM (n := n) hn hq.1 (by omega) (hq.2.2.2.r00 (v := jv 0))
    have g1 : Fm PQ μ μ1 := f0.tr f1 PMY_Q
    have eM : sh_X12_crowded_24 n (jv z) n (jv 1) μ1 = _ := cwM (n := n) hn hq.1 (hq.2.2.2.fr g1 (fun i _ => by omega)) hy ⟨h1, h2⟩ (lsP R (tpF R N) N fr).toNat n 1 (by omega) (by omega)
    have eC : sh_X11_crowded_7 n (jv z) μ n (jv 0) = _ := cwC (n := n) (by omega) hq ⟨h1, h2⟩ N n 0 (by omega) (by omega)
    rw [if_pos y, if_neg (show ¬ jv z < jv 0 by rw [jv_lt] <;> omega), pas1, Option.bind_some, if_neg (show ¬ jv 1 = jv 0 by decide), e1, Option.bind_some, eM, Sum.elim_inr, eC, cw_same hq.1]
    exact ⟨_, _, _, rfl, rfl, g1, by rw [f1.at _ _ (by omega), sI_1, if_pos ⟨rfl, rfl⟩], rfl⟩
  · rw [if_neg y, if_pos (show jv z < jv 0 by rw [jv_lt] <;> omega), pas0, Option.bind_some, if_pos (show jv 0 = jv 0 from rfl)]
    exact ⟨_, _, _, rfl, rfl, Fm.rf.sI (by omega), 0, rfl, by rw [sI_1, if_pos ⟨rfl, rfl⟩]; rfl⟩
end CRW
