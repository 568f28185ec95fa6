/-! PAGES, whole: both sides -/
section PGM
variable {R : Nat → Int} {K : Int} {N fr : Nat}
def an (q : Int) (fr i : Nat) : Int := if q = 0 then (if 0 < fr ∧ 0 < i then 1 else 0) else (if fr < i then 1 else 0)
theorem flw_skip (hw : WB K R N fr) (a : Int) : ∀ i, i ≤ fr → flw R 1 a i = (a, 0) := by
  have h1 := hw.1
  intro i
  induction i with
  | zero => intro _; rfl
  | succ i ih =>
    intro hi
    have := hw.p0 (s := i) (by omega) (by omega)
    rw [flw, if_neg (by omega), ih (by omega)]
theorem flw_stay (hw : WB K R N fr) (a : Int) : ∀ j, fr + j ≤ N → flw R 0 a (fr + j) = flw R 0 a fr := by
  intro j
  induction j with
  | zero => intro _; rfl
  | succ j ih =>
    intro hi
    have := hw.p1 (s := fr + j) (by omega) (by omega)
    rw [show fr + (j + 1) = fr + j + 1 from rfl, flw, if_neg (by omega), ih (by omega)]
abbrev PFp (R : Nat → Int) (q : Int) (N : Nat) : Nat → Nat → Prop := fun k j => k = 306 ∧ (j = 25 ∨ j = 26) ∨ (k = 314 ∨ k = 315) ∧ prt R j = q ∧ j < N
theorem fpM_l {n bq : Nat} (hw : WB K R N fr) (hK : K ≤ 600) {q a : Int} (hq : q = 0 ∨ q = 1) (ha : 1 ≤ a ∧ a ≤ 101) : ∀ (j f i : Nat) (μ : Mm), i + j = N → j < f → MB bq μ R → μ.1 306 25 = jv (flw R q a i).1 → μ.1 306 26 = jv (flw R q a i).2 → (∀ s, s < i → prt R s = q → μ.1 314 s = jv (flB R s (flw R q a s)).1 ∧ μ.1 315 s = jv (flB R s (flw R q a s)).2) → ∃ μ1, sh_X12_flowPart_15 n (jv q) (jv a) f (jv (an q fr i)) (jv i) μ = some (jv (if an q fr N = 1 then (flw R q a N).1 + 1 else a), μ1) ∧ Fm (PFp R q N) μ μ1 ∧ (∀ s, s < N → prt R s = q → μ1.1 314 s = jv (flB R s (flw R q a s)).1 ∧ μ1.1 315 s = jv (flB R s (flw R q a s)).2) := by
  have h1 := hw.1
  have hanb : ∀ i, an q fr i = 0 ∨ an q fr i = 1 := fun i => by unfold an; split <;> split <;> omega
  intro j
  induction j with
  | zero =>
    intro f i μ hj hf hm e1 e2 hh
    obtain ⟨f, rfl⟩ : ∃ g, f = g + 1 := ⟨f - 1, by omega⟩
    have e : i = N := by omega
    subst e
    rw [sh_X12_flowPart_15]
    simp only [jv_lit]
    rw [hm.r9, Option.bind_some, h1.1, if_pos (by rw [jv_le] <;> omega), e1, jv_add]
    rcases hanb i with z | z
    · rw [z, if_pos rfl, if_neg (by omega)]
      exact ⟨μ, rfl, Fm.rf, hh⟩
    · rw [z, if_neg (by rw [jv_eq] <;> omega), if_pos rfl]
      exact ⟨μ, rfl, Fm.rf, hh⟩
  | succ j ih =>
    intro f i μ hj hf hm e1 e2 hh
    obtain ⟨f, rfl⟩ : ∃ g, f = g + 1 := ⟨f - 1, by omega⟩
    have hs : i < N := by omega
    have hb := flw_b hw hK q a i (by omega)
    have hpb := hw.pb hs
    have hr2 := hw.2.2.2.1
    rw [sh_X12_flowPart_15]
    simp only [jv_lit]
    rw [hm.r9, Option.bind_some, h1.1, if_neg (by rw [jv_le] <;> omega), hm.oP (by omega), Option.bind_some, jv_add, show (i : Int) + 1 = ((i + 1 : Nat) : Int) by omega]
    by_cases z : prt R i = q
    · rw [if_pos (by rw [z])]
      obtain ⟨μ1, a1, f1, b1, b2, b3, b4⟩ := flowM hm hw hK hs (p := flw R q a i) (by omega) hb.2.2 e1 e2
      rw [a1, Option.bind_some]
      have hf1 : Fm (PFp R q N) μ μ1 := f1.mono (fun k j y => by rcases y with y | ⟨y, y2⟩; exact Or.inl y; exact Or.inr ⟨y, by rw [y2]; exact z, by omega⟩)
      have hst : flw R q a (i + 1) = flE R i (flw R q a i) := by rw [flw, if_pos z]
      have han : an q fr (i + 1) = 1 := by
        unfold an
        rcases hpb with ⟨p, p2⟩ | ⟨p, p2⟩
        · rw [if_pos (by omega), if_pos (by omega)]
        · rw [if_neg (by omega), if_pos (by omega)]
      obtain ⟨μ2, c1, c2, c3⟩ := ih f (i + 1) μ1 (by omega) (by omega) (hm.fr hf1 (fun i _ y => by rcases hm.1 with rfl | rfl <;> omega)) (by rw [hst]; exact b3) (by rw [hst]; exact b4) (fun s hs2 hp => by
        by_cases y : s = i
        · subst y
          exact ⟨b1, b2⟩
        · rw [f1.at _ _ (by omega), f1.at _ _ (by omega)]
          exact hh s (by omega) hp)
      rw [han] at c1
      exact ⟨μ2, c1, hf1.tr c2 (fun _ _ y => y), c3⟩
    · rw [if_neg (by rw [jv_eq] <;> omega)]
      have hst : flw R q a (i + 1) = flw R q a i := by rw [flw, if_neg z]
      have han : an q fr (i + 1) = an q fr i := by
        unfold an
        rcases hpb with ⟨p, p2⟩ | ⟨p, p2⟩ <;> (repeat' split) <;> omega
      obtain ⟨μ2, c1, c2, c3⟩ := ih f (i + 1) μ (by omega) (by omega) hm (by rw [hst]; exact e1) (by rw [hst]; exact e2) (fun s hs2 hp => by
        by_cases y : s = i
        · subst y
          exact absurd hp z
        · exact hh s (by omega) hp)
      rw [han] at c1
      exact ⟨μ2, c1, c2, c3⟩
theorem fpM {n bq : Nat} (hn : 30 ≤ n) (hw : WB K R N fr) (hK : K ≤ 600) {q a : Int} (hq : q = 0 ∨ q = 1) (ha : 1 ≤ a ∧ a ≤ 101) {μ : Mm} (hm : MB bq μ R) : ∃ μ1, sh_X12_flowPart n (jv q) (jv a) μ = some (jv (if an q fr N = 1 then (flw R q a N).1 + 1 else a), μ1) ∧ Fm (PFp R q N) μ μ1 ∧ (∀ s, s < N → prt R s = q → μ1.1 314 s = jv (flB R s (flw R q a s)).1 ∧ μ1.1 315 s = jv (flB R s (flw R q a s)).2) := by
  have h1 := hw.1
  unfold sh_X12_flowPart
  simp only [jv_lit]
  rw [pt_eq, Option.bind_some, pt_eq, Option.bind_some]
  have hf : Fm (PFp R q N) μ (sI (sI μ 306 25 (jv a)) 306 26 (jv 0)) := (Fm.rf.sI (Or.inl ⟨rfl, Or.inl rfl⟩)).sI (Or.inl ⟨rfl, Or.inr rfl⟩)
  have h0 : an q fr 0 = 0 := by unfold an; (repeat' split) <;> omega
  obtain ⟨μ1, a1, a2, a3⟩ := fpM_l (n := n) hw hK hq ha N n 0 _ (by omega) (by omega) (hm.fr hf (fun i _ y => by rcases hm.1 with rfl | rfl <;> omega)) (by rw [sI_1, if_neg (by omega), sI_1, if_pos ⟨rfl, rfl⟩]; rfl) (by rw [sI_1, if_pos ⟨rfl, rfl⟩]; rfl) (fun s h => absurd h (by omega))
  rw [h0] at a1
  exact ⟨μ1, a1, hf.tr a2 (fun _ _ y => y), a3⟩
def PM_ (μ : Mm) (R : Nat → Int) (tp : Int) (N fr : Nat) : Prop := (∀ s, s < N → μ.1 314 s = jv (pgs R tp s) ∧ μ.1 315 s = jv (lns R tp s)) ∧ μ.1 306 23 = jv (mBg R tp N fr) ∧ μ.1 306 24 = jv (lsP R tp N fr)
abbrev PLP : Nat → Nat → Prop := fun k j => k = 306 ∧ (j = 23 ∨ j = 24 ∨ j = 25 ∨ j = 26) ∨ k = 314 ∨ k = 315
theorem lpM {n bq : Nat} (hn : 30 ≤ n) (hw : WB K R N fr) (hK : K ≤ 600) {tp : Int} (h0 : 0 ≤ tp) (h1 : tp ≤ 100) {μ : Mm} (hm : MB bq μ R) : ∃ μ1, sh_X12_layPages n (jv tp) μ = some μ1 ∧ Fm PLP μ μ1 ∧ PM_ μ1 R tp N fr := by
  have hN := hw.1
  have h8 := hw.2.2.2.2.2.2.2.2.2.1
  unfold sh_X12_layPages
  simp only [jv_lit]
  rw [jv_add]
  obtain ⟨μ1, a1, f1, b1⟩ := fpM (n := n) hn hw hK (q := 0) (a := tp + 1) (Or.inl rfl) (by omega) hm
  have eb : (if an 0 fr N = 1 then (flw R 0 (tp + 1) N).1 + 1 else tp + 1) = bhd R tp N fr := by
    have e1 : an 0 fr N = if 0 < fr then 1 else 0 := by unfold an; (repeat' split) <;> omega
    unfold bhd
    rw [e1]
    by_cases z : 0 < fr
    · rw [if_pos z, if_pos rfl, if_pos z]
    · rw [if_neg z, if_neg (by omega), if_neg z]
  rw [a1, eb, Option.bind_some, nm_eq, jv_sub, pt_eq, Option.bind_some, pt_eq, Option.bind_some]
  have g1 : Fm PLP μ μ1 := f1.mono (fun k j y => by omega)
  have g2 : Fm PLP μ (sI (sI μ1 306 24 (jv (bhd R tp N fr - 1))) 306 23 (jv 0)) := (g1.sI (Or.inl (by omega))).sI (Or.inl (by omega))
  obtain ⟨μ3, a3, f3, b3⟩ := fpM (n := n) hn hw hK (q := 1) (a := 1) (Or.inr rfl) (by omega) (hm.fr g2 (fun i _ y => by rcases hm.1 with rfl | rfl <;> omega))
  rw [a3, Option.bind_some]
  simp only [nm_eq]
  rw [jv_sub]
  have g3 : Fm PLP μ μ3 := g2.tr f3 (fun k j y => by omega)
  have hm3 := hm.fr g3 (fun i _ y => by rcases hm.1 with rfl | rfl <;> omega)
  have em : (if an 1 fr N = 1 then (flw R 1 1 N).1 + 1 else 1) - 1 = mnP R N fr := by
    have e1 : an 1 fr N = if fr < N then 1 else 0 := by unfold an; (repeat' split) <;> omega
    unfold mnP
    rw [e1]
    by_cases z : fr < N
    · rw [if_pos z, if_pos rfl, if_pos z]
      omega
    · rw [if_neg z, if_neg (by omega), if_neg z]
      omega
  have hsec : ∀ (μ4 : Mm), Fm (fun k j => k = 306 ∧ (j = 23 ∨ j = 24)) μ3 μ4 → ∀ s, s < N → μ4.1 314 s = jv (pgs R tp s) ∧ μ4.1 315 s = jv (lns R tp s) := by
    intro μ4 hf s hs
    rw [hf.at _ _ (by omega), hf.at _ _ (by omega)]
    unfold pgs lns fst
    rcases hw.pb hs with ⟨z, -⟩ | ⟨z, -⟩
    · have hb1 := b1 s hs z
      rw [z, if_pos rfl]
      refine ⟨?_, ?_⟩
      · rw [f3.at _ _ (by omega), sI_1, if_neg (by omega), sI_1, if_neg (by omega)]
        exact hb1.1
      · rw [f3.at _ _ (by omega), sI_1, if_neg (by omega), sI_1, if_neg (by omega)]
        exact hb1.2
    · rw [z, if_neg (by omega)]
      exact b3 s hs z
  have hmb := flw_b hw hK 1 1 N (Nat.le_refl _)
  have hbb := flw_b hw hK 0 (tp + 1) N (Nat.le_refl _)
  have hbh : 1 ≤ bhd R tp N fr ∧ bhd R tp N fr ≤ 5000 := by unfold bhd; split <;> omega
  rw [em]
  by_cases z : fr < N
  · have zm : mnP R N fr = (flw R 1 1 N).1 := by unfold mnP; rw [if_pos z]
    have hmn : 1 ≤ mnP R N fr ∧ mnP R N fr ≤ 5000 := by rw [zm]; omega
    rw [if_neg (by rw [jv_eq] <;> omega), hm3.r8, Option.bind_some]
    have fin : ∀ x : Int, x = bgM R tp N fr → ∃ μ5, sh_X12_layPages_60 n (jv tp) (jv (mnP R N fr)) (jv x) μ3 = some μ5 ∧ Fm PLP μ μ5 ∧ PM_ μ5 R tp N fr := by
      intro x hx
      subst hx
      unfold sh_X12_layPages_60
      simp only [jv_lit]
      rw [pt_eq, Option.bind_some, pt_eq, Option.bind_some]
      refine ⟨_, rfl, (g3.sI (Or.inl (by omega))).sI (Or.inl (by omega)), hsec _ ((Fm.rf.sI ⟨rfl, Or.inl rfl⟩).sI ⟨rfl, Or.inr rfl⟩), ?_, ?_⟩
      · rw [sI_1, if_neg (by omega), sI_1, if_pos ⟨rfl, rfl⟩]
        unfold mBg
        rw [if_pos z]
      · rw [sI_1, if_pos ⟨rfl, rfl⟩, sI_1, if_pos ⟨rfl, rfl⟩, jv_add, jv_sub]
        unfold lsP
        rw [if_pos z]
    unfold sh_X12_layPages_59
    by_cases y : R 8 = 1
    · rw [if_pos (by rw [y]), rm_jv (by omega) (by omega) (by omega) (by omega), Option.bind_some]
      by_cases x : bhd R tp N fr % 2 = 0
      · rw [if_pos (by rw [x]), jv_add]
        exact fin _ (by unfold bgM; rw [if_pos ⟨y, x⟩])
      · rw [if_neg (by rw [jv_eq] <;> omega)]
        exact fin _ (by unfold bgM; rw [if_neg (fun w => x w.2)])
    · rw [if_neg (by rw [jv_eq] <;> omega)]
      exact fin _ (by unfold bgM; rw [if_neg (fun w => y w.1)])
  · have zm : mnP R N fr = 0 := by unfold mnP; rw [if_neg z]
    rw [zm, if_pos rfl]
    refine ⟨μ3, rfl, g3, hsec μ3 Fm.rf, ?_, ?_⟩
    · rw [f3.at _ _ (by omega), sI_1, if_pos ⟨rfl, rfl⟩]
      unfold mBg
      rw [if_neg z]
    · rw [f3.at _ _ (by omega), sI_1, if_neg (by omega), sI_1, if_pos ⟨rfl, rfl⟩]
      unfold lsP
      rw [if_neg z]
end PGM
/-! the class -/
def okPg (t : Nat) : Prop := ln (t + 2) = 24 ∧ ln (t + 4) = 24 ∧ ln (t + 6) = 24 ∧ ln (t + 8) = 24
theorem cl_up {P D l : Int} (hP : 0 < P) (h0 : 0 ≤ l) (h1 : l ≤ P) : (P * D + l + P - 1) / P = D + if 0 < l then 1 else 0 := by
  rw [show P * D + l + P - 1 = (l + P - 1) + P * D by omega, Int.add_mul_ediv_left _ _ (by omega), Int.add_comm]
  congr 1
  split
  · rw [show l + P - 1 = (l - 1) + P * 1 by omega, Int.add_mul_ediv_left _ _ (by omega), Int.ediv_eq_zero_of_lt (by omega) (by omega)]
    rfl
  · exact Int.ediv_eq_zero_of_lt (by omega) (by omega)
theorem cl_dn {P D l : Int} (h0 : 0 ≤ l) (h1 : l < P) : (P * D + l) / P = D := by
  rw [Int.add_comm, Int.add_mul_ediv_left _ _ (by omega), Int.ediv_eq_zero_of_lt h0 h1, Int.zero_add]
section PGC
variable {n t kb : Nat} {R : Nat → Int} {K : Int} {N fr : Nat}
theorem pbc {μ : Mm} {u b r : Int} (h0 : 0 ≤ u ∧ u ≤ 100000) (h1 : 0 ≤ b ∧ b ≤ 100000) (hr : r = 0 ∨ r = 1) : sh_X3_pagesBeforeChapter (jv u) (jv b) (jv r) μ = some (jv (if r = 1 ∧ (b + 1 + u) % 2 = 0 then u + 1 else u)) := by
  unfold sh_X3_pagesBeforeChapter sh_X3_pagesBeforeChapter_15
  simp only [jv_lit]
  rw [jv_add, jv_add, rm_jv (by omega) (by omega) (by omega) (by omega), Option.bind_some, show b + u + 1 = b + 1 + u by omega]
  by_cases z : (b + 1 + u) % 2 = 0
  · rw [if_pos (by rw [z])]
    rcases hr with rfl | rfl
    · rw [if_pos rfl, if_neg (show ¬ ((0 : Int) = 1 ∧ (b + 1 + u) % 2 = 0) by omega)]
    · rw [if_neg (by rw [jv_eq] <;> omega), if_neg (by rw [jv_eq] <;> omega), if_pos (show (1 : Int) = 1 ∧ (b + 1 + u) % 2 = 0 from ⟨rfl, z⟩), jv_add]
  · rw [if_neg (by rw [jv_eq] <;> omega), if_neg (show ¬ (r = 1 ∧ (b + 1 + u) % 2 = 0) from fun y => z y.2)]
    rcases hr with rfl | rfl
    · exact if_pos rfl
    · rw [if_neg (by rw [jv_eq] <;> omega)]
      exact if_pos trivial
def lin (R : Nat → Int) (a : Int) (p : Int × Int) : Int := R 2 * (p.1 - a) + p.2
theorem lin_E (R : Nat → Int) (a : Int) (s : Nat) (p : Int × Int) : lin R a (flE R s p) = R 2 * ((flB R s p).1 - a) + (flB R s p).2 + hdl R s + lng R s := by
  unfold lin flE
  simp only []
  generalize (flB R s p).1 = x
  generalize (flB R s p).2 = y
  generalize (y + hdl R s + lng R s - 1) / R 2 = q
  rw [show x + q - a = (x - a) + q by omega, Int.mul_add, Int.mul_comm q (R 2)]
  omega
abbrev PLc (t : Nat) (a b : Nat) : Nat → Nat → Prop := fun k j => (k = t + 2 ∨ k = t + 6) ∧ a ≤ j ∧ j < b
theorem lpc_l (hw : WB K R N fr) (hK : K ≤ 600) (ho : okPg t) (hkt : kb + 12 < t) {q b : Int} {e : Nat} (hq : q = 0 ∧ e = fr ∨ q = 1 ∧ e = N) (hb0 : 0 ≤ b ∧ b ≤ 100) : ∀ (j f i : Nat) (μ : Mm), i + j = e → (q = 1 → fr ≤ i) → j < f → CB kb μ R N fr → ∃ μ1, sh_X3_layPart_20 n t kb (jv q) (jv b) f (jv (R 2)) (jv (lin R (b + 1) (flw R q (b + 1) i))) (jv i) μ = some (jv ((flw R q (b + 1) e).1 - (b + 1) + if 0 < (flw R q (b + 1) e).2 then 1 else 0), μ1) ∧ Fm (PLc t i e) μ μ1 ∧ ∀ s, i ≤ s → s < e → μ1.1 (t + 2) s = jv (flB R s (flw R q (b + 1) s)).1 ∧ μ1.1 (t + 6) s = jv (flB R s (flw R q (b + 1) s)).2 := by
  have h1 := hw.1
  have hP := hw.2.2.2.1
  have h8 := hw.2.2.2.2.2.2.2.2.2.1
  have l1 : ln (t + 1 + 1) = 24 := ho.1
  have l2 : ln (t + 5 + 1) = 24 := ho.2.2.1
  have mb : ∀ D : Int, 0 ≤ D → D ≤ 5000 → 0 ≤ R 2 * D ∧ R 2 * D ≤ 500000 := fun D a c => ⟨Int.mul_nonneg (by omega) a, by
    have : R 2 * D ≤ 99 * D := Int.mul_le_mul_of_nonneg_right hP.2 a
    omega⟩
  have hpe : ∀ (μ : Mm), CB kb μ R N fr → sh_X0_partEnd kb (jv q) μ = some (jv (e : Int)) := by
    intro μ hb
    unfold sh_X0_partEnd
    simp only [jv_lit]
    rcases hq with ⟨rfl, rfl⟩ | ⟨rfl, rfl⟩
    · rw [if_pos rfl, hb.2.2.1.2.2]
    · rw [if_neg (by rw [jv_eq] <;> omega), hb.2.2.1.2.1]
  intro j
  induction j with
  | zero =>
    intro f i μ hj hfi hf hb
    obtain ⟨f, rfl⟩ : ∃ g, f = g + 1 := ⟨f - 1, by omega⟩
    have ei : i = e := by omega
    subst ei
    have hfb := flw_b hw hK q (b + 1) i (by omega)
    have hm := mb ((flw R q (b + 1) i).1 - (b + 1)) (by omega) (by omega)
    rw [sh_X3_layPart_20, hpe μ hb, Option.bind_some, if_pos (by rw [jv_le] <;> omega)]
    unfold lin
    rw [qU_in (by omega) (by omega) (by omega), Option.bind_some, cl_up (by omega) (by omega) (by omega)]
    exact ⟨μ, rfl, Fm.rf, fun s a c => absurd a (by omega)⟩
  | succ j ih =>
    intro f i μ hj hfi hf hb
    obtain ⟨f, rfl⟩ : ∃ g, f = g + 1 := ⟨f - 1, by omega⟩
    have hs : i < N := by omega
    have hpi : prt R i = q := by
      rcases hw.pb hs with ⟨x, y⟩ | ⟨x, y⟩ <;> omega
    have hsec := hw.sec hs
    have hfb := flw_b hw hK q (b + 1) i (by omega)
    have hB := flB_b hw hs hfb.2.2.1 hfb.2.2.2
    have hm := mb ((flw R q (b + 1) i).1 - (b + 1)) (by omega) (by omega)
    have hst : flw R q (b + 1) (i + 1) = flE R i (flw R q (b + 1) i) := by rw [flw, if_pos hpi]
    have hmB := mb ((flB R i (flw R q (b + 1) i)).1 - (b + 1)) (by omega) (by omega)
    -- behind the break
    have k95 : ∀ L : Int, L = R 2 * ((flB R i (flw R q (b + 1) i)).1 - (b + 1)) + (flB R i (flw R q (b + 1) i)).2 → ∃ μ1, sh_X3_layPart_95 n t kb (jv q) (jv b) (fun (x4 : Int32) (x5 : Int32) (x6 : Int32) (μ : Mm) => sh_X3_layPart_20 n t kb (jv q) (jv b) f x4 x5 x6 μ) (jv (R 2)) (jv L) (jv i) μ = some (jv ((flw R q (b + 1) e).1 - (b + 1) + if 0 < (flw R q (b + 1) e).2 then 1 else 0), μ1) ∧ Fm (PLc t i e) μ μ1 ∧ ∀ s, i ≤ s → s < e → μ1.1 (t + 2) s = jv (flB R s (flw R q (b + 1) s)).1 ∧ μ1.1 (t + 6) s = jv (flB R s (flw R q (b + 1) s)).2 := by
      intro L hL
      unfold sh_X3_layPart_95 sh_X3_layPart_156
      simp only [jv_lit]
      rw [qu_in (by omega) (by omega) (by omega) (by omega), Option.bind_some, hL, cl_dn (by omega) (by omega), jv_add, jv_add, p5_in (by omega) (by omega), Option.bind_some, jv_mul, jv_sub, p5_in (by omega) (by omega), Option.bind_some, Int.toNat_natCast, show b + ((flB R i (flw R q (b + 1) i)).1 - (b + 1)) + 1 = (flB R i (flw R q (b + 1) i)).1 by omega, show R 2 * ((flB R i (flw R q (b + 1) i)).1 - (b + 1)) + (flB R i (flw R q (b + 1) i)).2 - R 2 * ((flB R i (flw R q (b + 1) i)).1 - (b + 1)) = (flB R i (flw R q (b + 1) i)).2 by omega]
      have hf1 : Fm (PLc t i (i + 1)) μ (sI (sI μ (t + 1 + 1) i (jv (flB R i (flw R q (b + 1) i)).1)) (t + 5 + 1) i (jv (flB R i (flw R q (b + 1) i)).2)) := (Fm.rf.sI ⟨Or.inl rfl, by omega, by omega⟩).sI ⟨Or.inr rfl, by omega, by omega⟩
      have v1 : (sI (sI μ (t + 1 + 1) i (jv (flB R i (flw R q (b + 1) i)).1)) (t + 5 + 1) i (jv (flB R i (flw R q (b + 1) i)).2)).1 (t + 2) i = jv (flB R i (flw R q (b + 1) i)).1 := by rw [sI_1, if_neg (by omega), sI_1, if_pos ⟨rfl, rfl⟩]
      have v2 : (sI (sI μ (t + 1 + 1) i (jv (flB R i (flw R q (b + 1) i)).1)) (t + 5 + 1) i (jv (flB R i (flw R q (b + 1) i)).2)).1 (t + 6) i = jv (flB R i (flw R q (b + 1) i)).2 := by rw [sI_1, if_pos ⟨rfl, rfl⟩]
      generalize (sI (sI μ (t + 1 + 1) i (jv (flB R i (flw R q (b + 1) i)).1)) (t + 5 + 1) i (jv (flB R i (flw R q (b + 1) i)).2)) = μ2 at *
      have hb2 := hb.fr hf1 (fun q j a c z => by omega)
      have go : ∀ d : Int, d = hdl R i → ∃ μ1, ((sh_X5_at (kb + 5) (jv i) μ2).bind fun r11 => nm (jv (R 2 * ((flB R i (flw R q (b + 1) i)).1 - (b + 1)) + (flB R i (flw R q (b + 1) i)).2) + (jv d + r11)) fun v12 => sh_X3_layPart_20 n t kb (jv q) (jv b) f (jv (R 2)) v12 (jv i + jv 1) μ2) = some (jv ((flw R q (b + 1) e).1 - (b + 1) + if 0 < (flw R q (b + 1) e).2 then 1 else 0), μ1) ∧ Fm (PLc t i e) μ μ1 ∧ ∀ s, i ≤ s → s < e → μ1.1 (t + 2) s = jv (flB R s (flw R q (b + 1) s)).1 ∧ μ1.1 (t + 6) s = jv (flB R s (flw R q (b + 1) s)).2 := by
        intro d hd
        obtain ⟨μ3, a3, f3, c3⟩ := ih f (i + 1) μ2 (by omega) (fun y => by have := hfi y; omega) (by omega) hb2
        rw [hb2.lg hw hs, Option.bind_some, nm_eq, jv_add, jv_add, jv_add, show (i : Int) + 1 = ((i + 1 : Nat) : Int) by omega]
        rw [hst, lin_E] at a3
        refine ⟨μ3, ?_, (hf1.mono (fun k j y => (by omega : (k = t + 2 ∨ k = t + 6) ∧ i ≤ j ∧ j < e))).tr f3 (fun k j y => (by omega : (k = t + 2 ∨ k = t + 6) ∧ i ≤ j ∧ j < e)), fun s x y => ?_⟩
        · rw [show R 2 * ((flB R i (flw R q (b + 1) i)).1 - (b + 1)) + (flB R i (flw R q (b + 1) i)).2 + (d + lng R i) = R 2 * ((flB R i (flw R q (b + 1) i)).1 - (b + 1)) + (flB R i (flw R q (b + 1) i)).2 + hdl R i + lng R i by omega]
          exact a3
        · by_cases w : s = i
          · subst w
            rw [f3.at _ _ (by omega), f3.at _ _ (by omega)]
            exact ⟨v1, v2⟩
          · exact c3 s (by omega) y
      rw [hb2.lv hw hs, Option.bind_some]
      by_cases z : lev R i = 1
      · rw [if_pos (by rw [z])]
        exact go 3 (by unfold hdl; rw [if_pos z])
      · rw [if_neg (by rw [jv_eq] <;> omega)]
        exact go 1 (by unfold hdl; rw [if_neg z])
    rw [sh_X3_layPart_20, hpe μ hb, Option.bind_some, if_neg (by rw [jv_le] <;> omega), hb.lv hw hs, Option.bind_some]
    simp only [jv_lit]
    generalize hp : flw R q (b + 1) i = p at *
    have hl : lin R (b + 1) p = R 2 * (p.1 - (b + 1)) + p.2 := rfl
    by_cases z : lev R i = 1
    · rw [if_pos (by rw [z]), hl, qU_in (by omega) (by omega) (by omega), Option.bind_some, cl_up (by omega) (by omega) (by omega), hb.2.2.1.1, pbc (by split <;> omega) (by omega) h8, Option.bind_some, nm_eq, jv_mul]
      refine k95 _ ?_
      unfold flB
      rw [if_pos z]
      simp only []
      by_cases y : 0 < p.2
      · rw [if_pos y, if_pos y, show b + 1 + (p.1 - (b + 1) + 1) = p.1 + 1 by omega]
        by_cases x : R 8 = 1 ∧ (p.1 + 1) % 2 = 0
        · rw [if_pos x, if_pos x]
          simp only [Int.add_zero] <;> (congr 1; omega)
        · rw [if_neg x, if_neg x]
          simp only [Int.add_zero] <;> (congr 1; omega)
      · rw [if_neg y, if_neg y, show b + 1 + (p.1 - (b + 1) + 0) = p.1 by omega]
        by_cases x : R 8 = 1 ∧ p.1 % 2 = 0
        · rw [if_pos x, if_pos x]
          simp only [Int.add_zero] <;> (congr 1; omega)
        · rw [if_neg x, if_neg x]
          simp only [Int.add_zero] <;> (congr 1; omega)
    · rw [if_neg (by rw [jv_eq] <;> omega), hl, qU_in (by omega) (by omega) (by omega), Option.bind_some, cl_up (by omega) (by omega) (by omega), jv_mul, jv_sub]
      have hmul : R 2 * (p.1 - (b + 1) + if 0 < p.2 then 1 else 0) = R 2 * (p.1 - (b + 1)) + if 0 < p.2 then R 2 else 0 := by
        rw [Int.mul_add]
        split <;> omega
      rw [hmul]
      by_cases y : 0 < p.2
      · rw [if_pos y]
        by_cases x : R 2 - p.2 < 2
        · rw [if_neg (by rw [jv_le] <;> omega), Option.bind_some, nm_eq, jv_mul, hmul, if_pos y]
          refine k95 _ ?_
          unfold flB
          rw [if_neg z, if_pos x]
          simp only []
          rw [show p.1 + 1 - (b + 1) = p.1 - (b + 1) + 1 by omega, Int.mul_add]
          omega
        · rw [if_pos (by rw [jv_le] <;> omega)]
          refine k95 _ ?_
          unfold flB
          rw [if_neg z, if_neg x]
      · rw [if_neg y, if_neg (by rw [jv_le] <;> omega), Option.bind_some, nm_eq, jv_mul, hmul, if_neg y]
        refine k95 _ ?_
        unfold flB
        rw [if_neg z, if_neg (by omega)]
        omega
end PGC
