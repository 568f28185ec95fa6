/-! PAGES of the class, whole -/
section PGD
variable {n t kb : Nat} {R : Nat → Int} {K : Int} {N fr : Nat}
def PC (t : Nat) (μ : Mm) (R : Nat → Int) (tp : Int) (N fr : Nat) : Prop := okPg t ∧ (∀ s, s < N → μ.1 (t + 2) s = jv (pgs R tp s) ∧ μ.1 (t + 4) s = jv (bkp R tp N fr s) ∧ μ.1 (t + 6) s = jv (lns R tp s) ∧ μ.1 (t + 8) s = jv (nwd R tp s)) ∧ μ.1 t 4 = jv (mBg R tp N fr) ∧ μ.1 t 5 = jv (lsP R tp N fr)
theorem PC.kp {μ μ' : Mm} {tp : Int} {P : Nat → Nat → Prop} (h : PC t μ R tp N fr) (hf : Fm P μ μ') (hp : ∀ q j, t ≤ q → q < t + 9 → ¬ P q j) : PC t μ' R tp N fr := by
  refine ⟨h.1, fun s hs => ⟨?_, ?_, ?_, ?_⟩, ?_, ?_⟩
  · rw [hf.2 _ _ (hp _ _ (by omega) (by omega))]; exact (h.2.1 s hs).1
  · rw [hf.2 _ _ (hp _ _ (by omega) (by omega))]; exact (h.2.1 s hs).2.1
  · rw [hf.2 _ _ (hp _ _ (by omega) (by omega))]; exact (h.2.1 s hs).2.2.1
  · rw [hf.2 _ _ (hp _ _ (by omega) (by omega))]; exact (h.2.1 s hs).2.2.2
  · rw [hf.2 _ _ (hp _ _ (by omega) (by omega))]; exact h.2.2.1
  · rw [hf.2 _ _ (hp _ _ (by omega) (by omega))]; exact h.2.2.2
theorem flw_ln (hw : WB K R N fr) (hK : K ≤ 600) {q a : Int} {e : Nat} (hq : q = 0 ∧ e = fr ∨ q = 1 ∧ e = N ∧ fr < N) (h0 : 0 < e) : 1 ≤ (flw R q a e).2 := by
  have h1 := hw.1
  obtain ⟨g, rfl⟩ : ∃ g, e = g + 1 := ⟨e - 1, by omega⟩
  have hp := hw.pb (s := g) (by omega)
  have hb := flw_b hw hK q a g (by omega)
  rw [flw, if_pos (by omega)]
  exact (flE_b hw hK (s := g) (by omega) hb.2.2.1 hb.2.2.2).2.2.1
theorem lpA {μ : Mm} (hn : 30 ≤ n) (hw : WB K R N fr) (hK : K ≤ 600) (ho : okPg t) (hkt : kb + 12 < t) {tp : Int} (h0 : 0 ≤ tp ∧ tp ≤ 100) (hb : CB kb μ R N fr) : ∃ μ1, sh_X3_layPart n t kb (jv 0) (jv tp) μ = some (jv (bhd R tp N fr - 1 - tp), μ1) ∧ Fm (PLc t 0 fr) μ μ1 ∧ ∀ s, s < fr → μ1.1 (t + 2) s = jv (pgs R tp s) ∧ μ1.1 (t + 6) s = jv (lns R tp s) := by
  have h1 := hw.1
  obtain ⟨μ1, a, b, c⟩ := lpc_l (n := n) (t := t) (kb := kb) hw hK ho hkt (q := 0) (b := tp) (e := fr) (Or.inl ⟨rfl, rfl⟩) h0 fr n 0 μ (by omega) (fun y => absurd y (by omega)) (by omega) hb
  refine ⟨μ1, ?_, b, fun s hs => ?_⟩
  · unfold sh_X3_layPart
    simp only [jv_lit]
    rw [hb.s2, Option.bind_some]
    unfold sh_X0_partBegin
    simp only [jv_lit]
    rw [if_pos trivial, Option.bind_some]
    have e : lin R (tp + 1) (flw R 0 (tp + 1) 0) = 0 := by
      show R 2 * (tp + 1 - (tp + 1)) + 0 = 0
      rw [Int.sub_self, Int.mul_zero]
      rfl
    rw [e] at a
    rw [show jv ((0 : Nat) : Int) = jv 0 from rfl] at a
    rw [a]
    congr 3
    unfold bhd
    by_cases z : 0 < fr
    · have hl := flw_ln hw hK (q := 0) (a := tp + 1) (e := fr) (Or.inl ⟨rfl, rfl⟩) z
      have hst := flw_stay hw (tp + 1) (N - fr) (by omega)
      rw [show fr + (N - fr) = N by omega] at hst
      rw [if_pos z, hst, if_pos (by omega)]
      omega
    · have e0 : fr = 0 := by omega
      subst e0
      show tp + 1 - (tp + 1) + (if (0 : Int) < 0 then 1 else 0) = (if 0 < 0 then (flw R 0 (tp + 1) N).1 + 1 else tp + 1) - 1 - tp
      simp only [Int.lt_irrefl, Nat.lt_irrefl, if_false]
      omega
  · have hp := hw.p0 (s := s) (by omega) hs
    have := c s (by omega) hs
    unfold pgs lns fst
    rw [hp, if_pos rfl]
    exact this
theorem lpB {μ : Mm} (hn : 30 ≤ n) (hw : WB K R N fr) (hK : K ≤ 600) (ho : okPg t) (hkt : kb + 12 < t) (tp : Int) (hb : CB kb μ R N fr) : ∃ μ1, sh_X3_layPart n t kb (jv 1) (jv 0) μ = some (jv (mnP R N fr), μ1) ∧ Fm (PLc t fr N) μ μ1 ∧ ∀ s, fr ≤ s → s < N → μ1.1 (t + 2) s = jv (pgs R tp s) ∧ μ1.1 (t + 6) s = jv (lns R tp s) := by
  have h1 := hw.1
  obtain ⟨μ1, a, b, c⟩ := lpc_l (n := n) (t := t) (kb := kb) hw hK ho hkt (q := 1) (b := 0) (e := N) (Or.inr ⟨rfl, rfl⟩) (by omega) (N - fr) n fr μ (by omega) (fun y => Nat.le_refl _) (by omega) hb
  refine ⟨μ1, ?_, b, fun s hs hs2 => ?_⟩
  · unfold sh_X3_layPart
    simp only [jv_lit]
    rw [hb.s2, Option.bind_some]
    unfold sh_X0_partBegin
    simp only [jv_lit]
    rw [if_neg (by rw [jv_eq] <;> omega), Option.bind_some, hb.2.2.1.2.2]
    have e : lin R (0 + 1) (flw R 1 (0 + 1) fr) = 0 := by
      rw [flw_skip hw _ fr (Nat.le_refl _)]
      show R 2 * (0 + 1 - (0 + 1)) + 0 = 0
      rw [Int.sub_self, Int.mul_zero]
      rfl
    rw [e] at a
    rw [a]
    congr 3
    unfold mnP
    by_cases z : fr < N
    · have hl := flw_ln hw hK (q := 1) (a := 0 + 1) (e := N) (Or.inr ⟨rfl, rfl, z⟩) (by omega)
      rw [if_pos z, if_pos (by omega)]
      show (flw R 1 1 N).1 - (0 + 1) + 1 = _
      omega
    · have e0 : fr = N := by omega
      rw [if_neg z, ← e0, flw_skip hw _ fr (Nat.le_refl _)]
      rfl
  · have hp := hw.p1 (s := s) hs2 hs
    have := c s hs hs2
    unfold pgs lns fst
    rw [hp, if_neg (by omega)]
    exact this
abbrev PLd (t : Nat) : Nat → Nat → Prop := fun k _ => k = t + 4 ∨ k = t + 8
theorem lay70 (hn : 30 ≤ n) (hw : WB K R N fr) (hK : K ≤ 600) (ho : okPg t) (hkt : kb + 12 < t) {tp : Int} (h0 : 0 ≤ tp ∧ tp ≤ 100) : ∀ (j f i : Nat) (μ : Mm), i + j = N → j < f → CB kb μ R N fr → (∀ s, s < N → μ.1 (t + 2) s = jv (pgs R tp s)) → (∀ s, s < i → μ.1 (t + 4) s = jv (bkp R tp N fr s) ∧ μ.1 (t + 8) s = jv (nwd R tp s)) → ∃ μ1, sh_X3_lay_70 n t kb (jv tp) f (jv (bgM R tp N fr)) (jv i) μ = some μ1 ∧ Fm (PLd t) μ μ1 ∧ ∀ s, s < N → μ1.1 (t + 4) s = jv (bkp R tp N fr s) ∧ μ1.1 (t + 8) s = jv (nwd R tp s) := by
  have h1 := hw.1
  have l1 : ln (t + 1 + 1) = 24 := ho.1
  have l2 : ln (t + 3 + 1) = 24 := ho.2.1
  have l3 : ln (t + 7 + 1) = 24 := ho.2.2.2
  intro j
  induction j with
  | zero =>
    intro f i μ hj hf hb hp hd
    obtain ⟨f, rfl⟩ : ∃ g, f = g + 1 := ⟨f - 1, by omega⟩
    have ei : i = N := by omega
    subst ei
    rw [sh_X3_lay_70, hb.2.2.1.2.1, if_pos (by rw [jv_le] <;> omega)]
    exact ⟨μ, rfl, Fm.rf, hd⟩
  | succ j ih =>
    intro f i μ hj hf hb hp hd
    obtain ⟨f, rfl⟩ : ∃ g, f = g + 1 := ⟨f - 1, by omega⟩
    have hs : i < N := by omega
    have hpg := pgs_b hw hK hs h0.1 h0.2
    have k : ∀ (x w : Int), x = bkp R tp N fr i → w = nwd R tp i → ∃ μ1, sh_X3_lay_70 n t kb (jv tp) f (jv (bgM R tp N fr)) (jv i + jv 1) (sI (sI μ (t + 4) i (jv x)) (t + 8) i (jv w)) = some μ1 ∧ Fm (PLd t) μ μ1 ∧ ∀ s, s < N → μ1.1 (t + 4) s = jv (bkp R tp N fr s) ∧ μ1.1 (t + 8) s = jv (nwd R tp s) := by
      intro x w hx hww
      have hf1 : Fm (PLd t) μ (sI (sI μ (t + 4) i (jv x)) (t + 8) i (jv w)) := (Fm.rf.sI (Or.inl rfl)).sI (Or.inr rfl)
      obtain ⟨μ1, a, b, c⟩ := ih f (i + 1) _ (by omega) (by omega) (hb.fr hf1 (fun q j a c z => by omega)) (fun s hs => by rw [hf1.at _ _ (by omega)]; exact hp s hs) (fun s hs => by
        by_cases y : s = i
        · subst y
          rw [sI_1, if_neg (by omega), sI_1, if_pos ⟨rfl, rfl⟩, sI_1, if_pos ⟨rfl, rfl⟩, hx, hww]
          exact ⟨rfl, rfl⟩
        · rw [sI_1, if_neg (by omega), sI_1, if_neg (by omega), sI_1, if_neg (by omega), sI_1, if_neg (by omega)]
          exact hd s (by omega))
      refine ⟨μ1, ?_, hf1.tr b (fun _ _ y => y), c⟩
      rw [jv_add]
      exact a
    rw [sh_X3_lay_70, hb.2.2.1.2.1, if_neg (by rw [jv_le] <;> omega), a5_in (by omega) (by omega), Option.bind_some, Int.toNat_natCast, show t + 1 + 1 = t + 2 from rfl, hp i hs, hb.po hw hs, Option.bind_some]
    unfold sh_X3_lay_104 sh_X3_lay_129
    simp only [jv_lit]
    rcases hw.pb hs with ⟨z, -⟩ | ⟨z, -⟩
    · rw [if_pos (by rw [z]), if_neg (by rw [jv_eq] <;> omega), p5_in (by omega) (by omega), Option.bind_some, if_neg (by rw [jv_eq] <;> omega), rw8 (by omega) (by omega), Option.bind_some, p5_in (by omega) (by omega), Option.bind_some, Int.toNat_natCast]
      exact k _ _ (by unfold bkp; rw [if_pos z]) (by unfold nwd prn; rw [if_pos z])
    · rw [if_neg (by rw [z, jv_eq] <;> omega), if_pos trivial, jv_add, jv_sub, p5_in (by omega) (by omega), Option.bind_some, if_pos trivial, aw8 (by omega) (by omega) (by omega), Option.bind_some, p5_in (by omega) (by omega), Option.bind_some, Int.toNat_natCast]
      exact k _ _ (by unfold bkp; rw [if_neg (by omega)]) (by unfold nwd prn; rw [if_neg (by omega)])
abbrev PPg (t : Nat) : Nat → Nat → Prop := fun k _ => t ≤ k ∧ k < t + 9
theorem lyP {μ : Mm} (hn : 30 ≤ n) (hw : WB K R N fr) (hK : K ≤ 600) (ho : okPg t) (hkt : kb + 12 < t) {tp : Int} (h0 : 0 ≤ tp ∧ tp ≤ 100) (hb : CB kb μ R N fr) : ∃ μ1, sh_X3_lay n t kb (jv tp) μ = some μ1 ∧ Fm (PPg t) μ μ1 ∧ PC t μ1 R tp N fr := by
  have h1 := hw.1
  have h8 := hw.2.2.2.2.2.2.2.2.2.1
  obtain ⟨μ1, a1, f1, c1⟩ := lpA (n := n) (t := t) hn hw hK ho hkt h0 hb
  have hb1 := hb.fr f1 (fun q j a c z => by omega)
  obtain ⟨μ2, a2, f2, c2⟩ := lpB (n := n) (t := t) hn hw hK ho hkt tp hb1
  have hb2 := hb1.fr f2 (fun q j a c z => by omega)
  have hbb := flw_b hw hK 0 (tp + 1) N (Nat.le_refl _)
  have hmb := flw_b hw hK 1 1 N (Nat.le_refl _)
  have hbh : tp + 1 ≤ bhd R tp N fr ∧ bhd R tp N fr ≤ 5000 := by unfold bhd; split <;> omega
  have ebg : (1 : Int) + (if R 8 = 1 ∧ (0 + 1 + (tp + (bhd R tp N fr - 1 - tp))) % 2 = 0 then tp + (bhd R tp N fr - 1 - tp) + 1 else tp + (bhd R tp N fr - 1 - tp)) = bgM R tp N fr := by
    unfold bgM
    rw [show (0 : Int) + 1 + (tp + (bhd R tp N fr - 1 - tp)) = bhd R tp N fr by omega]
    split <;> omega
  have hbg : 1 ≤ bgM R tp N fr ∧ bgM R tp N fr ≤ 5001 := by unfold bgM; split <;> omega
  have g2 : Fm (PPg t) μ μ2 := (f1.mono (fun k j y => (by omega : t ≤ k ∧ k < t + 9))).tr f2 (fun k j y => (by omega : t ≤ k ∧ k < t + 9))
  have hpg : ∀ s, s < N → μ2.1 (t + 2) s = jv (pgs R tp s) ∧ μ2.1 (t + 6) s = jv (lns R tp s) := by
    intro s hs
    by_cases y : s < fr
    · rw [f2.at _ _ (by omega), f2.at _ _ (by omega)]
      exact c1 s y
    · exact c2 s (by omega) hs
  have fin : ∀ (x v : Int) (μ3 : Mm), x = mBg R tp N fr → v = lsP R tp N fr → μ3 = sI (sI μ2 t 4 (jv x)) t 5 (jv v) → ∃ μ4, sh_X3_lay_70 n t kb (jv tp) n (jv (bgM R tp N fr)) (jv 0) μ3 = some μ4 ∧ Fm (PPg t) μ μ4 ∧ PC t μ4 R tp N fr := by
    intro x v μ3 hx hv e3
    have hf3 : Fm (fun k j => k = t ∧ (j = 4 ∨ j = 5)) μ2 μ3 := by
      rw [e3]
      exact (Fm.rf.sI ⟨rfl, Or.inl rfl⟩).sI ⟨rfl, Or.inr rfl⟩
    obtain ⟨μ4, a4, f4, c4⟩ := lay70 (n := n) hn hw hK ho hkt h0 N n 0 μ3 (by omega) (by omega) (hb2.fr hf3 (fun q j a c z => by omega)) (fun s hs => by rw [hf3.at _ _ (by omega)]; exact (hpg s hs).1) (fun s h => absurd h (by omega))
    refine ⟨μ4, a4, (g2.tr hf3 (fun k j y => (by omega : t ≤ k ∧ k < t + 9))).tr f4 (fun k j y => (by omega : t ≤ k ∧ k < t + 9)), ho, fun s hs => ⟨?_, (c4 s hs).1, ?_, (c4 s hs).2⟩, ?_, ?_⟩
    · rw [f4.at _ _ (by omega), hf3.at _ _ (by omega)]
      exact (hpg s hs).1
    · rw [f4.at _ _ (by omega), hf3.at _ _ (by omega)]
      exact (hpg s hs).2
    · rw [f4.at _ _ (by omega), e3, sI_1, if_neg (by omega), sI_1, if_pos ⟨rfl, rfl⟩, hx]
    · rw [f4.at _ _ (by omega), e3, sI_1, if_pos ⟨rfl, rfl⟩, hv]
  unfold sh_X3_lay
  simp only [jv_lit]
  rw [a1, Option.bind_some]
  simp only [nm_eq]
  rw [jv_add, hb1.2.2.1.1, pbc (by omega) (by omega) h8, Option.bind_some, jv_add, ebg, a2, Option.bind_some]
  unfold sh_X3_lay_44
  simp only [jv_lit]
  by_cases z : fr < N
  · have zm : mnP R N fr = (flw R 1 1 N).1 := by unfold mnP; rw [if_pos z]
    rw [if_neg (by rw [jv_le] <;> omega), pt_eq, Option.bind_some, if_neg (by rw [jv_le] <;> omega), jv_add, jv_sub, pt_eq, Option.bind_some]
    exact fin _ _ _ (by unfold mBg; rw [if_pos z]) (by unfold lsP; rw [if_pos z]) rfl
  · have zm : mnP R N fr = 0 := by unfold mnP; rw [if_neg z]
    rw [if_pos (by rw [jv_le] <;> omega), pt_eq, Option.bind_some, if_pos (by rw [jv_le] <;> omega), pt_eq, Option.bind_some]
    exact fin _ _ _ (by unfold mBg; rw [if_neg z]) (by unfold lsP; rw [if_neg z]; omega) rfl
end PGD
