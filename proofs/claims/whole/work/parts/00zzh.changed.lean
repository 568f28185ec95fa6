/-! CHANGED LINES since the latest proof -/
section CHG
variable {n : Nat} {R Rp : Nat → Int} {N fr Np frp : Nat} {I O : List Int}
abbrev dfL (R : Nat → Int) (N : Nat) (Rp : Nat → Int) (Np k : Nat) : Prop := lnT R (tpF R N) N k ≠ lnT Rp (tpF Rp Np) Np k
abbrev PTy : Nat → Nat → Prop := fun k _ => 140 ≤ k ∧ k ≤ 143
theorem chC (hn : 20000 ≤ n) (hw : WB 500 R N fr) (hwp : WB 500 Rp Np frp) {T : Nat} (hT1 : T ≤ (TB R (tpF R N) N N).1) (hT2 : T ≤ (TB Rp (tpF Rp Np) Np Np).1) : ∀ (k f i : Nat) (x : Int) (μ : Mm), i + k = T → k < f → CB 11 μ R N fr → LY 38 μ R N fr → CB 24 μ Rp Np frp → LY 98 μ Rp Np frp → ∃ μ1, sh_X11_changedLines_87 n f (jv T) (jv x) (jv i) μ = some (jv (x + cnt (dfL R N Rp Np) k i), μ1) ∧ Fm PTy μ μ1 := by
  have h0 := tpF_b hw (by omega)
  have hTT := TB_n hw (by omega) h0 N (Nat.le_refl _)
  have hN := hw.1
  intro k
  induction k with
  | zero =>
    intro f i x μ hi hf _ _ _ _
    obtain ⟨f, rfl⟩ : ∃ g, f = g + 1 := ⟨f - 1, by omega⟩
    rw [sh_X11_changedLines_87, if_pos (by rw [jv_le] <;> omega), cnt, Int.add_zero]
    exact ⟨μ, rfl, Fm.rf⟩
  | succ k ih =>
    intro f i x μ hi hf b1 L1 b2 L2
    obtain ⟨f, rfl⟩ : ∃ g, f = g + 1 := ⟨f - 1, by omega⟩
    have one : ∀ (Q : Nat → Int) (tp : Int) (M : Nat), lnsT Q tp M i (i + 1 - i) = lnT Q tp M i := by
      intro Q tp M
      rw [show i + 1 - i = 0 + 1 by omega, lnsT, lnsT, List.nil_append, Nat.add_zero]
    obtain ⟨μ1, e1, x1, f1⟩ := tys (n := n) (t := 38) (kb := 11) (tx := 140) (by omega) hw (by omega) (by omega) (by omega) (a := i) (b := i + 1) (by omega) (by omega) (cap_one hw (by omega) (by omega) (by decide)) L1 b1
    rw [one] at x1
    obtain ⟨μ2, e2, x2, f2⟩ := tys (n := n) (t := 98) (kb := 24) (tx := 142) (by omega) hwp (by omega) (by omega) (by omega) (a := i) (b := i + 1) (by omega) (by omega) (cap_one hwp (by omega) (by omega) (by decide)) (L2.kp f1 (fun q j a b y => by omega)) (b2.fr f1 (fun q j a b y => by omega))
    rw [one] at x2
    have x1' := x1.kp f2 (by omega) (fun j => by omega)
    have hl : (lnT R (tpF R N) N i).length ≤ 600 := x1.1
    have F : Fm PTy μ μ2 := (f1.mono (fun k j y => by omega)).tr f2 (fun k j y => by omega)
    have ek := lk8 (n := n) hn x1' x2 (by omega) (okT_ln hw (i := i) (by omega)).get (okT_ln hwp (i := i) (by omega)).get
    rw [sh_X11_changedLines_87, if_neg (by rw [jv_le] <;> omega)]
    simp only [jv_lit]
    rw [jv_add, jv_add, show (i : Int) + 1 = ((i + 1 : Nat) : Int) by omega, e1, Option.bind_some, e2, Option.bind_some, ek, Option.bind_some, cnt]
    have g1 := b1.fr F (fun q j a b y => by omega)
    have g2 := L1.kp F (fun q j a b y => by omega)
    have g3 := b2.fr F (fun q j a b y => by omega)
    have g4 := L2.kp F (fun q j a b y => by omega)
    by_cases z : lnT R (tpF R N) N i = lnT Rp (tpF Rp Np) Np i
    · obtain ⟨μ3, e3, f3⟩ := ih f (i + 1) x μ2 (by omega) (by omega) g1 g2 g3 g4
      rw [if_pos z, if_neg (show ¬ jv 1 = jv 0 by decide), e3, if_neg (fun q => q z), Int.zero_add]
      exact ⟨μ3, rfl, F.tr f3 (fun _ _ y => y)⟩
    · obtain ⟨μ3, e3, f3⟩ := ih f (i + 1) (x + 1) μ2 (by omega) (by omega) g1 g2 g3 g4
      rw [if_neg z, if_pos (show jv 0 = jv 0 from rfl), e3, if_pos z, Int.add_assoc]
      exact ⟨μ3, rfl, F.tr f3 (fun _ _ y => y)⟩
theorem chgM (hn : 20000 ≤ n) (hw : WB 500 R N fr) (hwp : WB 500 Rp Np frp) {T : Nat} (hT1 : T ≤ (TB R (tpF R N) N N).1) (hT2 : T ≤ (TB Rp (tpF Rp Np) Np Np).1) : ∀ (k f i : Nat) (x : Int) (μ : Mm), i + k = T → k < f → ML 307 μ R (tpF R N) N fr → NP μ Rp Np → ∃ μ1, sh_X12_changedLines_58 n f (jv T) (jv x) (jv i) μ = some (jv (x + cnt (dfL R N Rp Np) k i), μ1) ∧ Fm PM2 μ μ1 := by
  have h0 := tpF_b hw (by omega)
  have hTT := TB_n hw (by omega) h0 N (Nat.le_refl _)
  have hN := hw.1
  intro k
  induction k with
  | zero =>
    intro f i x μ hi hf _ _
    obtain ⟨f, rfl⟩ : ∃ g, f = g + 1 := ⟨f - 1, by omega⟩
    rw [sh_X12_changedLines_58, if_pos (by rw [jv_le] <;> omega), cnt, Int.add_zero]
    exact ⟨μ, rfl, Fm.rf⟩
  | succ k ih =>
    intro f i x μ hi hf hm hp
    obtain ⟨f, rfl⟩ : ∃ g, f = g + 1 := ⟨f - 1, by omega⟩
    obtain ⟨μ1, e1, f1⟩ := iaM (n := n) (by omega) hw hwp (i := i) (k := i) (by omega) (by omega) hm hp
    have hm1 := hm.kp f1
    have hp1 : NP μ1 Rp Np := ⟨fun k hk => by rw [f1.at _ _ (by omega)]; exact hp.1 k hk, fun j hj => by rw [f1.at _ _ (by omega)]; exact hp.2 j hj⟩
    rw [sh_X12_changedLines_58, if_neg (by rw [jv_le] <;> omega), e1, Option.bind_some]
    simp only [jv_lit, nm_eq]
    rw [jv_add, jv_add, jv_add, show (i : Int) + 1 = ((i + 1 : Nat) : Int) by omega, cnt]
    by_cases z : lnT R (tpF R N) N i = lnT Rp (tpF Rp Np) Np i
    · obtain ⟨μ3, e3, f3⟩ := ih f (i + 1) (x + 0) μ1 (by omega) (by omega) hm1 hp1
      rw [if_pos z, if_neg (show ¬ jv 1 = jv 0 by decide), e3, if_neg (fun q => q z), Int.add_assoc]
      exact ⟨μ3, rfl, f1.tr f3 (fun _ _ y => y)⟩
    · obtain ⟨μ3, e3, f3⟩ := ih f (i + 1) (x + 1) μ1 (by omega) (by omega) hm1 hp1
      rw [if_neg z, if_pos (show jv 0 = jv 0 from rfl), e3, if_pos z, Int.add_assoc]
      exact ⟨μ3, rfl, f1.tr f3 (fun _ _ y => y)⟩
theorem okL98b : okLy 98 := okL98
theorem q_changedLines (hn : 20000 ≤ n) {μ : Mm} (h : ST μ I O R N fr) : Qw μ (sh_X11_changedLines n μ) (sh_X12_changedLines n) := by
  have hq := h.qs
  have hw := hq.1
  have hN := hw.1
  have h0 := tpF_b hw (by omega)
  have hTT := TB_n hw (by omega) h0 N (Nat.le_refl _)
  obtain ⟨⟨p1, p2⟩, Rp, Np, frp, p3, p4, p5, p6⟩ := h.1.2.2.2
  have h0p := tpF_b p3 (by omega)
  have hTp := TB_n p3 (by omega) h0p Np (Nat.le_refl _)
  have hNp := p3.1
  have eT : μ.1 61 2 = jv (TB R (tpF R N) N N).1 := hq.2.2.1.2.2.2.1.2.1.1
  have l10 : ∀ ν : Mm, MB 307 ν R → ld ν 307 (jv 10) = some (jv (R 10)) := fun ν hν => mb7 hν 10 (by omega)
  have l11 : ∀ ν : Mm, MB 307 ν R → ld ν 307 (jv 11) = some (jv (R 11)) := fun ν hν => mb7 hν 11 (by omega)
  unfold sh_X11_changedLines
  rw [p1]
  by_cases z : R 10 = 0
  · obtain ⟨μ1, e1, y1, f1⟩ := layMM (n := n) (by omega) hw (by omega) (hq.2.2.2.r00 (v := jv 0))
    have f0 : Fm PQ μ (sI μ 306 0 (jv 0)) := Fm.rf.sI (by omega)
    have g1 : Fm PQ μ μ1 := f0.tr f1 PMY_Q
    rw [z, if_pos zro, eT]
    refine ⟨_, μ, μ1, rfl, ?_, Fw.of (g1.mono (fun k j y => Or.inl y))⟩
    unfold sh_X12_changedLines
    simp only [jv_lit]
    rw [pt_eq, Option.bind_some, e1, Option.bind_some, l10 μ1 (hq.2.2.2.fr g1 (fun i _ => by omega)), Option.bind_some, z, if_pos (show jv 0 = jv 0 from rfl), y1.2.1.2.1.1]
  · have z1 : R 10 = 1 := by omega
    obtain ⟨g1, g2, g3⟩ := p5 z1
    obtain ⟨μ1, e1, f1, L1⟩ := layA (n := n) (t := 98) (kb := 24) (by omega) p3 (by omega) okL98 (by omega) p4
    have b1 := hq.2.1.fr f1 (fun q j a b y => by omega)
    have L0 := hq.2.2.1.kp f1 (fun q j a b y => by omega)
    have b2 := p4.fr f1 (fun q j a b y => by omega)
    have eTp : μ1.1 121 2 = jv (TB Rp (tpF Rp Np) Np Np).1 := L1.2.2.2.1.2.1.1
    have eT1 : μ1.1 61 2 = jv (TB R (tpF R N) N N).1 := by rw [f1.at _ _ (by omega), eT]
    have emin : (if jv (TB Rp (tpF Rp Np) Np Np).1 < jv (TB R (tpF R N) N N).1 then jv (TB Rp (tpF Rp Np) Np Np).1 else jv (TB R (tpF R N) N N).1) = jv ((min (TB Rp (tpF Rp Np) Np Np).1 (TB R (tpF R N) N N).1 : Nat) : Int) := by
      by_cases y : (TB Rp (tpF Rp Np) Np Np).1 < (TB R (tpF R N) N N).1
      · rw [if_pos (by rw [jv_lt] <;> omega), Nat.min_eq_left (by omega)]
      · rw [if_neg (by rw [jv_lt] <;> omega), Nat.min_eq_right (by omega)]
    have emax : (if jv (TB R (tpF R N) N N).1 < jv (TB Rp (tpF Rp Np) Np Np).1 then jv (TB Rp (tpF Rp Np) Np Np).1 else jv (TB R (tpF R N) N N).1) = jv ((max (TB Rp (tpF Rp Np) Np Np).1 (TB R (tpF R N) N N).1 : Nat) : Int) := by
      by_cases y : (TB R (tpF R N) N N).1 < (TB Rp (tpF Rp Np) Np Np).1
      · rw [if_pos (by rw [jv_lt] <;> omega), Nat.max_eq_left (by omega)]
      · rw [if_neg (by rw [jv_lt] <;> omega), Nat.max_eq_right (by omega)]
    have hmin1 : min (TB Rp (tpF Rp Np) Np Np).1 (TB R (tpF R N) N N).1 ≤ (TB R (tpF R N) N N).1 := Nat.min_le_right _ _
    have hmin2 : min (TB Rp (tpF Rp Np) Np Np).1 (TB R (tpF R N) N N).1 ≤ (TB Rp (tpF Rp Np) Np Np).1 := Nat.min_le_left _ _
    generalize hmn : min (TB Rp (tpF Rp Np) Np Np).1 (TB R (tpF R N) N N).1 = T at *
    generalize hmx : max (TB Rp (tpF Rp Np) Np Np).1 (TB R (tpF R N) N N).1 = M at *
    obtain ⟨μ2, e2, f2⟩ := chC (n := n) hn hw p3 hmin1 hmin2 T n 0 ((M : Int) - T) μ1 (by omega) (by omega) b1 L0 b2 L1
    have e2' : sh_X11_changedLines_87 n n (jv T) (jv ((M : Int) - T)) (0 : Int32) μ1 = _ := e2
    have F : Fw PV QV μ μ2 := Fw.of ((f1.mono (fun k j y => by omega)).tr f2 (fun k j y => by omega))
    have m2 := hq.2.2.2.fw F (fun i _ => by omega)
    obtain ⟨μ3, e3, y3, f3⟩ := layMM (n := n) (by omega) hw (by omega) (m2.r00 (v := jv 0))
    have f0 : Fm PQ μ2 (sI μ2 306 0 (jv 0)) := Fm.rf.sI (by omega)
    have G : Fm PQ μ2 μ3 := f0.tr f3 PMY_Q
    have m3 := m2.fr G (fun i _ => by omega)
    have np : NP μ3 Rp Np := ⟨fun k hk => by rw [G.at _ _ (by omega), F.1 _ _ (by omega)]; exact g2 k hk, fun i hi => by rw [G.at _ _ (by omega), F.1 _ _ (by omega)]; exact g3 i hi⟩
    obtain ⟨μ4, e4, f4⟩ := chgM (n := n) hn hw p3 hmin1 hmin2 T n 0 ((M : Int) - T) μ3 (by omega) (by omega) ⟨m3, y3.1, y3.2.1⟩ np
    have e4' : sh_X12_changedLines_58 n n (jv T) (jv ((M : Int) - T)) (jv 0) μ3 = _ := e4
    refine ⟨jv ((M : Int) - T + cnt (dfL R N Rp Np) T 0), μ2, μ4, ?_, ?_, (F.tr (Fw.of (Q := QV) G) (fun k j y => Or.inl y) (fun _ y => y)).tr (Fw.of (Q := QV) f4) (fun k j y => by omega) (fun _ y => y)⟩
    · rw [z1, if_neg one_ne, e1, Option.bind_some]
      simp only [nm_eq]
      rw [eTp, eT1, emin, emax, jv_sub]
      exact e2'
    · unfold sh_X12_changedLines
      simp only [jv_lit, nm_eq]
      rw [pt_eq, Option.bind_some, e3, Option.bind_some, l10 μ3 m3, Option.bind_some, z1, if_neg (show ¬ jv 1 = jv 0 by decide), l11 μ3 m3, Option.bind_some, Option.bind_some, y3.2.1.2.1.1, g1, emin, emax, jv_sub]
      exact e4'
end CHG
