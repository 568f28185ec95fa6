/-! THE TABLE of the class, whole -/
section TBD
variable {n t kb m p : Nat} {R : Nat → Int} {K : Int} {N fr : Nat} {tp : Int}
theorem limT_b (hw : WB K R N fr) (hK : K ≤ 600) (h0 : 0 ≤ tp ∧ tp ≤ 100) : (∀ i, i ≤ N → 0 ≤ colF R tp i ∧ colF R tp i ≤ 45) ∧ -200 ≤ limT R tp N ∧ limT R tp N ≤ 120 := by
  have hc : ∀ i, i ≤ N → 0 ≤ colF R tp i ∧ colF R tp i ≤ 45 := by
    intro i
    induction i with
    | zero => intro _; exact ⟨Int.le_refl _, by show (0 : Int) ≤ 45; omega⟩
    | succ i ih =>
      intro hi
      have := nwd_b hw hK (s := i) (by omega) h0.1 h0.2
      have := ih (by omega)
      rw [colF]
      split <;> omega
  have hcN := hc N (Nat.le_refl _)
  have h5 := hw.2.2.2.2.2.2.1
  have hR := hw.2.1
  refine ⟨hc, ?_, ?_⟩ <;> unfold limT <;> omega
theorem TB_s (i : Nat) : TB R tp N (i + 1) = tEnt R (limT R tp N) (nwd R tp i) i (TB R tp N i) := rfl
theorem TB_e (hw : WB K R N fr) (hK : K ≤ 600) (h0 : 0 ≤ tp ∧ tp ≤ 100) {i : Nat} (hi : i < N) : TE R (nwd R tp i) i (TB R tp N i) (TB R tp N (i + 1)) := by
  rw [TB_s]
  exact TE.ent hw (limT_b hw hK h0).2.2 hi _
theorem TB_n (hw : WB K R N fr) (hK : K ≤ 600) (h0 : 0 ≤ tp ∧ tp ≤ 100) : ∀ i, i ≤ N → (TB R tp N i).1 ≤ 8 * i := by
  intro i
  induction i with
  | zero => intro _; exact Nat.le_refl _
  | succ i ih =>
    intro hi
    have h := TB_e hw hK h0 (i := i) (by omega)
    have hwc := (hw.sec (s := i) (by omega)).2.2.2.1
    have := ih (by omega)
    have := h.2.1
    omega
def CE (t : Nat) (μ : Mm) (R : Nat → Int) (tp : Int) (N i : Nat) : Prop := ∀ e, e < i → μ.1 (t + 12) e = jv (TB R tp N e).1 ∧ μ.1 (t + 14) e = jv ((TB R tp N (e + 1)).1 - (TB R tp N e).1) ∧ μ.1 (t + 16) e = jv (dFi R (nwd R tp e) (lL (TB R tp N (e + 1)) 2)) ∧ μ.1 (t + 18) e = jv (dCn R (nwd R tp e) (lL (TB R tp N (e + 1)) 2))
abbrev PTa (t : Nat) : Nat → Nat → Prop := fun k j => t ≤ k ∧ k < t + 19 ∧ ¬ (k = t ∧ j ≤ 1)
theorem AC.fin {μ : Mm} {T : Tb} (h : AC t μ T) : AC t μ (tFin T) := AT.out h (c := 5) (by omega) _ _
theorem AC.dot {μ : Mm} {T : Tb} {nw : Int} (h : AC t μ T) : AC t μ (tDot R nw T) := AT.out (AT.out h (c := 6) (by omega) _ _) (c := 7) (by omega) _ _
theorem l77 (hn : 30 ≤ n) (hw : WB K R N fr) (hK : K ≤ 600) (h0 : 0 ≤ tp ∧ tp ≤ 100) (ho : okTb t) (hkm : kb + 12 < t) (hmt : m + 12 < t) (hpt : p + 8 < t) : ∀ (j f i : Nat) (μ : Mm), i + j = N → j < f → CB kb μ R N fr → ME m μ R N → PC p μ R tp N fr → μ.1 t 1 = jv (limT R tp N) → AC t μ (TB R tp N i) → CE t μ R tp N i → ∃ μ1, sh_X7_lay_77 n t kb m p f (jv i) μ = some μ1 ∧ Fm (PTa t) μ μ1 ∧ AC t μ1 (TB R tp N N) ∧ CE t μ1 R tp N N := by
  have h1 := hw.1
  have l11 : ln (t + 11 + 1) = 24 := ho.2.2.2.2.2.1
  have l13 : ln (t + 13 + 1) = 24 := ho.2.2.2.2.2.2.1
  have l7 : ln (t + 7 + 1) = 192 := ho.2.2.2.1
  have l17 : ln (t + 17 + 1) = 24 := ho.2.2.2.2.2.2.2.2
  have hlim := (limT_b hw hK h0).2
  intro j
  induction j with
  | zero =>
    intro f i μ hj hf hb hm hp hl ha hc
    obtain ⟨f, rfl⟩ : ∃ g, f = g + 1 := ⟨f - 1, by omega⟩
    have ei : i = N := by omega
    subst ei
    rw [sh_X7_lay_77, hb.2.2.1.2.1, if_pos (by rw [jv_le] <;> omega)]
    exact ⟨μ, rfl, Fm.rf, ha, hc⟩
  | succ j ih =>
    intro f i μ hj hf hb hm hp hl ha hc
    obtain ⟨f, rfl⟩ : ∃ g, f = g + 1 := ⟨f - 1, by omega⟩
    have hs : i < N := by omega
    have hT := TB_n hw hK h0 i (by omega)
    have hT1 := TB_n hw hK h0 (i + 1) (by omega)
    have hE := TB_e hw hK h0 hs
    have hwc := (hw.sec hs).2.2.2.1
    have hnw := nwd_b hw hK hs h0.1 h0.2
    have lp7 : ln (p + 7 + 1) = 24 := hp.1.2.2.2
    have h6 := hw.2.2.2.2.2.2.2.1
    have hTI := TI.tok hw hlim.2 hs (TB R tp N i) ((wct R i).toNat - 1)
    rw [show (wct R i).toNat - 1 + 1 = (wct R i).toNat by omega] at hTI
    -- the end of an entry
    have fin : ∀ (μ3 : Mm), Fm (PTa t) μ μ3 → AC t μ3 (TB R tp N (i + 1)) → μ3.1 (t + 12) i = jv (TB R tp N i).1 → μ3.1 (t + 16) i = jv (dFi R (nwd R tp i) (lL (TB R tp N (i + 1)) 2)) → μ3.1 (t + 18) i = jv (dCn R (nwd R tp i) (lL (TB R tp N (i + 1)) 2)) → (∀ e, e < i → μ3.1 (t + 12) e = μ.1 (t + 12) e ∧ μ3.1 (t + 14) e = μ.1 (t + 14) e ∧ μ3.1 (t + 16) e = μ.1 (t + 16) e ∧ μ3.1 (t + 18) e = μ.1 (t + 18) e) → ∃ μ1, sh_X7_lay_185 n t kb m p (fun (x4 : Int32) (μ : Mm) => sh_X7_lay_77 n t kb m p f x4 μ) (jv i) μ3 = some μ1 ∧ Fm (PTa t) μ μ1 ∧ AC t μ1 (TB R tp N N) ∧ CE t μ1 R tp N N := by
      intro μ3 hf3 ha3 e12 e16 e18 hold
      unfold sh_X7_lay_185
      rw [a5_in (by omega) (by omega), Option.bind_some, Int.toNat_natCast, show t + 11 + 1 = t + 12 from rfl, e12, ha3.1, jv_sub, p5_in (by omega) (by omega), Option.bind_some, Int.toNat_natCast, jv_lit (nat_lit 1), jv_add, show (i : Int) + 1 = ((i + 1 : Nat) : Int) by omega]
      have hf4 : Fm (PTa t) μ (sI μ3 (t + 13 + 1) i (jv ((TB R tp N (i + 1)).1 - (TB R tp N i).1))) := hf3.sI (by omega)
      obtain ⟨μ1, a, b, c, d⟩ := ih f (i + 1) _ (by omega) (by omega) (hb.fr hf4 (fun q j x y z => by omega)) (hm.fr hf4 (fun q j x y z => by omega)) (hp.kp hf4 (fun q j x y z => by omega)) (by rw [hf4.at _ _ (by omega)]; exact hl) (ha3.kp (P := fun k _ => k = t + 14) (Fm.rf.sI rfl) (by omega) (fun c hc i y => by omega)) (fun e he => by
        by_cases z : e = i
        · subst z
          refine ⟨?_, ?_, ?_, ?_⟩
          · rw [sI_1, if_neg (by omega)]; exact e12
          · rw [sI_1, if_pos ⟨rfl, rfl⟩]
          · rw [sI_1, if_neg (by omega)]; exact e16
          · rw [sI_1, if_neg (by omega)]; exact e18
        · have ho2 := hold e (by omega)
          have hc2 := hc e (by omega)
          refine ⟨?_, ?_, ?_, ?_⟩
          · rw [sI_1, if_neg (by omega), ho2.1]; exact hc2.1
          · rw [sI_1, if_neg (by omega), ho2.2.1]; exact hc2.2.1
          · rw [sI_1, if_neg (by omega), ho2.2.2.1]; exact hc2.2.2.1
          · rw [sI_1, if_neg (by omega), ho2.2.2.2]; exact hc2.2.2.2)
      exact ⟨μ1, a, hf4.tr b (fun _ _ z => z), c, d⟩
    rw [sh_X7_lay_77, hb.2.2.1.2.1, if_neg (by rw [jv_le] <;> omega), ha.1, p5_in (by omega) (by omega), Option.bind_some, Int.toNat_natCast]
    have hf1 : Fm (fun k _ => k = t + 12) μ (sI μ (t + 11 + 1) i (jv (TB R tp N i).1)) := Fm.rf.sI rfl
    have v12 : (sI μ (t + 11 + 1) i (jv (TB R tp N i).1)).1 (t + 12) i = jv (TB R tp N i).1 := by rw [sI_1, if_pos ⟨rfl, rfl⟩]
    have o12 : ∀ e, e < i → (sI μ (t + 11 + 1) i (jv (TB R tp N i).1)).1 (t + 12) e = μ.1 (t + 12) e := fun e he => by rw [sI_1, if_neg (by omega)]
    generalize (sI μ (t + 11 + 1) i (jv (TB R tp N i).1)) = μ1 at *
    have hb1 := hb.fr hf1 (fun q j x y z => by omega)
    have hm1 := hm.fr hf1 (fun q j x y z => by omega)
    have ha1 : AC t μ1 (TB R tp N i) := ha.kp hf1 (by omega) (fun c hc i y => by omega)
    obtain ⟨μ2, a2, b2, f2⟩ := ltok8 (n := n) (m := m) hn hw ho hkm hmt hlim hs (T0 := TB R tp N i) (by omega) hb1 hm1 (by rw [hf1.at _ _ (by omega)]; exact hl) ha1
    have g2 : Fm (PTa t) μ μ2 := (hf1.mono (fun k j z => (by omega : t ≤ k ∧ k < t + 19 ∧ ¬ (k = t ∧ j ≤ 1)))).tr f2 (fun k j z => (by omega : t ≤ k ∧ k < t + 19 ∧ ¬ (k = t ∧ j ≤ 1)))
    have hb2 := hb.fr g2 (fun q j x y z => by omega)
    have hm2 := hm.fr g2 (fun q j x y z => by omega)
    have hp2 := hp.kp g2 (fun q j x y z => by omega)
    have hnum : ∀ μ9 : Mm, PC p μ9 R tp N fr → sh_X5_at (p + 7) (jv i) μ9 = some (jv (nwd R tp i)) := by
      intro μ9 h9
      rw [a5_in (by omega) (by omega), Int.toNat_natCast]
      exact congrArg some (h9.2.1 i hs).2.2.2
    have hS := TB_s (R := R) (tp := tp) (N := N) i
    unfold tEnt at hS
    generalize hU : tTok R (limT R tp N) i (TB R tp N i) (wct R i).toNat = U at *
    obtain ⟨i1, i2, i3, i4, i5⟩ := hTI
    have il := i4 (U.1 - 1) (by omega) (by omega)
    have il2 : 0 ≤ lL U 2 ∧ lL U 2 ≤ 120 := il.2.2.1
    have il3 : 1 ≤ lL U 3 := il.2.2.2.1
    have hUn : 0 < U.1 ∧ U.1 ≤ 192 := by
      have : (TB R tp N i).1 ≤ 8 * 23 := by omega
      refine ⟨by omega, ?_⟩
      omega
    rw [a2, Option.bind_some, hnum μ2 hp2, Option.bind_some, ld8 hw ho hs (by omega) (by omega) il2 hb2 b2, Option.bind_some]
    have v18 : (sI (sI μ2 (t + 16) i (jv (dFi R (nwd R tp i) (lL U 2)))) (t + 18) i (jv (dCn R (nwd R tp i) (lL U 2)))).1 (t + 17 + 1) i = jv (dCn R (nwd R tp i) (lL U 2)) := by rw [sI_1, if_pos ⟨rfl, rfl⟩]
    have v16 : (sI (sI μ2 (t + 16) i (jv (dFi R (nwd R tp i) (lL U 2)))) (t + 18) i (jv (dCn R (nwd R tp i) (lL U 2)))).1 (t + 16) i = jv (dFi R (nwd R tp i) (lL U 2)) := by rw [sI_1, if_neg (by omega), sI_1, if_pos ⟨rfl, rfl⟩]
    have f3 : Fm (fun k j => (k = t + 16 ∨ k = t + 18) ∧ j = i) μ2 (sI (sI μ2 (t + 16) i (jv (dFi R (nwd R tp i) (lL U 2)))) (t + 18) i (jv (dCn R (nwd R tp i) (lL U 2)))) := (Fm.rf.sI ⟨Or.inl rfl, rfl⟩).sI ⟨Or.inr rfl, rfl⟩
    generalize (sI (sI μ2 (t + 16) i (jv (dFi R (nwd R tp i) (lL U 2)))) (t + 18) i (jv (dCn R (nwd R tp i) (lL U 2)))) = μ3 at *
    have g3 : Fm (PTa t) μ μ3 := g2.tr f3 (fun k j z => (by omega : t ≤ k ∧ k < t + 19 ∧ ¬ (k = t ∧ j ≤ 1)))
    have hb3 := hb.fr g3 (fun q j x y z => by omega)
    have hm3 := hm.fr g3 (fun q j x y z => by omega)
    have hp3 := hp.kp g3 (fun q j x y z => by omega)
    have b3 : AC t μ3 U := b2.kp f3 (by omega) (fun c hc i y => by omega)
    have old3 : ∀ e, e < i → μ3.1 (t + 12) e = μ.1 (t + 12) e ∧ μ3.1 (t + 14) e = μ.1 (t + 14) e ∧ μ3.1 (t + 16) e = μ.1 (t + 16) e ∧ μ3.1 (t + 18) e = μ.1 (t + 18) e := by
      intro e he
      refine ⟨?_, ?_, ?_, ?_⟩
      · rw [f3.at _ _ (by omega), f2.at _ _ (by omega), o12 e he]
      · rw [f3.at _ _ (by omega), f2.at _ _ (by omega), hf1.at _ _ (by omega)]
      · rw [f3.at _ _ (by omega), f2.at _ _ (by omega), hf1.at _ _ (by omega)]
      · rw [f3.at _ _ (by omega), f2.at _ _ (by omega), hf1.at _ _ (by omega)]
    have w12 : μ3.1 (t + 12) i = jv (TB R tp N i).1 := by rw [f3.at _ _ (by omega), f2.at _ _ (by omega), v12]
    have hdc := dCn_b hw (e := lL U 2) (nw := nwd R tp i) il2 hnw.1
    have hcnt : μ3.1 (t + 7 + 1) (U.1 - 1) = jv (lL U 3) := b3.2 3 (by omega) (U.1 - 1) (by omega)
    have il3b : lL U 3 ≤ 8 := by have : lL U 4 = U.2 4 (U.1 - 1) := rfl; omega
    have no : ¬ (1 < lL U 3 ∧ dCn R (nwd R tp i) (lL U 2) < R 6) → TB R tp N (i + 1) = tFin (tDot R (nwd R tp i) U) := fun z => by rw [hS, if_neg z]
    have k1 : ¬ (1 < lL U 3 ∧ dCn R (nwd R tp i) (lL U 2) < R 6) → ∃ μ1, sh_X7_lay_185 n t kb m p (fun (x4 : Int32) (μ : Mm) => sh_X7_lay_77 n t kb m p f x4 μ) (jv i) μ3 = some μ1 ∧ Fm (PTa t) μ μ1 ∧ AC t μ1 (TB R tp N N) ∧ CE t μ1 R tp N N := by
      intro z
      have e := no z
      have e2 : lL (TB R tp N (i + 1)) 2 = lL U 2 := by rw [e]; rfl
      exact fin μ3 g3 (by rw [e]; exact b3.dot.fin) w12 (by rw [e2]; exact v16) (by rw [e2]; exact v18) old3
    rw [a5_in (by omega) (by omega), Option.bind_some, Int.toNat_natCast, v18, jv_lit (nat_lit 6), hb3.s6, Option.bind_some]
    by_cases z1 : R 6 ≤ dCn R (nwd R tp i) (lL U 2)
    · rw [if_pos (by rw [jv_le] <;> omega)]
      exact k1 (fun y => by omega)
    · rw [if_neg (by rw [jv_le] <;> omega), b3.1]
      simp only [jv_lit]
      rw [jv_sub, a5_in (by omega) (by omega), Option.bind_some, show ((U.1 : Int) - 1).toNat = U.1 - 1 by omega, hcnt]
      by_cases z2 : lL U 3 ≤ 1
      · rw [if_pos (by rw [jv_le] <;> omega)]
        exact k1 (fun y => by omega)
      · rw [if_neg (by rw [jv_le] <;> omega)]
        have e : TB R tp N (i + 1) = tFin (tDot R (nwd R tp i) (tOpen (tCut (tDot R (nwd R tp i) U) (lastW R i)) i (fsS R i + R 4) (wct R i - 1) (lastW R i))) := by rw [hS, if_pos (by omega)]
        obtain ⟨μ4, a4, b4, f4⟩ := bl8 (m := m) hw ho hkm hmt hs (T := tDot R (nwd R tp i) U) (by show 0 < U.1 ∧ U.1 < 192; omega) hb3 hm3 b3.dot
        have g4 : Fm (PTa t) μ μ4 := g3.tr f4 (fun k j z => (by omega : t ≤ k ∧ k < t + 19 ∧ ¬ (k = t ∧ j ≤ 1)))
        have hb4 := hb.fr g4 (fun q j x y z => by omega)
        have hp4 := hp.kp g4 (fun q j x y z => by omega)
        have lb := tokW_b hw hs ((wct R i).toNat - 1)
        have lb' : lastW R i = tokW R i ((wct R i).toNat - 1) := rfl
        have hf' := fsS_b hw hs
        have h4' := hw.2.2.2.2.2.1
        have eV : lL (tOpen (tCut (tDot R (nwd R tp i) U) (lastW R i)) i (fsS R i + R 4) (wct R i - 1) (lastW R i)) 2 = fsS R i + R 4 + lastW R i := by
          unfold lL
          rw [tOpen_1, tOpen_2, if_pos (by omega)]
          rfl
        have e1V : (tOpen (tCut (tDot R (nwd R tp i) U) (lastW R i)) i (fsS R i + R 4) (wct R i - 1) (lastW R i)).1 = U.1 + 1 := rfl
        have e2 : lL (TB R tp N (i + 1)) 2 = fsS R i + R 4 + lastW R i := by
          rw [e]
          exact eV
        generalize (tOpen (tCut (tDot R (nwd R tp i) U) (lastW R i)) i (fsS R i + R 4) (wct R i - 1) (lastW R i)) = V at *
        rw [a4, Option.bind_some, hnum μ4 hp4, Option.bind_some, ld8 hw ho hs (by omega) (by omega) (by omega) hb4 b4, Option.bind_some]
        have f5 : Fm (fun k j => (k = t + 16 ∨ k = t + 18) ∧ j = i) μ4 (sI (sI μ4 (t + 16) i (jv (dFi R (nwd R tp i) (lL V 2)))) (t + 18) i (jv (dCn R (nwd R tp i) (lL V 2)))) := (Fm.rf.sI ⟨Or.inl rfl, rfl⟩).sI ⟨Or.inr rfl, rfl⟩
        refine fin _ (g4.tr f5 (fun k j z => (by omega : t ≤ k ∧ k < t + 19 ∧ ¬ (k = t ∧ j ≤ 1)))) ?_ ?_ ?_ ?_ ?_
        · rw [e]
          have b5 : AC t (sI (sI μ4 (t + 16) i (jv (dFi R (nwd R tp i) (lL V 2)))) (t + 18) i (jv (dCn R (nwd R tp i) (lL V 2)))) V := b4.kp f5 (by omega) (fun c hc i y => by omega)
          exact b5.dot.fin
        · rw [f5.at _ _ (by omega), f4.at _ _ (by omega), w12]
        · rw [sI_1, if_neg (by omega), sI_1, if_pos ⟨rfl, rfl⟩, e2, eV]
        · rw [sI_1, if_pos ⟨rfl, rfl⟩, e2, eV]
        · intro e' he
          have hh := old3 e' he
          refine ⟨?_, ?_, ?_, ?_⟩
          · rw [f5.at _ _ (by omega), f4.at _ _ (by omega)]; exact hh.1
          · rw [f5.at _ _ (by omega), f4.at _ _ (by omega)]; exact hh.2.1
          · rw [f5.at _ _ (by omega), f4.at _ _ (by omega)]; exact hh.2.2.1
          · rw [f5.at _ _ (by omega), f4.at _ _ (by omega)]; exact hh.2.2.2
def CT (t : Nat) (μ : Mm) (R : Nat → Int) (tp : Int) (N : Nat) : Prop := okTb t ∧ AC t μ (TB R tp N N) ∧ CE t μ R tp N N ∧ μ.1 t 0 = jv (colF R tp N) ∧ μ.1 t 1 = jv (limT R tp N)
theorem CT.kp {μ μ' : Mm} {P : Nat → Nat → Prop} (h : CT t μ R tp N) (hf : Fm P μ μ') (hp : ∀ q j, t ≤ q → q < t + 19 → ¬ P q j) : CT t μ' R tp N := by
  obtain ⟨h1, h2, h3, h4, h5⟩ := h
  refine ⟨h1, h2.kp hf (hp _ _ (by omega) (by omega)) (fun c hc i => hp _ _ (by omega) (by omega)), fun e he => ⟨?_, ?_, ?_, ?_⟩, ?_, ?_⟩
  · rw [hf.2 _ _ (hp _ _ (by omega) (by omega))]; exact (h3 e he).1
  · rw [hf.2 _ _ (hp _ _ (by omega) (by omega))]; exact (h3 e he).2.1
  · rw [hf.2 _ _ (hp _ _ (by omega) (by omega))]; exact (h3 e he).2.2.1
  · rw [hf.2 _ _ (hp _ _ (by omega) (by omega))]; exact (h3 e he).2.2.2
  · rw [hf.2 _ _ (hp _ _ (by omega) (by omega))]; exact h4
  · rw [hf.2 _ _ (hp _ _ (by omega) (by omega))]; exact h5
abbrev PTb (t : Nat) : Nat → Nat → Prop := fun k _ => t ≤ k ∧ k < t + 19
theorem l8_8 (hn : 30 ≤ n) (hw : WB K R N fr) (hK : K ≤ 600) (h0 : 0 ≤ tp ∧ tp ≤ 100) (ho : okTb t) (hkm : kb + 12 < t) (hmt : m + 12 < t) (hpt : p + 8 < t) : ∀ (j f i : Nat) (μ : Mm), i + j = N → j < f → CB kb μ R N fr → ME m μ R N → PC p μ R tp N fr → μ.1 t 0 = jv (colF R tp i) → ∃ μ1, sh_X7_lay_8 n t kb m p f (jv i) μ = some μ1 ∧ Fm (PTb t) μ μ1 ∧ CT t μ1 R tp N := by
  have h1 := hw.1
  have h5 := hw.2.2.2.2.2.2.1
  have hR := hw.2.1
  have hlc := (limT_b hw hK h0).1
  intro j
  induction j with
  | zero =>
    intro f i μ hj hf hb hm hp hl
    obtain ⟨f, rfl⟩ : ∃ g, f = g + 1 := ⟨f - 1, by omega⟩
    have ei : i = N := by omega
    subst ei
    rw [sh_X7_lay_8, hb.2.2.1.2.1, if_pos (by rw [jv_le] <;> omega)]
    simp only [jv_lit]
    rw [hb.s0, Option.bind_some, hb.s5, Option.bind_some, hl, jv_sub, jv_sub, pt_eq, Option.bind_some, pt_eq, Option.bind_some]
    have hf2 : Fm (PTb t) μ (sI (sI μ t 1 (jv (R 0 - colF R tp i - R 5))) t 2 (jv 0)) := (Fm.rf.sI (by omega)).sI (by omega)
    obtain ⟨μ1, a, b, c, d⟩ := l77 (n := n) hn hw hK h0 ho hkm hmt hpt i n 0 (sI (sI μ t 1 (jv (R 0 - colF R tp i - R 5))) t 2 (jv 0)) (by omega) (by omega) (hb.fr hf2 (fun q j x y z => by omega)) (hm.fr hf2 (fun q j x y z => by omega)) (hp.kp hf2 (fun q j x y z => by omega)) (by rw [sI_1, if_neg (by omega), sI_1, if_pos ⟨rfl, rfl⟩]; rfl) ⟨by rw [sI_1, if_pos ⟨rfl, rfl⟩]; rfl, fun c hc i hi => absurd hi (by show ¬ i < 0; omega)⟩ (fun e he => absurd he (by omega))
    refine ⟨μ1, a, hf2.tr b (fun k j z => (by omega : t ≤ k ∧ k < t + 19)), ho, c, d, ?_, ?_⟩
    · rw [b.at _ _ (by omega), sI_1, if_neg (by omega), sI_1, if_neg (by omega)]
      exact hl
    · rw [b.at _ _ (by omega), sI_1, if_neg (by omega), sI_1, if_pos ⟨rfl, rfl⟩]
      rfl
  | succ j ih =>
    intro f i μ hj hf hb hm hp hl
    obtain ⟨f, rfl⟩ : ∃ g, f = g + 1 := ⟨f - 1, by omega⟩
    have hs : i < N := by omega
    have hnw := nwd_b hw hK hs h0.1 h0.2
    have hci := hlc i (by omega)
    have lp7 : ln (p + 7 + 1) = 24 := hp.1.2.2.2
    rw [sh_X7_lay_8, hb.2.2.1.2.1, if_neg (by rw [jv_le] <;> omega), a5_in (by omega) (by omega), Option.bind_some, Int.toNat_natCast, show p + 7 + 1 = p + 8 from rfl, (hp.2.1 i hs).2.2.2, hl, pt_eq, Option.bind_some, jv_lit (nat_lit 1), jv_add, show (i : Int) + 1 = ((i + 1 : Nat) : Int) by omega]
    have ec : (if jv (colF R tp i) < jv (nwd R tp i) then jv (nwd R tp i) else jv (colF R tp i)) = jv (colF R tp (i + 1)) := by
      rw [colF]
      by_cases z : colF R tp i < nwd R tp i
      · rw [if_pos (by rw [jv_lt] <;> omega), if_pos z]
      · rw [if_neg (by rw [jv_lt] <;> omega), if_neg z]
    rw [ec]
    have hf2 : Fm (PTb t) μ (sI μ t 0 (jv (colF R tp (i + 1)))) := Fm.rf.sI (by omega)
    obtain ⟨μ1, a, b, c⟩ := ih f (i + 1) _ (by omega) (by omega) (hb.fr hf2 (fun q j x y z => by omega)) (hm.fr hf2 (fun q j x y z => by omega)) (hp.kp hf2 (fun q j x y z => by omega)) (by rw [sI_1, if_pos ⟨rfl, rfl⟩])
    exact ⟨μ1, a, hf2.tr b (fun _ _ z => z), c⟩
theorem lyT {μ : Mm} (hn : 30 ≤ n) (hw : WB K R N fr) (hK : K ≤ 600) (h0 : 0 ≤ tp ∧ tp ≤ 100) (ho : okTb t) (hkm : kb + 12 < t) (hmt : m + 12 < t) (hpt : p + 8 < t) (hb : CB kb μ R N fr) (hm : ME m μ R N) (hp : PC p μ R tp N fr) : ∃ μ1, sh_X7_lay n t kb m p μ = some μ1 ∧ Fm (PTb t) μ μ1 ∧ CT t μ1 R tp N := by
  have h1 := hw.1
  unfold sh_X7_lay
  simp only [jv_lit]
  rw [pt_eq, Option.bind_some]
  have hf2 : Fm (PTb t) μ (sI μ t 0 (jv 0)) := Fm.rf.sI (by omega)
  obtain ⟨μ1, a, b, c⟩ := l8_8 (n := n) hn hw hK h0 ho hkm hmt hpt N n 0 _ (by omega) (by omega) (hb.fr hf2 (fun q j x y z => by omega)) (hm.fr hf2 (fun q j x y z => by omega)) (hp.kp hf2 (fun q j x y z => by omega)) (by rw [sI_1, if_pos ⟨rfl, rfl⟩]; rfl)
  exact ⟨μ1, a, hf2.tr b (fun _ _ z => z), c⟩
end TBD
