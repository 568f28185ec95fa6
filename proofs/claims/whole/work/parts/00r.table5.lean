/-! THE TABLE of the model, whole -/
section TBN
variable {n q : Nat} {R : Nat → Int} {K : Int} {N fr : Nat} {tp : Int}
theorem AM.kq {μ μ' : Mm} {T : Tb} (h : AM μ T) {P : Nat → Nat → Prop} (hf : Fm P μ μ') (h1 : ¬ P 306 36) (h2 : ∀ k j, 316 ≤ k → k ≤ 323 → ¬ P k j) : AM μ' T := AT.kp h hf h1 (fun c hc i => h2 _ _ (mp_r c hc).1 (mp_r c hc).2)
/-- what the entries stand on -/
def MS (q : Nat) (μ : Mm) (R : Nat → Int) (tp : Int) (N : Nat) : Prop := MB q μ R ∧ LM μ R N ∧ (∀ s, s < N → μ.1 314 s = jv (pgs R tp s)) ∧ μ.1 306 38 = jv (limT R tp N)
theorem MS.kp {μ μ' : Mm} {P : Nat → Nat → Prop} (h : MS q μ R tp N) (hf : Fm P μ μ') (hp : ∀ k j, P k j → k = 306 ∧ j ≠ 38 ∨ k = 310 ∨ k = 313 ∨ 315 ≤ k ∧ k ≤ 330) : MS q μ' R tp N := by
  obtain ⟨h1, h2, h3, h4⟩ := h
  refine ⟨h1.fr hf (fun i _ y => ?_), h2.kp hf (fun j => ⟨fun y => ?_, fun y => ?_⟩), fun s hs => ?_, ?_⟩
  · have := hp _ _ y
    rcases h1.1 with rfl | rfl <;> omega
  · have := hp _ _ y
    omega
  · have := hp _ _ y
    omega
  · rw [hf.2 _ _ (fun y => by have := hp _ _ y; omega)]
    exact h3 s hs
  · rw [hf.2 _ _ (fun y => by have := hp _ _ y; omega)]
    exact h4
theorem le41 (hn : 16001 ≤ n) (hw : WB K R N fr) (hK : K ≤ 600) (h0 : 0 ≤ tp ∧ tp ≤ 100) {s : Nat} (hs : s < N) (T0 : Tb) (hT0 : T0.1 + 8 ≤ 200) : ∀ (r f k : Nat) (μ : Mm), 1 ≤ k → (k : Int) + r = wct R s → r < f → MS q μ R tp N → AM μ (tTok R (limT R tp N) s T0 k) → ∃ μ1, sh_X12_layEntry_41 n (jv s) f (jv (fsS R s)) (jv k) μ = some μ1 ∧ AM μ1 (tEnt R (limT R tp N) (nwd R tp s) s T0) ∧ Fm PMT μ μ1 := by
  have h1 := hw.1
  have hwc := (hw.sec hs).2.2.2.1
  have hlim := (limT_b hw hK h0).2
  have hf' := fsS_b hw hs
  have h4 := hw.2.2.2.2.2.1
  have h6 := hw.2.2.2.2.2.2.2.1
  have l3 : ln 319 = 240 := rfl
  have l4 : ln 320 = 240 := rfl
  have l5 : ln 321 = 240 := rfl
  have l6 : ln 322 = 240 := rfl
  have l7 : ln 323 = 240 := rfl
  have hnw := nwd_b hw hK hs h0.1 h0.2
  have pm : ∀ k j, PMT k j → k = 306 ∧ j ≠ 38 ∨ k = 310 ∨ k = 313 ∨ 315 ≤ k ∧ k ≤ 330 := fun k j y => by omega
  have pm2 : ∀ k j, PM2 k j → PMT k j := fun k j y => by omega
  intro r
  induction r with
  | zero =>
    intro f k μ hk1 hk hf hS ha
    obtain ⟨f, rfl⟩ : ∃ g, f = g + 1 := ⟨f - 1, by omega⟩
    obtain ⟨g, rfl⟩ : ∃ g, k = g + 1 := ⟨k - 1, by omega⟩
    have hTI := TI.tok hw hlim.2 hs T0 g
    have hU0 : tTok R (limT R tp N) s T0 (g + 1) = tTok R (limT R tp N) s T0 (wct R s).toNat := by rw [show (wct R s).toNat = g + 1 by omega]
    unfold tEnt
    rw [← hU0]
    generalize tTok R (limT R tp N) s T0 (g + 1) = U at *
    obtain ⟨i1, i2, i3, i4, i5⟩ := hTI
    have il := i4 (U.1 - 1) (by omega) (by omega)
    have il0 : lL U 0 = s := il.1
    have il2 : 0 ≤ lL U 2 ∧ lL U 2 ≤ 120 := il.2.2.1
    have il3 : 1 ≤ lL U 3 := il.2.2.2.1
    have il4 : 0 ≤ lL U 4 := il.2.2.2.2.1
    have hUn : 0 < U.1 ∧ (U.1 : Int) + lL U 3 ≤ 201 := by omega
    have ei : ((U.1 : Int) - 1).toNat = U.1 - 1 := by omega
    have hdc := dCn_b hw (e := lL U 2) (nw := nwd R tp s) il2 hnw.1
    have e257 : ∀ (μ3 : Mm) (V : Tb), 0 < V.1 → V.1 ≤ 240 → AM μ3 V → Fm PMT μ μ3 → ∃ μ1, sh_X12_layEntry_257 n (jv s) μ3 = some μ1 ∧ AM μ1 (tFin V) ∧ Fm PMT μ μ1 := by
      intro μ3 V hV hV2 h3 hf3
      unfold sh_X12_layEntry_257
      simp only [jv_lit]
      rw [h3.1, jv_sub, nbz1, st_jv (by omega) (by omega), Option.bind_some, show ((V.1 : Int) - 1).toNat = V.1 - 1 by omega]
      exact ⟨_, rfl, AM.set h3 (c := 5) (by omega) (V.1 - 1) 1, hf3.sI (by omega)⟩
    rw [sh_X12_layEntry_41]
    simp only [jv_lit]
    rw [hS.1.oW (by omega), Option.bind_some, if_pos (by rw [jv_le] <;> omega)]
    simp only [nm_eq]
    rw [ha.1, jv_sub]
    obtain ⟨μ1, a1, b1, f1⟩ := ldM (n := n) hn hw hK h0 hs (T := U) (by omega) il2 il0 hS.1 (hS.2.2.1 s hs) ha
    have hS1 := hS.kp f1 pm
    have v3 : μ1.1 319 (U.1 - 1) = jv (lL U 3) := b1.2 3 (by omega) (U.1 - 1) (by show U.1 - 1 < U.1; omega)
    have v6 : μ1.1 322 (U.1 - 1) = jv (dCn R (nwd R tp s) (lL U 2)) := by
      have := b1.2 6 (by omega) (U.1 - 1) (by show U.1 - 1 < U.1; omega)
      refine this.trans ?_
      show jv (if 6 = 7 ∧ U.1 - 1 = U.1 - 1 then dFi R (nwd R tp s) (lL U 2) else if 6 = 6 ∧ U.1 - 1 = U.1 - 1 then dCn R (nwd R tp s) (lL U 2) else U.2 6 (U.1 - 1)) = _
      rw [if_neg (by omega), if_pos ⟨rfl, rfl⟩]
    rw [a1, Option.bind_some, ld_jv (by omega) (by omega), Option.bind_some, ei, v3]
    by_cases z1 : lL U 3 ≤ 1
    · rw [if_pos (by rw [jv_le] <;> omega), if_neg (fun y => by omega)]
      exact e257 μ1 _ (by show 0 < U.1; omega) (by show U.1 ≤ 240; omega) b1 f1
    · rw [if_neg (by rw [jv_le] <;> omega), ld_jv (by omega) (by omega), Option.bind_some, ei, v6, hS1.1.r6, Option.bind_some]
      by_cases z2 : R 6 ≤ dCn R (nwd R tp s) (lL U 2)
      · rw [if_pos (by rw [jv_le] <;> omega), if_neg (fun y => by omega)]
        exact e257 μ1 _ (by show 0 < U.1; omega) (by show U.1 ≤ 240; omega) b1 f1
      · rw [if_neg (by rw [jv_le] <;> omega), if_pos (by omega), hS1.1.oW (by omega), Option.bind_some, jv_sub]
        obtain ⟨μ2, a2, f2⟩ := twkM (n := n) hn hw hs (w := (wct R s).toNat - 1) (by omega) hS1.1 hS1.2.1
        rw [show wct R s - 1 = (((wct R s).toNat - 1 : Nat) : Int) by omega, a2, Option.bind_some]
        simp only []
        have f2' : Fm PMT μ μ2 := f1.tr f2 pm2
        have b2 : AM μ2 (tDot R (nwd R tp s) U) := b1.kq f2 (by omega) (fun k j x y z => by omega)
        have lb : tokW R s ((wct R s).toNat - 1) = lastW R s := rfl
        have lbb := tokW_b hw hs ((wct R s).toNat - 1)
        have w3 : μ2.1 319 (U.1 - 1) = jv (lL U 3) := b2.2 3 (by omega) (U.1 - 1) (by show U.1 - 1 < U.1; omega)
        have w2 : μ2.1 320 (U.1 - 1) = jv (lL U 2) := b2.2 2 (by omega) (U.1 - 1) (by show U.1 - 1 < U.1; omega)
        rw [lb, ld_jv (by omega) (by omega), Option.bind_some, ei, w3, jv_sub, st_jv (by omega) (by omega), Option.bind_some, ei, ld_jv (by omega) (by omega), Option.bind_some, ei, sI_1, if_neg (by omega), w2, jv_add, jv_sub, st_jv (by omega) (by omega), Option.bind_some, ei, st_jv (by omega) (by omega), Option.bind_some, ei, jv_neg, st_jv (by omega) (by omega), Option.bind_some, ei]
        have c3 := AM.set (AM.set (AM.set (AM.set b2 (c := 3) (by omega) (U.1 - 1) (lL U 3 - 1)) (c := 2) (by omega) (U.1 - 1) (lL U 2 - (1 + lastW R s))) (c := 6) (by omega) (U.1 - 1) 0) (c := 7) (by omega) (U.1 - 1) (-1)
        have fc : Fm PMT μ (sI (sI (sI (sI μ2 319 (U.1 - 1) (jv (lL U 3 - 1))) 320 (U.1 - 1) (jv (lL U 2 - (1 + lastW R s)))) 322 (U.1 - 1) (jv 0)) 323 (U.1 - 1) (jv (-1))) := (((f2'.sI (by omega)).sI (by omega)).sI (by omega)).sI (by omega)
        have c3' : AM (sI (sI (sI (sI μ2 319 (U.1 - 1) (jv (lL U 3 - 1))) 320 (U.1 - 1) (jv (lL U 2 - (1 + lastW R s)))) 322 (U.1 - 1) (jv 0)) 323 (U.1 - 1) (jv (-1))) (tCut (tDot R (nwd R tp s) U) (lastW R s)) := c3
        generalize (sI (sI (sI (sI μ2 319 (U.1 - 1) (jv (lL U 3 - 1))) 320 (U.1 - 1) (jv (lL U 2 - (1 + lastW R s)))) 322 (U.1 - 1) (jv 0)) 323 (U.1 - 1) (jv (-1))) = μ3 at *
        have hS3 := hS.kp fc pm
        rw [hS3.1.r4, Option.bind_some, jv_add]
        obtain ⟨μ4, a4, b4, f4⟩ := AM.opn c3' (by show U.1 < 240; omega) s (fsS R s + R 4) (wct R s - 1) (lastW R s)
        rw [show (((wct R s).toNat - 1 : Nat) : Int) = wct R s - 1 by omega, a4, Option.bind_some]
        have f4' : Fm PMT μ μ4 := fc.tr f4 (fun k j y => by omega)
        have hS4 := hS.kp f4' pm
        have eV : ∀ c, lL (tOpen (tCut (tDot R (nwd R tp s) U) (lastW R s)) s (fsS R s + R 4) (wct R s - 1) (lastW R s)) c = tRow s (fsS R s + R 4) (fsS R s + R 4 + lastW R s) (wct R s - 1) c := fun c => by
          unfold lL
          rw [tOpen_1, tOpen_2, if_pos (by omega)]
        have e1V : (tOpen (tCut (tDot R (nwd R tp s) U) (lastW R s)) s (fsS R s + R 4) (wct R s - 1) (lastW R s)).1 = U.1 + 1 := rfl
        generalize (tOpen (tCut (tDot R (nwd R tp s) U) (lastW R s)) s (fsS R s + R 4) (wct R s - 1) (lastW R s)) = V at *
        have eV0 : lL V 0 = s := eV 0
        have eV2 : lL V 2 = fsS R s + R 4 + lastW R s := eV 2
        rw [b4.1, jv_sub]
        obtain ⟨μ5, a5, b5, f5⟩ := ldM (n := n) hn hw hK h0 hs (T := V) (by omega) (by omega) eV0 hS4.1 (hS4.2.2.1 s hs) b4
        rw [a5, Option.bind_some]
        exact e257 μ5 _ (by show 0 < V.1; omega) (by show V.1 ≤ 240; omega) b5 (f4'.tr f5 (fun _ _ y => y))
  | succ r ih =>
    intro f k μ hk1 hk hf hS ha
    obtain ⟨f, rfl⟩ : ∃ g, f = g + 1 := ⟨f - 1, by omega⟩
    obtain ⟨g, rfl⟩ : ∃ g, k = g + 1 := ⟨k - 1, by omega⟩
    have hTI := TI.tok hw hlim.2 hs T0 g
    have hwb := tokW_b hw hs (g + 1)
    have hst : tTok R (limT R tp N) s T0 (g + 1 + 1) = if lL (tTok R (limT R tp N) s T0 (g + 1)) 2 + 1 + tokW R s (g + 1) ≤ limT R tp N then tAdd (tTok R (limT R tp N) s T0 (g + 1)) (tokW R s (g + 1)) else tOpen (tTok R (limT R tp N) s T0 (g + 1)) s (fsS R s + R 4) ((g + 1 : Nat) : Int) (tokW R s (g + 1)) := by
      rw [tTok, if_neg (by omega)]
    generalize hT : tTok R (limT R tp N) s T0 (g + 1) = T at *
    obtain ⟨i1, i2, i3, i4, i5⟩ := hTI
    have il := i4 (T.1 - 1) (by omega) (by omega)
    have il2 : 0 ≤ lL T 2 ∧ lL T 2 ≤ 120 := il.2.2.1
    have il3 : 1 ≤ lL T 3 := il.2.2.2.1
    have il4 : 0 ≤ lL T 4 := il.2.2.2.2.1
    have ei : ((T.1 : Int) - 1).toNat = T.1 - 1 := by omega
    obtain ⟨μ1, a1, f1⟩ := twkM (n := n) hn hw hs (w := g + 1) (by omega) hS.1 hS.2.1
    have f1' : Fm PMT μ μ1 := f1.mono pm2
    have hS1 := hS.kp f1' pm
    have b1 : AM μ1 T := ha.kq f1 (by omega) (fun k j x y z => by omega)
    have w3 : μ1.1 319 (T.1 - 1) = jv (lL T 3) := b1.2 3 (by omega) (T.1 - 1) (by omega)
    have w2 : μ1.1 320 (T.1 - 1) = jv (lL T 2) := b1.2 2 (by omega) (T.1 - 1) (by omega)
    have go : ∀ (μ2 : Mm), AM μ2 (tTok R (limT R tp N) s T0 (g + 1 + 1)) → Fm PMT μ μ2 → ∃ μ3, sh_X12_layEntry_41 n (jv s) f (jv (fsS R s)) (jv (((g + 1 : Nat) : Int) + 1)) μ2 = some μ3 ∧ AM μ3 (tEnt R (limT R tp N) (nwd R tp s) s T0) ∧ Fm PMT μ μ3 := by
      intro μ2 b2 f2
      obtain ⟨μ3, a, b, c⟩ := ih f (g + 1 + 1) μ2 (by omega) (by omega) (by omega) (hS.kp f2 pm) b2
      rw [show ((g + 1 : Nat) : Int) + 1 = ((g + 1 + 1 : Nat) : Int) by omega]
      exact ⟨μ3, a, b, f2.tr c (fun _ _ y => y)⟩
    rw [sh_X12_layEntry_41]
    simp only [jv_lit, jv_add]
    rw [hS.1.oW (by omega), Option.bind_some, if_neg (by rw [jv_le] <;> omega), a1, Option.bind_some]
    simp only [nm_eq]
    rw [b1.1, jv_sub, ld_jv (by omega) (by omega), Option.bind_some, ei, w2, hS1.2.2.2]
    simp only [jv_add]
    by_cases z : lL T 2 + 1 + tokW R s (g + 1) ≤ limT R tp N
    · rw [if_pos z] at hst
      rw [if_neg (by rw [jv_lt] <;> omega), ld_jv (by omega) (by omega), Option.bind_some, ei, w3, jv_add, st_jv (by omega) (by omega), Option.bind_some, ei, ld_jv (by omega) (by omega), Option.bind_some, ei, sI_1, if_neg (by omega), w2, jv_add, st_jv (by omega) (by omega), Option.bind_some, ei]
      refine go _ ?_ ((f1'.sI (by omega)).sI (by omega))
      rw [hst]
      have c2 := AM.set (AM.set b1 (c := 3) (by omega) (T.1 - 1) (lL T 3 + 1)) (c := 2) (by omega) (T.1 - 1) (lL T 2 + 1 + tokW R s (g + 1))
      rw [show lL T 2 + (1 + tokW R s (g + 1)) = lL T 2 + 1 + tokW R s (g + 1) by omega]
      exact c2
    · rw [if_neg z] at hst
      obtain ⟨μ2, a2, b2, f2⟩ := AM.opn b1 (by omega) s (fsS R s + R 4) ((g + 1 : Nat) : Int) (tokW R s (g + 1))
      rw [if_pos (by rw [jv_lt] <;> omega), hS1.1.r4, Option.bind_some, jv_add, a2, Option.bind_some]
      refine go μ2 ?_ (f1'.tr f2 (fun k j y => by omega))
      rw [hst]
      exact b2
end TBN
