/-! COLLISIONS, both sides -/
abbrev PFG : Nat → Nat → Prop := fun k j => k = 306 ∧ j = 17 ∨ k = 310 ∨ k = 325 ∨ k = 326
abbrev clP (R : Nat → Int) (N i : Nat) : Prop := i + 1 < (TB R (tpF R N) N N).1 ∧ (i : Int) / R 1 = ((i + 1 : Nat) : Int) / R 1 ∧ (TB R (tpF R N) N N).2 5 i = 1 ∧ (TB R (tpF R N) N N).2 5 (i + 1) = 1 ∧ prt R ((TB R (tpF R N) N N).2 0 i).toNat = 1 ∧ prt R ((TB R (tpF R N) N N).2 0 (i + 1)).toNat = 1
def clI (R : Nat → Int) (N i : Nat) : Int := if clP R N i then anyb (ub 0 (rdg 4 (pgs R (tpF R N) ((TB R (tpF R N) N N).2 0 i).toNat))) (ub 1 (rdg 4 (pgs R (tpF R N) ((TB R (tpF R N) N N).2 0 (i + 1)).toNat))) 32 0 else 0
section CL2
variable {n : Nat} {R : Nat → Int} {N fr : Nat}
theorem uC {v a : Int} (hn : 30 ≤ n) (h0 : 0 < v) (h9 : v < 10000) (ha : a = 0 ∨ a = 1) {μ : Mm} : sh_X1_unitsOf n (jv v) (jv a) μ = some (nI (bv (ub a (rdg 4 v)))) := by
  have := uoC (n := n) a ha (v0 := jv v) (μ := μ) 4 n 0 0 v (by decide) (by omega) ⟨by omega, by simp; omega⟩ (by omega)
  unfold sh_X1_unitsOf
  rw [show (0 : Int32) = nI 0 from rfl, this]
  congr 2
  omega
theorem emC {μ : Mm} (hw : WB 500 R N fr) (hb : CB 11 μ R N fr) (hL : LY 38 μ R N fr) {i e : Nat} (hE : LF R (tpF R N) N i e) : sh_X1_endsMainEntry 38 11 (jv i) μ = some (jv (if (TB R (tpF R N) N N).2 5 i = 1 ∧ prt R e = 1 then 1 else 0)) := by
  have h5 := hE.2.2.2.2.2.2.1
  unfold sh_X1_endsMainEntry
  rw [hL.last hw (by omega) hE, Option.bind_some, ← h5]
  simp only [jv_lit]
  by_cases z : (TB R (tpF R N) N N).2 5 i = 1
  · rw [z, if_neg (show ¬ jv 1 = jv 0 by decide), hL.col hw (by omega) (c := 0) (by omega) hE.1.2.2.2 rfl, Option.bind_some, hE.2.1, hb.po hw hE.1.1, Option.bind_some]
    by_cases y : prt R e = 1
    · rw [y, if_pos rfl, if_pos ⟨rfl, rfl⟩]
    · have : prt R e = 0 := by rcases hw.pb hE.1.1 with h | h <;> omega
      rw [this, if_neg (show ¬ jv 0 = jv 1 by decide), if_neg (by omega)]
  · have h50 : (TB R (tpF R N) N N).2 5 i = 0 := by
      rw [h5] at z ⊢
      split at z
      · omega
      · rw [if_neg (by assumption)]
    rw [h50, if_pos rfl, if_neg (by omega)]
theorem pgE (hw : WB 500 R N fr) {e : Nat} (he : e < N) : 0 < pgs R (tpF R N) e ∧ pgs R (tpF R N) e < 10000 := by
  have h0 := tpF_b hw (by omega)
  have := pgs_b hw (by omega) he h0.1 h0.2
  omega
theorem ub_ok (a v : Int) : (∀ y ∈ ub a (rdg 4 v), y ≤ 1) := ub_1 a _
theorem rdg_len : ∀ (k : Nat) (v : Int), (rdg k v).length ≤ k := by
  intro k
  induction k with
  | zero => intro v; exact Nat.le_refl _
  | succ k ih =>
    intro v
    rw [rdg]
    split
    · exact Nat.zero_le _
    · rw [List.length_cons]
      have := ih (v / 10)
      omega
theorem toC {μ : Mm} (hn : 30 ≤ n) (hq : QS μ R N fr) {i : Nat} (hi : i < (TB R (tpF R N) N N).1) : sh_X1_touchesNext n 38 11 (jv i) μ = some (jv (clI R N i)) := by
  obtain ⟨hw, hb, hL, hm⟩ := hq
  have h0 := tpF_b hw (by omega)
  have hT := TB_n hw (by omega) h0 N (Nat.le_refl _)
  have hN := hw.1
  have hR := hw.2.2.1
  have eT : μ.1 (38 + 23) 2 = jv (TB R (tpF R N) N N).1 := hL.2.2.2.1.2.1.1
  unfold sh_X1_touchesNext
  simp only [nm_eq, jv_lit]
  rw [hb.s1, Option.bind_some, jv_add, show (i : Int) + 1 = ((i + 1 : Nat) : Int) by omega, eT]
  have no : ¬ clP R N i → (jv 0 : Int32) = jv (clI R N i) := fun q => by unfold clI; rw [if_neg q]
  by_cases z1 : i + 1 < (TB R (tpF R N) N N).1
  · rw [if_neg (by rw [jv_le] <;> omega), qu_in (by omega) (by omega) (by omega) (by omega), Option.bind_some, qu_in (by omega) (by omega) (by omega) (by omega), Option.bind_some]
    have d1 : (i : Int) / R 1 ≤ i := Int.ediv_le_self _ (by omega)
    have d2 : 0 ≤ (i : Int) / R 1 := Int.ediv_nonneg (by omega) (by omega)
    have d3 : ((i + 1 : Nat) : Int) / R 1 ≤ ((i + 1 : Nat) : Int) := Int.ediv_le_self _ (by omega)
    have d4 : 0 ≤ ((i + 1 : Nat) : Int) / R 1 := Int.ediv_nonneg (by omega) (by omega)
    obtain ⟨e, hE⟩ := LF.ex hw (by omega) h0 hi
    obtain ⟨e', hE'⟩ := LF.ex hw (by omega) h0 z1
    by_cases z2 : (i : Int) / R 1 = ((i + 1 : Nat) : Int) / R 1
    · rw [if_pos (by rw [z2]), emC hw hb hL hE, Option.bind_some]
      by_cases z3 : (TB R (tpF R N) N N).2 5 i = 1 ∧ prt R e = 1
      · rw [if_pos z3, if_neg (show ¬ jv 1 = jv 0 by decide), emC hw hb hL hE', Option.bind_some]
        by_cases z4 : (TB R (tpF R N) N N).2 5 (i + 1) = 1 ∧ prt R e' = 1
        · have p1 := pgE hw hE.1.1
          have p2 := pgE hw hE'.1.1
          rw [if_pos z4, if_neg (show ¬ jv 1 = jv 0 by decide), hL.col hw (by omega) (c := 0) (by omega) hi rfl, Option.bind_some, hE.2.1, hL.pg hw hE.1.1, Option.bind_some, hL.col hw (by omega) (c := 0) (by omega) z1 rfl, Option.bind_some, hE'.2.1, hL.pg hw hE'.1.1, Option.bind_some, uC hn p1.1 p1.2 (Or.inl rfl), Option.bind_some, uC hn p2.1 p2.2 (Or.inr rfl), Option.bind_some]
          have hl : (ub 0 (rdg 4 (pgs R (tpF R N) e))).length ≤ 8 := by
            have a1 := ub_len 0 (rdg 4 (pgs R (tpF R N) e)) (rdg_d 4 _)
            have a2 := rdg_len 4 (pgs R (tpF R N) e)
            omega
          have hand := and_any (ub_ok 0 (pgs R (tpF R N) e)) (ub_ok 1 (pgs R (tpF R N) e')) hl
          rw [jv_lit (nat_lit 0)] at hand
          have hcl : clI R N i = anyb (ub 0 (rdg 4 (pgs R (tpF R N) e))) (ub 1 (rdg 4 (pgs R (tpF R N) e'))) 32 0 := by
            unfold clI
            rw [if_pos (⟨z1, z2, z3.1, z4.1, by rw [hE.2.1]; exact z3.2, by rw [hE'.2.1]; exact z4.2⟩ : clP R N i), hE.2.1, hE'.2.1, Int.toNat_natCast, Int.toNat_natCast]
          rw [hcl]
          rcases anyb_1 (ub 0 (rdg 4 (pgs R (tpF R N) e))) (ub 1 (rdg 4 (pgs R (tpF R N) e'))) 32 0 with ⟨h, _⟩ | ⟨h, _⟩
          · rw [if_pos (hand.mpr h), h]
          · rw [if_neg (fun q => by have := hand.mp q; omega), h]
        · rw [if_neg z4, if_pos (show jv 0 = jv 0 from rfl)]
          exact congrArg some (no (fun q => z4 ⟨q.2.2.2.1, by have := q.2.2.2.2.2; rw [hE'.2.1] at this; exact this⟩))
      · rw [if_neg z3, if_pos (show jv 0 = jv 0 from rfl)]
        exact congrArg some (no (fun q => z3 ⟨q.2.2.1, by have := q.2.2.2.2.1; rw [hE.2.1] at this; exact this⟩))
    · rw [if_neg (by rw [jv_eq] <;> omega)]
      exact congrArg some (no (fun q => z2 q.2.1))
  · rw [if_pos (by rw [jv_le] <;> omega)]
    exact congrArg some (no (fun q => z1 q.1))
theorem coM {μ : Mm} (hn : 40 ≤ n) (hw : WB 500 R N fr) (hm : MB 307 μ R) (hy : MY μ R N fr) {i : Nat} (hi : i < (TB R (tpF R N) N N).1) : ∃ μ1, sh_X12_collide n (jv i) μ = some (jv (clI R N i), μ1) ∧ Fm PFG μ μ1 := by
  have h0 := tpF_b hw (by omega)
  have hT := TB_n hw (by omega) h0 N (Nat.le_refl _)
  have hN := hw.1
  have hR := hw.2.2.1
  have eT : μ.1 306 36 = jv (TB R (tpF R N) N N).1 := hy.2.1.2.1.1
  unfold sh_X12_collide
  simp only [jv_lit]
  rw [jv_add, show (i : Int) + 1 = ((i + 1 : Nat) : Int) by omega, eT]
  have no : ¬ clP R N i → ∃ μ1, some ((jv 0 : Int32), μ) = some (jv (clI R N i), μ1) ∧ Fm PFG μ μ1 := fun q => ⟨μ, by unfold clI; rw [if_neg q], Fm.rf⟩
  by_cases z1 : i + 1 < (TB R (tpF R N) N N).1
  · rw [if_neg (by rw [jv_le] <;> omega), mbl1 hm, Option.bind_some, dv_jv (by omega) (by omega) (by omega) (by omega), Option.bind_some, Option.bind_some, dv_jv (by omega) (by omega) (by omega) (by omega), Option.bind_some]
    have d1 : (i : Int) / R 1 ≤ i := Int.ediv_le_self _ (by omega)
    have d2 : 0 ≤ (i : Int) / R 1 := Int.ediv_nonneg (by omega) (by omega)
    have d3 : ((i + 1 : Nat) : Int) / R 1 ≤ ((i + 1 : Nat) : Int) := Int.ediv_le_self _ (by omega)
    have d4 : 0 ≤ ((i + 1 : Nat) : Int) / R 1 := Int.ediv_nonneg (by omega) (by omega)
    obtain ⟨e, hE⟩ := LF.ex hw (by omega) h0 hi
    obtain ⟨e', hE'⟩ := LF.ex hw (by omega) h0 z1
    have b5 : ∀ (j g : Nat), LF R (tpF R N) N j g → (TB R (tpF R N) N N).2 5 j = 0 ∨ (TB R (tpF R N) N N).2 5 j = 1 := fun j g h => by
      rw [h.2.2.2.2.2.2.1]
      split
      · exact Or.inr rfl
      · exact Or.inl rfl
    have b5a := b5 i e hE
    have b5b := b5 (i + 1) e' hE'
    have he24 := hE.1.1
    have he24' := hE'.1.1
    by_cases z2 : (i : Int) / R 1 = ((i + 1 : Nat) : Int) / R 1
    · rw [if_pos (by rw [z2]), hy.2.1.c5 hw (by omega) h0 hi, Option.bind_some]
      by_cases z3 : (TB R (tpF R N) N N).2 5 i = 1
      · rw [z3, if_neg (show ¬ jv 1 = jv 0 by decide), hy.2.1.c5 hw (by omega) h0 z1, Option.bind_some]
        by_cases z4 : (TB R (tpF R N) N N).2 5 (i + 1) = 1
        · rw [z4, if_neg (show ¬ jv 1 = jv 0 by decide), hy.2.1.c0 hw (by omega) h0 hi, Option.bind_some, hy.2.1.c0 hw (by omega) h0 z1, Option.bind_some, hE.2.1, hE'.2.1, hm.oP (by omega), Option.bind_some]
          by_cases z5 : prt R e = 1
          · rw [z5, if_neg (show ¬ jv 1 = jv 0 by decide), hm.oP (by omega), Option.bind_some]
            by_cases z6 : prt R e' = 1
            · rw [z6, if_neg (show ¬ jv 1 = jv 0 by decide)]
              have p1 := pgE hw hE.1.1
              have p2 := pgE hw hE'.1.1
              have lg3 : ∀ (q s : Nat) (a v : Int) (μ0 : Mm), (q = 325 ∨ q = 326) → s < 24 → (a = 0 ∨ a = 1) → 0 < v → v < 10000 → μ0.1 314 s = jv v → ∃ μ1, sh_X12_layFigures n (jv s) q (jv a) μ0 = some μ1 ∧ Rw q μ1 (ub a (rdg 4 v)) ∧ Fm (PFq q) μ0 μ1 := by
                intro q s a v μ0 hq hs ha hv0 hv9 hp
                exact f3 (n := n) (by omega) hq hs ha hv0 hv9 32 n 0 μ0 (by omega) (by omega) (fun j hj => absurd hj (by omega)) hp
              obtain ⟨μ1, e1, r1, f1⟩ := lg3 326 e 0 (pgs R (tpF R N) e) μ (Or.inr rfl) (by omega) (Or.inl rfl) p1.1 p1.2 (hy.2.1.1.1 e hE.1.1).1
              obtain ⟨μ2, e2, r2, f2⟩ := lg3 325 e' 1 (pgs R (tpF R N) e') μ1 (Or.inl rfl) (by omega) (Or.inr rfl) p2.1 p2.2 (by rw [f1.at _ _ (by omega)]; exact (hy.2.1.1.1 e' hE'.1.1).1)
              rw [e1, Option.bind_some, e2, Option.bind_some]
              have e3 := (f115 (n := n) (x := jv i) (ub_ok 0 (pgs R (tpF R N) e)) (ub_ok 1 (pgs R (tpF R N) e')) (r1.kp f2 (fun j => by omega)) r2 32 n 0 (by omega) (by omega)).2
              have e3' : sh_X12_collide_115 n (jv i) n (jv 0) (jv 0) μ2 = _ := e3
              have hcl : clI R N i = anyb (ub 0 (rdg 4 (pgs R (tpF R N) e))) (ub 1 (rdg 4 (pgs R (tpF R N) e'))) 32 0 := by
                unfold clI
                rw [if_pos (⟨z1, z2, z3, z4, by rw [hE.2.1]; exact z5, by rw [hE'.2.1]; exact z6⟩ : clP R N i), hE.2.1, hE'.2.1, Int.toNat_natCast, Int.toNat_natCast]
              rw [e3', hcl]
              exact ⟨μ2, rfl, (f1.mono (fun k j y => (by omega : PFG k j))).tr f2 (fun k j y => by omega)⟩
            · have : prt R e' = 0 := by rcases hw.pb hE'.1.1 with h | h <;> omega
              rw [this, if_pos (show jv 0 = jv 0 from rfl)]
              exact no (fun q => z6 (by have := q.2.2.2.2.2; rw [hE'.2.1] at this; exact this))
          · have : prt R e = 0 := by rcases hw.pb hE.1.1 with h | h <;> omega
            rw [this, if_pos (show jv 0 = jv 0 from rfl)]
            exact no (fun q => z5 (by have := q.2.2.2.2.1; rw [hE.2.1] at this; exact this))
        · rw [show (TB R (tpF R N) N N).2 5 (i + 1) = 0 by omega, if_pos (show jv 0 = jv 0 from rfl)]
          exact no (fun q => z4 q.2.2.2.1)
      · rw [show (TB R (tpF R N) N N).2 5 i = 0 by omega, if_pos (show jv 0 = jv 0 from rfl)]
        exact no (fun q => z3 q.2.2.1)
    · rw [if_neg (by rw [jv_eq] <;> omega)]
      exact no (fun q => z2 q.2.1)
  · rw [if_pos (by rw [jv_le] <;> omega)]
    exact no (fun q => z1 q.1)
theorem clI_b (R : Nat → Int) (N i : Nat) : clI R N i = 0 ∨ clI R N i = 1 := by
  unfold clI
  split
  · rcases anyb_1 (ub 0 (rdg 4 (pgs R (tpF R N) ((TB R (tpF R N) N N).2 0 i).toNat))) (ub 1 (rdg 4 (pgs R (tpF R N) ((TB R (tpF R N) N N).2 0 (i + 1)).toNat))) 32 0 with ⟨h, _⟩ | ⟨h, _⟩
    · exact Or.inl h
    · exact Or.inr h
  · exact Or.inl rfl
theorem PFG_Q : ∀ k j, PFG k j → PQ k j := fun k j h => by omega
theorem q_collides (hn : 16001 ≤ n) {μ : Mm} (hq : QS μ R N fr) (a : Int32) : Qr [2] μ (sh_X11_collides n a μ) (sh_X12_collides n a μ) := by
  obtain ⟨z, h1, h2, rfl⟩ := jv_ex a
  obtain ⟨μ1, e1, hm1, hy, hf⟩ := isLn (n := n) hn hq.1 hq.2.2.2 (a := z) ⟨h1, h2⟩
  have g1 := hf.mono PMY_Q
  unfold sh_X11_collides sh_X12_collides
  rw [ckL hq ⟨h1, h2⟩, Option.bind_some, e1, Option.bind_some, pas, Option.bind_some]
  simp only [jv_lit]
  by_cases hz : 0 ≤ z ∧ z < (TB R (tpF R N) N N).1
  · rw [if_pos hz, if_pos hz, if_pos hz, Sum.elim_inr, if_neg (show ¬ jv 1 = jv 0 by decide)]
    obtain ⟨i, rfl⟩ : ∃ i : Nat, z = i := ⟨z.toNat, by omega⟩
    have hi : i < (TB R (tpF R N) N N).1 := by have := hz.2; omega
    have f0 : Fm PQ μ1 (sI μ1 306 0 (jv 0)) := Fm.rf.sI (by omega)
    obtain ⟨μ2, e2, f2⟩ := coM (n := n) (by omega) hq.1 (hm1.r00 (v := jv 0)) hy.r0 hi
    rw [toC (by omega) hq hi, Option.bind_some, isB_jv (clI_b R N i), Option.bind_some, e2, Option.bind_some]
    have th : μ2.1 306 0 = jv 0 := by rw [f2.at _ _ (by omega), sI_1, if_pos ⟨rfl, rfl⟩]
    have g2 := (g1.tr f0 (fun _ _ y => y)).tr f2 PFG_Q
    rcases clI_b R N i with h | h
    · rw [h, if_pos (show jv 0 = jv 0 from rfl)]
      exact ⟨_, _, _, rfl, rfl, g2, th, rfl⟩
    · rw [h, if_neg (show ¬ jv 1 = jv 0 by decide)]
      exact ⟨_, _, _, rfl, rfl, g2, th, rfl⟩
  · rw [if_neg hz, if_neg hz, if_neg hz, if_pos (show jv 0 = jv 0 from rfl)]
    exact ⟨_, _, _, rfl, rfl, g1.sI (by omega), 0, rfl, by rw [sI_1, if_pos ⟨rfl, rfl⟩]; rfl⟩
theorem cs4 {μ : Mm} (hn : 30 ≤ n) (hq : QS μ R N fr) : ∀ (k f i : Nat) (x : Int), i + k = (TB R (tpF R N) N N).1 → k < f → sh_X11_collisions_4 n μ f (jv x) (jv i) = some (jv (x + cnt (fun i => clI R N i = 1) k i)) := by
  have hw := hq.1
  have h0 := tpF_b hw (by omega)
  have hT := TB_n hw (by omega) h0 N (Nat.le_refl _)
  have hN := hw.1
  have eT : μ.1 61 2 = jv (TB R (tpF R N) N N).1 := hq.2.2.1.2.2.2.1.2.1.1
  intro k
  induction k with
  | zero =>
    intro f i x hi hf
    obtain ⟨f, rfl⟩ : ∃ g, f = g + 1 := ⟨f - 1, by omega⟩
    rw [sh_X11_collisions_4, eT, if_pos (by rw [jv_le] <;> omega), cnt, Int.add_zero]
  | succ k ih =>
    intro f i x hi hf
    obtain ⟨f, rfl⟩ : ∃ g, f = g + 1 := ⟨f - 1, by omega⟩
    rw [sh_X11_collisions_4, eT, if_neg (by rw [jv_le] <;> omega), toC hn hq (by omega), Option.bind_some]
    simp only [jv_lit]
    rw [jv_add, jv_add, show (i : Int) + 1 = ((i + 1 : Nat) : Int) by omega, cnt]
    rcases clI_b R N i with h | h
    · rw [h, if_pos (show jv 0 = jv 0 from rfl), if_neg (show ¬ (0 : Int) = 1 by omega), ih f (i + 1) _ (by omega) (by omega), Int.zero_add]
    · rw [h, if_neg (show ¬ jv 1 = jv 0 by decide), if_pos (show (1 : Int) = 1 from rfl), ih f (i + 1) _ (by omega) (by omega), Int.add_assoc]
theorem cs13 (hn : 40 ≤ n) (hw : WB 500 R N fr) : ∀ (k f i : Nat) (x : Int) (μ : Mm), i + k = (TB R (tpF R N) N N).1 → k < f → MB 307 μ R → MY μ R N fr → ∃ μ1, sh_X12_collisions_13 n f (jv x) (jv i) μ = some (jv (x + cnt (fun i => clI R N i = 1) k i), μ1) ∧ Fm PFG μ μ1 := by
  have h0 := tpF_b hw (by omega)
  have hT := TB_n hw (by omega) h0 N (Nat.le_refl _)
  have hN := hw.1
  intro k
  induction k with
  | zero =>
    intro f i x μ hi hf hm hy
    obtain ⟨f, rfl⟩ : ∃ g, f = g + 1 := ⟨f - 1, by omega⟩
    have eT : μ.1 306 36 = jv (TB R (tpF R N) N N).1 := hy.2.1.2.1.1
    rw [sh_X12_collisions_13, eT, if_pos (by rw [jv_le] <;> omega), cnt, Int.add_zero]
    exact ⟨μ, rfl, Fm.rf⟩
  | succ k ih =>
    intro f i x μ hi hf hm hy
    obtain ⟨f, rfl⟩ : ∃ g, f = g + 1 := ⟨f - 1, by omega⟩
    have eT : μ.1 306 36 = jv (TB R (tpF R N) N N).1 := hy.2.1.2.1.1
    obtain ⟨μ1, e1, f1⟩ := coM (n := n) hn hw hm hy (i := i) (by omega)
    have hm1 := hm.fr f1 (fun i _ => by omega)
    have hy1 := hy.kp f1 (fun k j y => by omega)
    rw [sh_X12_collisions_13, eT, if_neg (by rw [jv_le] <;> omega), e1, Option.bind_some]
    simp only [jv_lit, nm_eq]
    rw [jv_add, jv_add, jv_add, show (i : Int) + 1 = ((i + 1 : Nat) : Int) by omega, cnt]
    rcases clI_b R N i with h | h
    · obtain ⟨μ2, e2, f2⟩ := ih f (i + 1) (x + 0) μ1 (by omega) (by omega) hm1 hy1
      rw [h, if_pos (show jv 0 = jv 0 from rfl), if_neg (show ¬ (0 : Int) = 1 by omega), e2, Int.add_assoc]
      exact ⟨μ2, rfl, f1.tr f2 (fun _ _ y => y)⟩
    · obtain ⟨μ2, e2, f2⟩ := ih f (i + 1) (x + 1) μ1 (by omega) (by omega) hm1 hy1
      rw [h, if_neg (show ¬ jv 1 = jv 0 by decide), if_pos (show (1 : Int) = 1 from rfl), e2, Int.add_assoc]
      exact ⟨μ2, rfl, f1.tr f2 (fun _ _ y => y)⟩
theorem q_collisions (hn : 16001 ≤ n) {μ : Mm} (hq : QS μ R N fr) : Qn μ (sh_X11_collisions n μ) (sh_X12_collisions n μ) := by
  have hw := hq.1
  have h0 := tpF_b hw (by omega)
  have hT := TB_n hw (by omega) h0 N (Nat.le_refl _)
  have hN := hw.1
  obtain ⟨μ1, e, hy, hf⟩ := layMM (n := n) hn hw (by omega) (hq.2.2.2.r00 (v := jv 0))
  have f0 : Fm PQ μ (sI μ 306 0 (jv 0)) := Fm.rf.sI (by omega)
  have g1 := f0.tr hf PMY_Q
  have hm1 := hq.2.2.2.fr g1 (fun i _ => by omega)
  unfold sh_X11_collisions sh_X12_collisions
  simp only [jv_lit]
  rw [pt_eq, Option.bind_some, e, Option.bind_some]
  have eC : sh_X11_collisions_4 n μ n (jv 0) (jv 0) = _ := cs4 (n := n) (by omega) hq (TB R (tpF R N) N N).1 n 0 0 (by omega) (by omega)
  obtain ⟨μ2, e2, f2⟩ := cs13 (n := n) (by omega) hw (TB R (tpF R N) N N).1 n 0 0 μ1 (by omega) (by omega) hm1 hy
  have eM : sh_X12_collisions_13 n n (jv 0) (jv 0) μ1 = _ := e2
  rw [eC, eM]
  exact ⟨_, _, rfl, rfl, g1.tr f2 PFG_Q⟩
end CL2
