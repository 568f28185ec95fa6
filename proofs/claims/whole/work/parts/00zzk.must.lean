/-! WHETHER a section must be read again, by the model -/
section MST
variable {n : Nat} {R Rp : Nat → Int} {N fr Np frp : Nat}
abbrev alE (R : Nat → Int) (N : Nat) (Rp : Nat → Int) (Np a b c i : Nat) : Prop := ∀ j, j < c → i ≤ j → lnT R (tpF R N) N (a + j) = lnT Rp (tpF Rp Np) Np (b + j)
theorem mb40 (hn : 16001 ≤ n) (hw : WB 500 R N fr) (hwp : WB 500 Rp Np frp) {s o c : Nat} (hs : s < N) (hc : c = (TB R (tpF R N) N (s + 1)).1 - (TB R (tpF R N) N s).1) (hb : (TB Rp (tpF Rp Np) Np o).1 + c ≤ (TB Rp (tpF Rp Np) Np Np).1) (hf : R (frm s) = (TB Rp (tpF Rp Np) Np o).1) : ∀ (k f i : Nat) (μ : Mm), i + k = c → k < f → MB 307 μ R → MY μ R N fr → NP μ Rp Np → (sh_X12_mustBeRead_40 n (jv s) f (jv 0) (jv i) μ = some (jv 1, μ)) ∧ ∃ μ1, sh_X12_mustBeRead_40 n (jv s) f (jv 1) (jv i) μ = some (jv (if alE R N Rp Np (TB R (tpF R N) N s).1 (TB Rp (tpF Rp Np) Np o).1 c i then 0 else 1), μ1) ∧ Fm PM2 μ μ1 := by
  have h0 := tpF_b hw (by omega)
  have hm := TB_mono hw (by omega) h0 hs
  have hT := TB_n hw (by omega) h0 N (Nat.le_refl _)
  have h0p := tpF_b hwp (by omega)
  have hTp := TB_n hwp (by omega) h0p Np (Nat.le_refl _)
  have hN := hw.1
  have hNp := hwp.1
  have l1 : ln 324 = 24 := rfl
  have ec : ((TB R (tpF R N) N (s + 1)).1 : Int) - (TB R (tpF R N) N s).1 = (c : Int) := by omega
  intro k
  induction k with
  | zero =>
    intro f i μ hi hfu hM hY hP
    obtain ⟨f, rfl⟩ : ∃ g, f = g + 1 := ⟨f - 1, by omega⟩
    constructor
    · rw [sh_X12_mustBeRead_40, lnO hw hM hY hs, Option.bind_some, ec, if_pos (by rw [jv_le] <;> omega), if_pos zro]
      rfl
    · rw [sh_X12_mustBeRead_40, lnO hw hM hY hs, Option.bind_some, ec, if_pos (by rw [jv_le] <;> omega), if_neg one_ne, if_pos (fun j a b => absurd a (by omega))]
      exact ⟨μ, rfl, Fm.rf⟩
  | succ k ih =>
    intro f i μ hi hfu hM hY hP
    obtain ⟨f, rfl⟩ : ∃ g, f = g + 1 := ⟨f - 1, by omega⟩
    constructor
    · rw [sh_X12_mustBeRead_40, lnO hw hM hY hs, Option.bind_some, ec, if_neg (by rw [jv_le] <;> omega), if_pos zro, jv_lit (nat_lit 1), jv_add, show (i : Int) + 1 = ((i + 1 : Nat) : Int) by omega, jv0]
      exact (ih f (i + 1) μ (by omega) (by omega) hM hY hP).1
    · obtain ⟨μ1, e1, f1⟩ := iaM (n := n) hn hw hwp (i := (TB R (tpF R N) N s).1 + i) (k := (TB Rp (tpF Rp Np) Np o).1 + i) (by omega) (by omega) ⟨hM, hY.1, hY.2.1⟩ hP
      obtain ⟨i0, μ2, e2, f2⟩ := ih f (i + 1) μ1 (by omega) (by omega) (hM.fr f1 (fun i _ => by omega)) (hY.kp f1 (fun k j y => by omega)) ⟨fun k hk => by rw [f1.at _ _ (by omega)]; exact hP.1 k hk, fun j hj => by rw [f1.at _ _ (by omega)]; exact hP.2 j hj⟩
      have eF : sh_X12_of (jv s) (jv 4) μ = some (jv (TB Rp (tpF Rp Np) Np o).1) := by
        have h4 : sh_X12_of (jv s) (jv 4) μ = _ := hM.of (s := s) (w := 4) (by omega) (by omega)
        rw [h4, ← hf]
        rfl
      rw [sh_X12_mustBeRead_40, lnO hw hM hY hs, Option.bind_some, ec, if_neg (by rw [jv_le] <;> omega), if_neg one_ne]
      simp only [jv_lit]
      rw [ld_jv (by omega) (by omega), Option.bind_some, eF, Option.bind_some, Int.toNat_natCast, hY.2.1.2.2.1 s hs, jv_add, jv_add, show ((TB R (tpF R N) N s).1 : Int) + (i : Int) = (((TB R (tpF R N) N s).1 + i : Nat) : Int) by omega, show ((TB Rp (tpF Rp Np) Np o).1 : Int) + (i : Int) = (((TB Rp (tpF Rp Np) Np o).1 + i : Nat) : Int) by omega, e1, Option.bind_some, jv_add, show (i : Int) + 1 = ((i + 1 : Nat) : Int) by omega]
      by_cases z : lnT R (tpF R N) N ((TB R (tpF R N) N s).1 + i) = lnT Rp (tpF Rp Np) Np ((TB Rp (tpF Rp Np) Np o).1 + i)
      · have e : alE R N Rp Np (TB R (tpF R N) N s).1 (TB Rp (tpF Rp Np) Np o).1 c i ↔ alE R N Rp Np (TB R (tpF R N) N s).1 (TB Rp (tpF Rp Np) Np o).1 c (i + 1) := ⟨fun q j x y => q j x (by omega), fun q j x y => by
          by_cases w : j = i
          · rw [w]; exact z
          · exact q j x (by omega)⟩
        rw [if_pos z, if_neg (show ¬ jv 1 = jv 0 by decide), e2]
        refine ⟨μ2, ?_, f1.tr f2 (fun _ _ y => y)⟩
        by_cases y : alE R N Rp Np (TB R (tpF R N) N s).1 (TB Rp (tpF Rp Np) Np o).1 c i
        · rw [if_pos y, if_pos (e.mp y)]
        · rw [if_neg y, if_neg (fun q => y (e.mpr q))]
      · rw [if_neg z, if_pos (show jv 0 = jv 0 from rfl), i0, if_neg (fun q => z (q i (by omega) (Nat.le_refl _)))]
        exact ⟨μ1, rfl, f1⟩
end MST
