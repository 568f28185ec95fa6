/-! LINES, typed by the class -/
section TYP
variable {n t kb tx : Nat} {R : Nat → Int} {K : Int} {N fr : Nat}
theorem LY.col {μ : Mm} (h : LY t μ R N fr) (hw : WB K R N fr) (hK : K ≤ 600) {c i : Nat} (hc : c < 5) (hi : i < (TB R (tpF R N) N N).1) {u : Nat} (hu : u = t + 24 + 2 * c) : sh_X5_at u (jv i) μ = some (jv ((TB R (tpF R N) N N).2 c i)) := by
  have h0 := tpF_b hw hK
  have hT := TB_n hw hK h0 N (Nat.le_refl _)
  have hN := hw.1
  have ho := h.1.2.2
  have hl : ln (u + 1) = 192 := by
    subst hu
    rcases lt5 hc with rfl | rfl | rfl | rfl | rfl
    · exact ho.1
    · exact ho.2.1
    · exact ho.2.2.1
    · exact ho.2.2.2.1
    · exact ho.2.2.2.2.1
  rw [a5_in (by omega) (by omega), Int.toNat_natCast]
  have := h.2.2.2.1.2.1.2 c hc i hi
  rw [show u + 1 = t + 23 + 2 + 2 * c by omega]
  exact congrArg some this
theorem LY.sec4 {μ : Mm} (h : LY t μ R N fr) (hw : WB K R N fr) {e : Nat} (he : e < N) : sh_X5_at (t + 34) (jv e) μ = some (jv (TB R (tpF R N) N e).1) ∧ sh_X5_at (t + 36) (jv e) μ = some (jv ((TB R (tpF R N) N (e + 1)).1 - (TB R (tpF R N) N e).1)) ∧ sh_X5_at (t + 38) (jv e) μ = some (jv (dFi R (nwd R (tpF R N) e) (lL (TB R (tpF R N) N (e + 1)) 2))) ∧ sh_X5_at (t + 40) (jv e) μ = some (jv (dCn R (nwd R (tpF R N) e) (lL (TB R (tpF R N) N (e + 1)) 2))) := by
  have hN := hw.1
  have ho := h.1.2.2
  have l1 : ln (t + 34 + 1) = 24 := ho.2.2.2.2.2.1
  have l2 : ln (t + 36 + 1) = 24 := ho.2.2.2.2.2.2.1
  have l3 : ln (t + 38 + 1) = 24 := ho.2.2.2.2.2.2.2.1
  have l4 : ln (t + 40 + 1) = 24 := ho.2.2.2.2.2.2.2.2
  have hc := h.2.2.2.1.2.2.1 e he
  rw [a5_in (by omega) (by omega), a5_in (by omega) (by omega), a5_in (by omega) (by omega), a5_in (by omega) (by omega), Int.toNat_natCast]
  exact ⟨congrArg some hc.1, congrArg some hc.2.1, congrArg some hc.2.2.1, congrArg some hc.2.2.2⟩
theorem LY.pg {μ : Mm} (h : LY t μ R N fr) (hw : WB K R N fr) {e : Nat} (he : e < N) : sh_X5_at (t + 15) (jv e) μ = some (jv (pgs R (tpF R N) e)) := by
  have hN := hw.1
  have l1 : ln (t + 15 + 1) = 24 := h.1.2.1.1
  rw [a5_in (by omega) (by omega), Int.toNat_natCast]
  exact congrArg some (h.2.2.1.2.1 e he).1
theorem LY.lbh {μ : Mm} (h : LY t μ R N fr) (hw : WB K R N fr) {e : Nat} (he : e < N) : sh_X7_lineBehind (t + 23) (jv e) μ = some (jv (TB R (tpF R N) N (e + 1)).1) := by
  unfold sh_X7_lineBehind
  rw [show t + 23 + 11 = t + 34 from rfl, show t + 23 + 13 = t + 36 from rfl, (h.sec4 hw he).1, Option.bind_some, (h.sec4 hw he).2.1, Option.bind_some, jv_add]
  congr 2
  omega
theorem LY.last {μ : Mm} (h : LY t μ R N fr) (hw : WB K R N fr) (hK : K ≤ 600) {i e : Nat} (hf : LF R (tpF R N) N i e) : sh_X7_isLastLine (t + 23) (jv i) μ = some (jv (if i + 1 = (TB R (tpF R N) N (e + 1)).1 then 1 else 0)) := by
  have h0 := tpF_b hw hK
  have hN := hw.1
  have hT := TB_n hw hK h0 (e + 1) (by have := hf.1.1; omega)
  unfold sh_X7_isLastLine
  rw [h.col hw hK (c := 0) (by omega) hf.1.2.2.2 rfl, Option.bind_some, hf.2.1, h.lbh hw hf.1.1, Option.bind_some]
  simp only [jv_lit]
  rw [jv_sub]
  have := hf.1
  by_cases z : i + 1 = (TB R (tpF R N) N (e + 1)).1
  · rw [if_pos (by congr 1; omega), if_pos z]
  · rw [if_neg (by rw [jv_eq] <;> omega), if_neg z]
theorem ty47 (hn : 200 ≤ n) (hw : WB K R N fr) (hK : K ≤ 600) (hd1 : tx + 1 < t ∨ t + 42 ≤ tx) (hd2 : tx + 1 < kb ∨ kb + 13 ≤ tx) {i e a c : Nat} (hf : LF R (tpF R N) N i e) (ha : ((a : Nat) : Int) = (TB R (tpF R N) N N).2 4 i) (hc : ((c : Nat) : Int) = (TB R (tpF R N) N N).2 3 i) : ∀ (r f k : Nat) (μ : Mm) (B : List Int), k + r = c → r < f → LY t μ R N fr → CB kb μ R N fr → Tx tx μ (B ++ tkT R e a k) → B.length + 13 * c + (if a = 0 then 12 else 0) + 148 ≤ ln (tx + 1) → Wt (Tx tx) (PT tx) μ (sh_X1_typeLine_47 n t tx kb (jv i) f (jv e) (jv a) (jv ((a : Int) + k)) μ) (B ++ tkT R e a c ++ (endT R (tpF R N) N e i ++ [10])) := by
  have h0 := tpF_b hw hK
  have hN := hw.1
  have he := hf.1.1
  have hwc := (hw.sec he).2.2.2.1
  have h8 := hf.2.2.2.2.1
  have hcap := ln_lt (tx + 1)
  have hpg := pgs_b hw hK he h0.1 h0.2
  have hpr := (prn_len hw hK he h0.1 h0.2).1
  have hPT : ∀ {μ μ1 : Mm}, Fm (PT tx) μ μ1 → LY t μ R N fr → CB kb μ R N fr → LY t μ1 R N fr ∧ CB kb μ1 R N fr := fun hf1 h1 h2 => ⟨h1.kp hf1 (fun q j x y z => by omega), h2.fr hf1 (fun q j x y z => by omega)⟩
  intro r
  induction r with
  | zero =>
    intro f k μ B hk hfu hL hb hx hB
    obtain ⟨f, rfl⟩ : ∃ g, f = g + 1 := ⟨f - 1, by omega⟩
    have ek : k = c := by omega
    subst ek
    have hkl := tkT_len hw he a k
    have hlen : (B ++ tkT R e a k).length + 148 ≤ ln (tx + 1) := by
      rw [List.length_append]
      by_cases z : a = 0
      · rw [if_pos z] at hB
        have : (if a = 0 ∧ 0 < k then 12 else 0) ≤ 12 := by split <;> omega
        omega
      · rw [if_neg z] at hB
        rw [if_neg (fun y => z y.1)] at hkl
        omega
    rw [sh_X1_typeLine_47, hL.col hw hK (c := 3) (by omega) hf.1.2.2.2 rfl, Option.bind_some, jv_add, if_pos (by rw [jv_le] <;> omega), hL.last hw hK hf, Option.bind_some]
    have h5 := hf.2.2.2.2.2.2.1
    unfold endT
    simp only [jv_lit]
    by_cases z : i + 1 = (TB R (tpF R N) N (e + 1)).1
    · rw [if_pos z] at h5
      rw [if_pos z, if_neg (by rw [jv_eq] <;> omega), if_pos h5]
      have hlast := hf.2.2.2.2.2.2.2.1 z
      have hdc := dCn_b hw (e := (TB R (tpF R N) N N).2 2 i) (nw := nwd R (tpF R N) e) ⟨hlast.2.2.2.1, hf.2.2.2.1.2⟩ (nwd_b hw hK he h0.1 h0.2).1
      have e6 : (TB R (tpF R N) N N).2 6 i = dCn R (nwd R (tpF R N) e) (lL (TB R (tpF R N) N (e + 1)) 2) := by rw [hlast.1, hlast.2.2.1]
      refine Wt.bind (Wt.of (put8 hx (by omega) (by omega) (by omega))) (fun μ1 hx1 f1 => ?_)
      obtain ⟨hL1, hb1⟩ := hPT f1 hL hb
      rw [(hL1.sec4 hw he).2.2.2, Option.bind_some, ← e6, show (TB R (tpF R N) N N).2 6 i = (((TB R (tpF R N) N N).2 6 i).toNat : Int) by rw [hlast.1]; omega, Int.toNat_natCast]
      refine Wt.bind (Wt.of (tim8 (by omega) (by omega) hx1 (by rw [len1]; rw [hlast.1]; omega) (by rw [hlast.1]; omega))) (fun μ2 hx2 f2 => ?_)
      obtain ⟨hL2, hb2⟩ := hPT f2 hL1 hb1
      have hd6 : ((TB R (tpF R N) N N).2 6 i).toNat ≤ 121 := by rw [hlast.1]; omega
      have l2 : (B ++ tkT R e a k ++ [32] ++ List.replicate ((TB R (tpF R N) N N).2 6 i).toNat 46).length ≤ (B ++ tkT R e a k).length + 122 := by rw [List.length_append, len1, List.length_replicate]; omega
      refine Wt.bind (Wt.of (put8 hx2 (by omega) (by omega) (by omega))) (fun μ3 hx3 f3 => ?_)
      obtain ⟨hL3, hb3⟩ := hPT f3 hL2 hb2
      have l3 : (B ++ tkT R e a k ++ [32] ++ List.replicate ((TB R (tpF R N) N N).2 6 i).toNat 46 ++ [32]).length ≤ (B ++ tkT R e a k).length + 123 := by rw [len1]; omega
      have fin : ∀ o : Option Mm, Wt (Tx tx) (PT tx) μ3 o (B ++ tkT R e a k ++ [32] ++ List.replicate ((TB R (tpF R N) N N).2 6 i).toNat 46 ++ [32] ++ prn R (tpF R N) e) → Wt (Tx tx) (PT tx) μ3 (o.bind fun r17 => (sh_X8_put tx (jv 10) r17).bind fun r18 => some r18) (B ++ tkT R e a k ++ (32 :: (List.replicate ((TB R (tpF R N) N N).2 6 i).toNat 46 ++ 32 :: prn R (tpF R N) e) ++ [10])) := by
        intro o ho
        refine Wt.bind ho (fun μ4 hx4 f4 => ?_)
        have := Wt.of (put8 hx4 (by rw [List.length_append]; omega) (show -128 ≤ (10 : Int) by omega) (by omega)).last
        simp only [List.append_assoc, List.cons_append, List.nil_append] at this ⊢
        exact this
      rw [hb3.po hw he, Option.bind_some]
      rcases hw.pb he with ⟨y, -⟩ | ⟨y, -⟩
      · rw [if_pos (by rw [y]), hL3.pg hw he, Option.bind_some]
        refine fin _ ?_
        have ep : prn R (tpF R N) e = ro (pgs R (tpF R N) e) := by unfold prn; rw [if_pos y]
        rw [ep]
        exact Wt.of (ro8 (by omega) (by omega) (by omega) hx3 (by omega))
      · rw [if_neg (by rw [y, jv_eq] <;> omega), hL3.pg hw he, Option.bind_some]
        refine fin _ ?_
        have ep : prn R (tpF R N) e = ar (pgs R (tpF R N) e) := by unfold prn; rw [if_neg (by omega)]
        rw [ep]
        exact Wt.of (ar8 (by omega) (by omega) (by omega) hx3 (by omega))
    · rw [if_neg z] at h5
      rw [if_neg z, if_pos rfl, if_neg (by omega), List.nil_append]
      exact Wt.of (put8 hx (by omega) (by omega) (by omega)).last
  | succ r ih =>
    intro f k μ B hk hfu hL hb hx hB
    obtain ⟨f, rfl⟩ : ∃ g, f = g + 1 := ⟨f - 1, by omega⟩
    have hkl := tkT_len hw he a k
    have hwd := ((hw.sec he).2.2.2.2.1 (a + k) (by omega)).1
    have hlen : (B ++ tkT R e a k).length + 13 + 148 ≤ ln (tx + 1) := by
      rw [List.length_append]
      by_cases z : a = 0
      · rw [if_pos z] at hB
        have : (if a = 0 ∧ 0 < k then 12 else 0) ≤ 12 := by split <;> omega
        omega
      · rw [if_neg z] at hB
        rw [if_neg (fun y => z y.1)] at hkl
        omega
    have hlb := lab_b hw he
    -- the token itself
    have k79 : ∀ (μ1 : Mm) (S : List Int), LY t μ1 R N fr → CB kb μ1 R N fr → Tx tx μ1 S → S.length + 12 + 148 ≤ ln (tx + 1) → S ++ tok R e (a + k) = B ++ tkT R e a (k + 1) → Wt (Tx tx) (PT tx) μ1 (sh_X1_typeLine_79 n t tx kb (jv i) (fun (x4 : Int32) (x5 : Int32) (x6 : Int32) (μ : Mm) => sh_X1_typeLine_47 n t tx kb (jv i) f x4 x5 x6 μ) (jv e) (jv a) (jv ((a : Int) + k)) μ1) (B ++ tkT R e a c ++ (endT R (tpF R N) N e i ++ [10])) := by
      intro μ1 S hL1 hb1 hx1 hS hSe
      unfold sh_X1_typeLine_79
      have k102 : ∀ (μ2 : Mm) (S2 : List Int), LY t μ2 R N fr → CB kb μ2 R N fr → Tx tx μ2 S2 → S2.length + 12 ≤ ln (tx + 1) → S2 ++ lw (lt R e (a + k)) = B ++ tkT R e a (k + 1) → Wt (Tx tx) (PT tx) μ2 (sh_X1_typeLine_102 n t tx kb (jv i) (fun (x4 : Int32) (x5 : Int32) (x6 : Int32) (μ : Mm) => sh_X1_typeLine_47 n t tx kb (jv i) f x4 x5 x6 μ) (jv e) (jv a) (jv ((a : Int) + k)) μ2) (B ++ tkT R e a c ++ (endT R (tpF R N) N e i ++ [10])) := by
        intro μ2 S2 hL2 hb2 hx2 hS2 hSe2
        unfold sh_X1_typeLine_102
        simp only [jv_lit, jv_mul, jv_add]
        have hti := hb2.ti hw he (w := a + k) (by omega)
        rw [show ((e : Int) * 8 + ((a + k : Nat) : Int)) = (e : Int) * 8 + ((a : Int) + k) by omega] at hti
        rw [hti, Option.bind_some]
        refine Wt.bind (Wt.of (pw8 hwd (by omega) hx2 hS2)) (fun μ3 hx3 f3 => ?_)
        obtain ⟨hL3, hb3⟩ := hPT f3 hL2 hb2
        rw [hSe2] at hx3
        have := ih f (k + 1) μ3 B (by omega) (by omega) hL3 hb3 hx3 hB
        rw [show (a : Int) + ((k + 1 : Nat) : Int) = (a : Int) + k + 1 by omega] at this
        exact this
      simp only [jv_lit]
      by_cases z : a + k = 0
      · rw [if_pos (by congr 1; omega), hb1.po hw he, Option.bind_some]
        rcases hw.pb he with ⟨y, -⟩ | ⟨y, -⟩
        · rw [if_neg (by rw [y, jv_eq] <;> omega)]
          refine k102 μ1 S hL1 hb1 hx1 (by omega) ?_
          rw [← hSe]
          unfold tok
          rw [if_neg (fun w => by omega), List.nil_append]
        · rw [if_pos (by rw [y])]
          refine Wt.bind (Wt.of (tl8 (by omega) hw he (by omega) hd2 hL1.2.1 hb1 hx1 (by omega))) (fun μ2 hx2 f2 => ?_)
          obtain ⟨hL2, hb2⟩ := hPT f2 hL1 hb1
          refine k102 μ2 _ hL2 hb2 hx2 (by rw [List.length_append, len1]; omega) ?_
          rw [← hSe]
          unfold tok
          rw [if_pos ⟨z, y⟩, List.append_assoc]
      · rw [if_neg (by rw [jv_eq] <;> omega)]
        refine k102 μ1 S hL1 hb1 hx1 (by omega) ?_
        rw [← hSe]
        unfold tok
        rw [if_neg (fun w => z w.1), List.nil_append]
    rw [sh_X1_typeLine_47, hL.col hw hK (c := 3) (by omega) hf.1.2.2.2 rfl, Option.bind_some, jv_add, if_neg (by rw [jv_le] <;> omega)]
    by_cases z : k = 0
    · rw [if_pos (by rw [jv_le] <;> omega)]
      refine k79 μ _ hL hb hx (by omega) ?_
      rw [tkT, if_pos z, List.nil_append, List.append_assoc]
    · rw [if_neg (by rw [jv_le] <;> omega), jv_lit (nat_lit 32)]
      refine Wt.bind (Wt.of (put8 hx (by omega) (by omega) (by omega))) (fun μ1 hx1 f1 => ?_)
      obtain ⟨hL1, hb1⟩ := hPT f1 hL hb
      refine k79 μ1 _ hL1 hb1 hx1 (by rw [len1]; omega) ?_
      rw [tkT, if_neg z, List.append_assoc, List.append_assoc]
theorem tyL (hn : 200 ≤ n) (hw : WB K R N fr) (hK : K ≤ 600) (hd1 : tx + 1 < t ∨ t + 42 ≤ tx) (hd2 : tx + 1 < kb ∨ kb + 13 ≤ tx) {i e : Nat} (hf : LF R (tpF R N) N i e) {μ : Mm} {L : List Int} (hL : LY t μ R N fr) (hb : CB kb μ R N fr) (hx : Tx tx μ L) (hcap : (L.length : Int) + 185 + 13 * (TB R (tpF R N) N N).2 3 i + (if (TB R (tpF R N) N N).2 4 i = 0 then 12 else 0) ≤ ln (tx + 1)) : Wr (Tx tx) (PT tx) μ L (sh_X1_typeLine n t tx kb (jv i) μ) (lnT R (tpF R N) N i) := by
  have h0 := tpF_b hw hK
  have h8 := hf.2.2.2.2.1
  have h6 := hf.2.2.1
  have hwc := (hw.sec hf.1.1).2.2.2.1
  unfold sh_X1_typeLine
  rw [hL.col hw hK (c := 0) (by omega) hf.1.2.2.2 rfl, Option.bind_some, hL.col hw hK (c := 4) (by omega) hf.1.2.2.2 rfl, Option.bind_some, hL.col hw hK (c := 1) (by omega) hf.1.2.2.2 rfl, Option.bind_some, jv_lit (nat_lit 32), hf.2.1]
  have e1 : (TB R (tpF R N) N N).2 1 i = (((TB R (tpF R N) N N).2 1 i).toNat : Int) := by omega
  have e4 : ((((TB R (tpF R N) N N).2 4 i).toNat : Nat) : Int) = (TB R (tpF R N) N N).2 4 i := by omega
  have e3 : ((((TB R (tpF R N) N N).2 3 i).toNat : Nat) : Int) = (TB R (tpF R N) N N).2 3 i := by omega
  have hcz : (if (TB R (tpF R N) N N).2 4 i = 0 then (12 : Int) else 0) = ((if ((TB R (tpF R N) N N).2 4 i).toNat = 0 then 12 else 0 : Nat) : Int) := by
    by_cases z : (TB R (tpF R N) N N).2 4 i = 0
    · rw [if_pos z, if_pos (by omega)]
      rfl
    · rw [if_neg z, if_neg (by omega)]
      rfl
  rw [hcz] at hcap
  rw [e1]
  unfold lnT
  rw [hf.2.1, Int.toNat_natCast]
  refine Wr.bind (tim8 (by omega) (by omega) hx (by omega) (by omega)) (fun μ1 hx1 f1 => ?_)
  have hL1 := hL.kp f1 (fun q j x y z => by omega)
  have hb1 := hb.fr f1 (fun q j x y z => by omega)
  have := ty47 (n := n) (t := t) hn hw hK hd1 hd2 hf e4 e3 ((TB R (tpF R N) N N).2 3 i).toNat n 0 μ1 (L ++ List.replicate ((TB R (tpF R N) N N).2 1 i).toNat 32) (by omega) (by omega) hL1 hb1 (by rw [tkT, List.append_nil]; exact hx1) (by rw [List.length_append, List.length_replicate]; omega)
  rw [show ((((TB R (tpF R N) N N).2 4 i).toNat : Nat) : Int) + ((0 : Nat) : Int) = (TB R (tpF R N) N N).2 4 i by omega, e4, List.append_assoc] at this
  exact this.to
theorem tys_l (hn : 200 ≤ n) (hw : WB K R N fr) (hK : K ≤ 600) (hd1 : tx + 1 < t ∨ t + 42 ≤ tx) (hd2 : tx + 1 < kb ∨ kb + 13 ≤ tx) {a b : Nat} (hb2 : b ≤ (TB R (tpF R N) N N).1) (hcap : ∀ j, a + j < b → ((lnsT R (tpF R N) N a j).length : Int) + 185 + 13 * (TB R (tpF R N) N N).2 3 (a + j) + (if (TB R (tpF R N) N N).2 4 (a + j) = 0 then 12 else 0) ≤ ln (tx + 1)) : ∀ (r f k : Nat) (μ : Mm), a + k + r = b → r < f → LY t μ R N fr → CB kb μ R N fr → Tx tx μ (lnsT R (tpF R N) N a k) → Wt (Tx tx) (PT tx) μ (sh_X1_typeLines_8 n t tx kb (jv a) (jv b) f (jv ((a + k : Nat) : Int)) μ) (lnsT R (tpF R N) N a (k + r)) := by
  have h0 := tpF_b hw hK
  have hT := TB_n hw hK h0 N (Nat.le_refl _)
  have hN := hw.1
  intro r
  induction r with
  | zero =>
    intro f k μ hk hf hL hb hx
    obtain ⟨f, rfl⟩ : ∃ g, f = g + 1 := ⟨f - 1, by omega⟩
    rw [sh_X1_typeLines_8, if_pos (by rw [jv_le] <;> omega)]
    exact ⟨μ, rfl, hx, Fm.rf⟩
  | succ r ih =>
    intro f k μ hk hf hL hb hx
    obtain ⟨f, rfl⟩ : ∃ g, f = g + 1 := ⟨f - 1, by omega⟩
    obtain ⟨e, hfe⟩ := LF.ex hw hK h0 (i := a + k) (by omega)
    rw [sh_X1_typeLines_8, if_neg (by rw [jv_le] <;> omega)]
    refine Wt.bind (Wt.of (tyL hn hw hK hd1 hd2 hfe hL hb hx (hcap k (by omega)))) (fun μ1 hx1 f1 => ?_)
    have := ih f (k + 1) μ1 (by omega) (by omega) (hL.kp f1 (fun q j x y z => by omega)) (hb.fr f1 (fun q j x y z => by omega)) hx1
    rw [jv_lit (nat_lit 1), jv_add, show ((a + k : Nat) : Int) + 1 = ((a + (k + 1) : Nat) : Int) by omega, show k + (r + 1) = k + 1 + r by omega]
    exact this
theorem tys (hn : 200 ≤ n) (hw : WB K R N fr) (hK : K ≤ 600) (hd1 : tx + 1 < t ∨ t + 42 ≤ tx) (hd2 : tx + 1 < kb ∨ kb + 13 ≤ tx) {a b : Nat} (hab : a ≤ b) (hb2 : b ≤ (TB R (tpF R N) N N).1) (hcap : ∀ j, a + j < b → ((lnsT R (tpF R N) N a j).length : Int) + 185 + 13 * (TB R (tpF R N) N N).2 3 (a + j) + (if (TB R (tpF R N) N N).2 4 (a + j) = 0 then 12 else 0) ≤ ln (tx + 1)) {μ : Mm} (hL : LY t μ R N fr) (hb : CB kb μ R N fr) : Wt (Tx tx) (PT tx) μ (sh_X1_typeLines n t tx kb (jv a) (jv b) μ) (lnsT R (tpF R N) N a (b - a)) := by
  have h0 := tpF_b hw hK
  have hT := TB_n hw hK h0 N (Nat.le_refl _)
  have hN := hw.1
  unfold sh_X1_typeLines sh_X8_cut
  rw [pt_eq, Option.bind_some, jv_lit (nat_lit 0)]
  have f0 : Fm (PT tx) μ (sI μ tx 1 (jv 0)) := Fm.rf.sI (Or.inl rfl)
  have hx0 : Tx tx (sI μ tx 1 (jv 0)) [] := ⟨Nat.zero_le _, by rw [sI_1, if_pos ⟨rfl, rfl⟩]; rfl, fun i hi => absurd hi (by show ¬ i < 0; omega)⟩
  have := tys_l (n := n) (t := t) hn hw hK hd1 hd2 hb2 hcap (b - a) n 0 (sI μ tx 1 (jv 0)) (by omega) (by omega) (hL.kp f0 (fun q j x y z => by omega)) (hb.fr f0 (fun q j x y z => by omega)) hx0
  rw [Nat.add_zero, Nat.zero_add] at this
  obtain ⟨μ1, e, hx, hf⟩ := this
  exact ⟨μ1, by rw [Option.bind_some, e], hx, f0.tr hf (fun _ _ z => z)⟩
/-- room for the lines of one entry, of one line, of all -/
theorem cap_ent (hw : WB K R N fr) (hK : K ≤ 600) {e : Nat} (he : e < N) (h600 : 600 ≤ ln (tx + 1)) : ∀ j, (TB R (tpF R N) N e).1 + j < (TB R (tpF R N) N (e + 1)).1 → ((lnsT R (tpF R N) N (TB R (tpF R N) N e).1 j).length : Int) + 185 + 13 * (TB R (tpF R N) N N).2 3 ((TB R (tpF R N) N e).1 + j) + (if (TB R (tpF R N) N N).2 4 ((TB R (tpF R N) N e).1 + j) = 0 then 12 else 0) ≤ ln (tx + 1) := by
  have h0 := tpF_b hw hK
  intro j hj
  have hE := (TB_e hw hK h0 he).2.1
  have hwc := (hw.sec he).2.2.2.1
  have hl := ent_len hw hK h0 he j hj
  have hf := (LF.of hw hK h0 he (i := (TB R (tpF R N) N e).1 + j) (by omega) hj).2.2.2.2.1
  split <;> split at hl <;> omega
theorem cap_one (hw : WB K R N fr) (hK : K ≤ 600) {i : Nat} (hi : i < (TB R (tpF R N) N N).1) (h600 : 600 ≤ ln (tx + 1)) : ∀ j, i + j < i + 1 → ((lnsT R (tpF R N) N i j).length : Int) + 185 + 13 * (TB R (tpF R N) N N).2 3 (i + j) + (if (TB R (tpF R N) N N).2 4 (i + j) = 0 then 12 else 0) ≤ ln (tx + 1) := by
  have h0 := tpF_b hw hK
  intro j hj
  have ej : j = 0 := by omega
  subst ej
  obtain ⟨e, hf⟩ := LF.ex hw hK h0 hi
  have hwc := (hw.sec hf.1.1).2.2.2.1
  have h8 := hf.2.2.2.2.1
  rw [Nat.add_zero]
  show ((0 : Nat) : Int) + _ + _ + _ ≤ _
  split <;> omega
theorem cap_all (hw : WB K R N fr) (hK : K ≤ 600) (h600 : 14400 ≤ ln (tx + 1)) : ∀ j, 0 + j < (TB R (tpF R N) N N).1 → ((lnsT R (tpF R N) N 0 j).length : Int) + 185 + 13 * (TB R (tpF R N) N N).2 3 (0 + j) + (if (TB R (tpF R N) N N).2 4 (0 + j) = 0 then 12 else 0) ≤ ln (tx + 1) := by
  have h0 := tpF_b hw hK
  have hN := hw.1
  intro j hj
  rw [Nat.zero_add] at hj ⊢
  obtain ⟨e, hf⟩ := LF.ex hw hK h0 hj
  have he := hf.1.1
  have h1 := tab_len hw hK h0 e (by omega)
  have hs := lnsT_app (R := R) (tp := tpF R N) (N := N) 0 (j - (TB R (tpF R N) N e).1) (TB R (tpF R N) N e).1
  have hfi := hf.1
  rw [show (TB R (tpF R N) N e).1 + (j - (TB R (tpF R N) N e).1) = j by omega, Nat.zero_add] at hs
  have hc := cap_ent (tx := 140) hw hK he (by decide) (j - (TB R (tpF R N) N e).1) (by omega)
  rw [show (TB R (tpF R N) N e).1 + (j - (TB R (tpF R N) N e).1) = j by omega] at hc
  have l600 : ln (140 + 1) = 600 := rfl
  rw [hs, List.length_append]
  omega
end TYP
