/-! ALL LAID, by rounds: both sides -/
def itsT (R : Nat → Int) (tp : Int) (N : Nat) : Int := ((TB R tp N N).1 + R 1 - 1) / R 1
def rds (R : Nat → Int) (N : Nat) : Nat → Int → Int → Int × Int
  | 0, _, g => (g, 0)
  | k + 1, tp, g => if itsT R tp N = tp then (tp, 1) else ((rds R N k (itsT R tp N) (if g < itsT R tp N then itsT R tp N else g)).1, (rds R N k (itsT R tp N) (if g < itsT R tp N then itsT R tp N else g)).2 + 1)
def tpF (R : Nat → Int) (N : Nat) : Int := if N = 0 then 0 else (rds R N 8 1 0).1
def rnF (R : Nat → Int) (N : Nat) : Int := if N = 0 then 0 else (rds R N 8 1 0).2
section LAY
variable {n q t kb : Nat} {R : Nat → Int} {K : Int} {N fr : Nat} {tp : Int}
theorem itsT_b (hw : WB K R N fr) (hK : K ≤ 600) (h0 : 0 ≤ tp ∧ tp ≤ 100) : 0 ≤ itsT R tp N ∧ itsT R tp N ≤ 100 := by
  have h1 := hw.1
  have hR := hw.2.2.1
  have hT := TB_n hw hK h0 N (Nat.le_refl _)
  unfold itsT
  constructor
  · exact Int.ediv_nonneg (by omega) (by omega)
  · have e : (((TB R tp N N).1 : Int) + R 1 - 1) / R 1 * R 1 ≤ (TB R tp N N).1 + R 1 - 1 := Int.ediv_mul_le _ (by omega)
    have e0 : 0 ≤ (((TB R tp N N).1 : Int) + R 1 - 1) / R 1 := Int.ediv_nonneg (by omega) (by omega)
    rcases Int.lt_or_le 100 ((((TB R tp N N).1 : Int) + R 1 - 1) / R 1) with z | z
    · exfalso
      have : 101 * R 1 ≤ (((TB R tp N N).1 : Int) + R 1 - 1) / R 1 * R 1 := Int.mul_le_mul_of_nonneg_right (by omega) (by omega)
      omega
    · exact z
theorem rds_b (hw : WB K R N fr) (hK : K ≤ 600) : ∀ (k : Nat) (tp g : Int), 0 ≤ tp ∧ tp ≤ 100 → 0 ≤ g ∧ g ≤ 100 → 0 ≤ (rds R N k tp g).1 ∧ (rds R N k tp g).1 ≤ 100 ∧ 0 ≤ (rds R N k tp g).2 ∧ (rds R N k tp g).2 ≤ k := by
  intro k
  induction k with
  | zero => intro tp g h1 h2; exact ⟨h2.1, h2.2, Int.le_refl _, Int.le_refl _⟩
  | succ k ih =>
    intro tp g h1 h2
    have hi := itsT_b hw hK h1
    rw [rds]
    split
    · exact ⟨h1.1, h1.2, by show (0 : Int) ≤ 1; omega, by show (1 : Int) ≤ ((k + 1 : Nat) : Int); omega⟩
    · have := ih (itsT R tp N) (if g < itsT R tp N then itsT R tp N else g) hi (by split <;> omega)
      refine ⟨this.1, this.2.1, ?_, ?_⟩
      · show 0 ≤ _ + 1
        omega
      · show _ + 1 ≤ ((k + 1 : Nat) : Int)
        omega
theorem tpF_b (hw : WB K R N fr) (hK : K ≤ 600) : 0 ≤ tpF R N ∧ tpF R N ≤ 100 := by
  have := rds_b hw hK 8 1 0 (by omega) (by omega)
  unfold tpF
  split
  · omega
  · omega
/-! the class -/
def okLy (t : Nat) : Prop := okMe (t + 1) ∧ okPg (t + 14) ∧ okTb (t + 23)
def LY (t : Nat) (μ : Mm) (R : Nat → Int) (N fr : Nat) : Prop := okLy t ∧ ME (t + 1) μ R N ∧ PC (t + 14) μ R (tpF R N) N fr ∧ CT (t + 23) μ R (tpF R N) N ∧ μ.1 t 3 = jv (tpF R N) ∧ μ.1 t 4 = jv (rnF R N)
theorem LY.kp {μ μ' : Mm} {P : Nat → Nat → Prop} (h : LY t μ R N fr) (hf : Fm P μ μ') (hp : ∀ q j, t ≤ q → q < t + 42 → ¬ P q j) : LY t μ' R N fr := by
  obtain ⟨h1, h2, h3, h4, h5, h6⟩ := h
  refine ⟨h1, h2.fr hf (fun q j a b => hp q j (by omega) (by omega)), h3.kp hf (fun q j a b => hp q j (by omega) (by omega)), h4.kp hf (fun q j a b => hp q j (by omega) (by omega)), ?_, ?_⟩
  · rw [hf.2 _ _ (hp _ _ (by omega) (by omega))]; exact h5
  · rw [hf.2 _ _ (hp _ _ (by omega) (by omega))]; exact h6
abbrev PLy (t : Nat) : Nat → Nat → Prop := fun k _ => t ≤ k ∧ k < t + 42
theorem one8 (hn : 30 ≤ n) (hw : WB K R N fr) (hK : K ≤ 600) (h0 : 0 ≤ tp ∧ tp ≤ 100) (ho : okLy t) (hkt : kb + 12 < t) {μ : Mm} (hb : CB kb μ R N fr) (hm : ME (t + 1) μ R N) {f : Mm → Option Mm} : ∃ μ1, ((sh_X3_lay n (t + 14) kb (jv tp) μ).bind fun r6 => (sh_X7_lay n (t + 23) kb (t + 1) (t + 14) r6).bind f) = f μ1 ∧ Fm (fun k _ => t + 14 ≤ k ∧ k < t + 42) μ μ1 ∧ PC (t + 14) μ1 R tp N fr ∧ CT (t + 23) μ1 R tp N := by
  obtain ⟨μ1, a1, f1, p1⟩ := lyP (n := n) (t := t + 14) hn hw hK ho.2.1 (by omega) h0 hb
  have hb1 := hb.fr f1 (fun q j a b z => by omega)
  have hm1 := hm.fr f1 (fun q j a b z => by omega)
  obtain ⟨μ2, a2, f2, p2⟩ := lyT (n := n) (t := t + 23) (m := t + 1) (p := t + 14) hn hw hK h0 ho.2.2 (by omega) (by omega) (by omega) hb1 hm1 p1
  refine ⟨μ2, ?_, (f1.mono (fun k j z => (by omega : t + 14 ≤ k ∧ k < t + 42))).tr f2 (fun k j z => (by omega : t + 14 ≤ k ∧ k < t + 42)), p1.kp f2 (fun q j a b z => by omega), p2⟩
  rw [a1, Option.bind_some, a2, Option.bind_some]
theorem lay21 (hn : 30 ≤ n) (hw : WB K R N fr) (hK : K ≤ 600) (hN : 0 < N) (ho : okLy t) (hkt : kb + 12 < t) : ∀ (j f : Nat) (i tp g : Int) (μ : Mm), i + j = 8 → 0 ≤ i → j < f → 0 ≤ tp ∧ tp ≤ 100 → 0 ≤ g ∧ g ≤ 100 → CB kb μ R N fr → ME (t + 1) μ R N → μ.1 t 3 = jv tp → μ.1 t 4 = jv i → ∃ μ1, sh_X1_lay_21 n t kb f (jv g) (jv i) μ = some μ1 ∧ Fm (PLy t) μ μ1 ∧ ME (t + 1) μ1 R N ∧ PC (t + 14) μ1 R (rds R N j tp g).1 N fr ∧ CT (t + 23) μ1 R (rds R N j tp g).1 N ∧ μ1.1 t 3 = jv (rds R N j tp g).1 ∧ μ1.1 t 4 = jv (i + (rds R N j tp g).2) := by
  have h1 := hw.1
  intro j
  induction j with
  | zero =>
    intro f i tp g μ hi hi0 hf h0 hg hb hm e3 e4
    obtain ⟨f, rfl⟩ : ∃ g, f = g + 1 := ⟨f - 1, by omega⟩
    rw [sh_X1_lay_21, if_pos (by rw [jv_lit (nat_lit 8), jv_le] <;> omega), pt_eq, Option.bind_some, sI_1, if_pos ⟨rfl, rfl⟩]
    have hf1 : Fm (PLy t) μ (sI μ t 3 (jv g)) := Fm.rf.sI (by omega)
    obtain ⟨μ1, a, b, c, d⟩ := one8 (n := n) hn hw hK hg ho hkt (hb.fr hf1 (fun q j a b z => by omega)) (hm.fr (P := fun k _ => k = t) (Fm.rf.sI rfl) (fun q j a b z => by omega)) (f := fun r5 => some r5)
    refine ⟨μ1, a, hf1.tr b (fun k j z => (by omega : t ≤ k ∧ k < t + 42)), (hm.fr (P := fun k _ => k = t) (Fm.rf.sI rfl) (fun q j a b z => by omega)).fr b (fun q j a b z => by omega), c, d, ?_, ?_⟩
    · rw [b.at _ _ (by omega), sI_1, if_pos ⟨rfl, rfl⟩]
      rfl
    · rw [b.at _ _ (by omega), sI_1, if_neg (by omega), e4]
      show jv i = jv (i + 0)
      rw [Int.add_zero]
  | succ j ih =>
    intro f i tp g μ hi hi0 hf h0 hg hb hm e3 e4
    obtain ⟨f, rfl⟩ : ∃ g, f = g + 1 := ⟨f - 1, by omega⟩
    have hit := itsT_b hw hK h0
    have hT := TB_n hw hK h0 N (Nat.le_refl _)
    have hR := hw.2.2.1
    rw [sh_X1_lay_21, if_neg (by rw [jv_lit (nat_lit 8), jv_le] <;> omega), e3]
    obtain ⟨μ1, a, b, c, d⟩ := one8 (n := n) hn hw hK h0 ho hkt hb hm (f := fun r7 => (pt r7 t 4 ((r7.1 t 4) + (if (1 : Int32) < (r7.1 kb 2) then (1 : Int32) else (r7.1 kb 2)))).bind fun μ8 => (sh_X5_at (kb + 1) (1 : Int32) μ8).bind fun r9 => (sh_X11_quotientUp (μ8.1 (t + 23) 2) r9 μ8).bind fun r10 => if r10 = (μ8.1 t 3) then some μ8 else nm ((if jv g < r10 then r10 else jv g)) fun v11 => (pt μ8 t 3 r10).bind fun μ12 => sh_X1_lay_21 n t kb f v11 (jv i + (1 : Int32)) μ12)
    rw [a]
    have hb1 := hb.fr b (fun q j a b z => by omega)
    have hm1 := hm.fr b (fun q j a b z => by omega)
    have emin : (if (1 : Int32) < μ1.1 kb 2 then (1 : Int32) else μ1.1 kb 2) = jv 1 := by
      rw [hb1.2.2.1.2.1, jv_lit (nat_lit 1)]
      by_cases z : (1 : Int) < N
      · rw [if_pos (by rw [jv_lt] <;> omega)]
      · rw [if_neg (by rw [jv_lt] <;> omega), show (N : Int) = 1 by omega]
    rw [emin, b.at _ _ (by omega), e4, jv_add, pt_eq, Option.bind_some]
    have hf2 : Fm (fun k _ => k = t) μ1 (sI μ1 t 4 (jv (i + 1))) := Fm.rf.sI rfl
    have v4 : (sI μ1 t 4 (jv (i + 1))).1 t 4 = jv (i + 1) := by rw [sI_1, if_pos ⟨rfl, rfl⟩]
    have v3 : (sI μ1 t 4 (jv (i + 1))).1 t 3 = jv tp := by rw [sI_1, if_neg (by omega), b.at _ _ (by omega), e3]
    have vT : (sI μ1 t 4 (jv (i + 1))).1 (t + 23) 2 = jv (TB R tp N N).1 := by rw [sI_1, if_neg (by omega)]; exact d.2.1.1
    have hb2 := hb1.fr hf2 (fun q j a b z => by omega)
    have hm2 := hm1.fr hf2 (fun q j a b z => by omega)
    have hp2 := c.kp hf2 (fun q j a b z => by omega)
    have hc2 := d.kp hf2 (fun q j a b z => by omega)
    have g2 : Fm (PLy t) μ (sI μ1 t 4 (jv (i + 1))) := (b.mono (fun k j z => (by omega : t ≤ k ∧ k < t + 42))).sI (by omega)
    generalize (sI μ1 t 4 (jv (i + 1))) = μ2 at *
    rw [jv_lit (nat_lit 1), hb2.s1, Option.bind_some, vT, qU_in (by omega) (by omega) (by omega), Option.bind_some, v3]
    have ei : (((TB R tp N N).1 : Int) + R 1 - 1) / R 1 = itsT R tp N := rfl
    rw [ei]
    by_cases z : itsT R tp N = tp
    · rw [if_pos (by rw [z])]
      have er : rds R N (j + 1) tp g = (tp, 1) := by rw [rds, if_pos z]
      rw [er]
      exact ⟨μ2, rfl, g2, hm2, hp2, hc2, v3, v4⟩
    · rw [if_neg (by rw [jv_eq] <;> omega), nm_eq, pt_eq, Option.bind_some, jv_add]
      have er : rds R N (j + 1) tp g = ((rds R N j (itsT R tp N) (if g < itsT R tp N then itsT R tp N else g)).1, (rds R N j (itsT R tp N) (if g < itsT R tp N then itsT R tp N else g)).2 + 1) := by rw [rds, if_neg z]
      have eg : (if jv g < jv (itsT R tp N) then jv (itsT R tp N) else jv g) = jv (if g < itsT R tp N then itsT R tp N else g) := by
        by_cases y : g < itsT R tp N
        · rw [if_pos (by rw [jv_lt] <;> omega), if_pos y]
        · rw [if_neg (by rw [jv_lt] <;> omega), if_neg y]
      rw [eg, er]
      have hf3 : Fm (fun k _ => k = t) μ2 (sI μ2 t 3 (jv (itsT R tp N))) := Fm.rf.sI rfl
      obtain ⟨μ3, a3, b3, c3, d3, k3, l3, m3⟩ := ih f (i + 1) (itsT R tp N) (if g < itsT R tp N then itsT R tp N else g) (sI μ2 t 3 (jv (itsT R tp N))) (by omega) (by omega) (by omega) hit (by split <;> omega) (hb2.fr hf3 (fun q j a b z => by omega)) (hm2.fr hf3 (fun q j a b z => by omega)) (by rw [sI_1, if_pos ⟨rfl, rfl⟩]) (by rw [sI_1, if_neg (by omega)]; exact v4)
      refine ⟨μ3, a3, (g2.tr hf3 (fun k j z => (by omega : t ≤ k ∧ k < t + 42))).tr b3 (fun _ _ z => z), c3, d3, k3, l3, ?_⟩
      rw [m3]
      congr 1
      show i + 1 + _ = i + (_ + 1)
      omega
theorem layC (hn : 30 ≤ n) (hw : WB K R N fr) (hK : K ≤ 600) (ho : okLy t) (hkt : kb + 12 < t) {μ : Mm} (hb : CB kb μ R N fr) (hm : ME (t + 1) μ R N) : ∃ μ1, sh_X1_lay n t kb μ = some μ1 ∧ Fm (PLy t) μ μ1 ∧ LY t μ1 R N fr := by
  have h1 := hw.1
  unfold sh_X1_lay
  simp only [jv_lit]
  rw [pt_eq, Option.bind_some, pt_eq, Option.bind_some]
  have emin : (if jv 1 < (sI μ t 4 (jv 0)).1 kb 2 then jv 1 else (sI μ t 4 (jv 0)).1 kb 2) = jv (if N = 0 then 0 else 1) := by
    have e : (sI μ t 4 (jv 0)).1 kb 2 = jv N := by
      rw [sI_1, if_neg (by omega)]
      exact hb.2.2.1.2.1
    rw [e]
    by_cases z : (1 : Int) < N
    · rw [if_pos (by rw [jv_lt] <;> omega), if_neg (by omega)]
    · rw [if_neg (by rw [jv_lt] <;> omega)]
      by_cases y : N = 0
      · rw [if_pos y, y]
        rfl
      · rw [if_neg y, show (N : Int) = 1 by omega]
  rw [emin]
  have hf0 : Fm (fun k _ => k = t) μ (sI (sI μ t 4 (jv 0)) t 3 (jv (if N = 0 then 0 else 1))) := Fm.sI (P := fun k _ => k = t) (Fm.sI (P := fun k _ => k = t) Fm.rf rfl) rfl
  have e3 : (sI (sI μ t 4 (jv 0)) t 3 (jv (if N = 0 then 0 else 1))).1 t 3 = jv (if N = 0 then 0 else 1) := by rw [sI_1, if_pos ⟨rfl, rfl⟩]
  have e4 : (sI (sI μ t 4 (jv 0)) t 3 (jv (if N = 0 then 0 else 1))).1 t 4 = jv 0 := by rw [sI_1, if_neg (by omega), sI_1, if_pos ⟨rfl, rfl⟩]
  have hb0 := hb.fr hf0 (fun q j a b z => by omega)
  have hm0 := hm.fr hf0 (fun q j a b z => by omega)
  have g0 : Fm (PLy t) μ (sI (sI μ t 4 (jv 0)) t 3 (jv (if N = 0 then 0 else 1))) := hf0.mono (fun k j z => (by omega : t ≤ k ∧ k < t + 42))
  generalize (sI (sI μ t 4 (jv 0)) t 3 (jv (if N = 0 then 0 else 1))) = μ0 at *
  by_cases z : N = 0
  · rw [if_pos z] at e3
    obtain ⟨m, rfl⟩ : ∃ m, n = m + 1 := ⟨n - 1, by omega⟩
    have htp : tpF R N = 0 := by unfold tpF; rw [if_pos z]
    have hrn : rnF R N = 0 := by unfold rnF; rw [if_pos z]
    rw [sh_X1_lay_21, if_neg (by rw [jv_lit (nat_lit 8), jv_le] <;> omega), e3]
    obtain ⟨μ1, a, b, c, d⟩ := one8 (n := m + 1) hn hw hK (tp := 0) (by omega) ho hkt hb0 hm0 (f := fun r7 => (pt r7 t 4 ((r7.1 t 4) + (if (1 : Int32) < (r7.1 kb 2) then (1 : Int32) else (r7.1 kb 2)))).bind fun μ8 => (sh_X5_at (kb + 1) (1 : Int32) μ8).bind fun r9 => (sh_X11_quotientUp (μ8.1 (t + 23) 2) r9 μ8).bind fun r10 => if r10 = (μ8.1 t 3) then some μ8 else nm ((if jv 0 < r10 then r10 else jv 0)) fun v11 => (pt μ8 t 3 r10).bind fun μ12 => sh_X1_lay_21 (m + 1) t kb m v11 (jv 0 + (1 : Int32)) μ12)
    rw [a]
    have hb1 := hb0.fr b (fun q j a b z => by omega)
    have hm1 := hm0.fr b (fun q j a b z => by omega)
    have emin : (if (1 : Int32) < μ1.1 kb 2 then (1 : Int32) else μ1.1 kb 2) = jv 0 := by
      rw [hb1.2.2.1.2.1, jv_lit (nat_lit 1), if_neg (by rw [jv_lt] <;> omega), z]
      rfl
    rw [emin, b.at _ _ (by omega), e4, jv_add, pt_eq, Option.bind_some]
    have hf2 : Fm (fun k _ => k = t) μ1 (sI μ1 t 4 (jv (0 + 0))) := Fm.rf.sI rfl
    have hR := hw.2.2.1
    have vT : (sI μ1 t 4 (jv (0 + 0))).1 (t + 23) 2 = jv 0 := by
      rw [sI_1, if_neg (by omega), d.2.1.1, z]
      rfl
    have v3 : (sI μ1 t 4 (jv (0 + 0))).1 t 3 = jv 0 := by rw [sI_1, if_neg (by omega), b.at _ _ (by omega), e3]
    rw [jv_lit (nat_lit 1), (hb1.fr hf2 (fun q j a b z => by omega)).s1, Option.bind_some, vT, qU_in (by omega) (by omega) (by omega), Option.bind_some, v3, Int.ediv_eq_zero_of_lt (by omega) (by omega), if_pos rfl]
    refine ⟨_, rfl, (g0.tr b (fun k j z => (by omega : t ≤ k ∧ k < t + 42))).tr hf2 (fun k j z => (by omega : t ≤ k ∧ k < t + 42)), ho, hm1.fr hf2 (fun q j a b z => by omega), ?_, ?_, ?_, ?_⟩
    · rw [htp]
      exact c.kp hf2 (fun q j a b z => by omega)
    · rw [htp]
      exact d.kp hf2 (fun q j a b z => by omega)
    · rw [htp]
      exact v3
    · rw [hrn, sI_1, if_pos ⟨rfl, rfl⟩]
      rfl
  · rw [if_neg z] at e3
    obtain ⟨μ1, a, b, c, d, e, f3, f4⟩ := lay21 (n := n) hn hw hK (by omega) ho hkt 8 n 0 1 0 μ0 (by omega) (by omega) (by omega) (by omega) (by omega) hb0 hm0 e3 e4
    have htp : tpF R N = (rds R N 8 1 0).1 := by unfold tpF; rw [if_neg z]
    have hrn : rnF R N = (rds R N 8 1 0).2 := by unfold rnF; rw [if_neg z]
    refine ⟨μ1, a, g0.tr b (fun _ _ z => z), ho, c, ?_, ?_, ?_, ?_⟩
    · rw [htp]; exact d
    · rw [htp]; exact e
    · rw [htp]; exact f3
    · rw [hrn, f4, Int.zero_add]
theorem layA (hn : 30 ≤ n) (hw : WB K R N fr) (hK : K ≤ 600) (ho : okLy t) (hkt : kb + 12 < t) {μ : Mm} (hb : CB kb μ R N fr) : ∃ μ1, sh_X1_layAnew n t kb μ = some μ1 ∧ Fm (PLy t) μ μ1 ∧ LY t μ1 R N fr := by
  obtain ⟨μ1, a, b, c⟩ := me8 (n := n) (m := t + 1) hn hw (by omega) hb ho.1
  obtain ⟨μ2, a2, b2, c2⟩ := layC (n := n) hn hw hK ho hkt (hb.fr b (fun q j x y z => by omega)) c
  refine ⟨μ2, ?_, (b.mono (fun k j z => (by omega : t ≤ k ∧ k < t + 42))).tr b2 (fun _ _ z => z), c2⟩
  unfold sh_X1_layAnew
  rw [a, Option.bind_some, a2, Option.bind_some]
end LAY
