/-! WHAT WOULD BE: another length, another width -/
section WIF
variable {n : Nat} {R : Nat → Int} {N fr : Nat}
/-- the trial: a copy of the book, measured -/
def TRI (μ : Mm) (R : Nat → Int) (N fr : Nat) (R' : Nat → Int) : Prop := WB 600 R' N fr ∧ CB 85 μ R' N fr ∧ ME 99 μ R' N
theorem okT85 : okB 85 := ⟨rfl, rfl, rfl, rfl, rfl, rfl⟩
theorem okL98 : okLy 98 := ⟨⟨rfl, rfl, rfl, rfl, rfl, rfl⟩, ⟨rfl, rfl, rfl, rfl⟩, ⟨rfl, rfl, rfl, rfl, rfl, rfl, rfl, rfl, rfl⟩⟩
theorem WB.up (hw : WB 500 R N fr) : WB 600 R N fr := by
  obtain ⟨a0, a1, a2, a3, a4, a5, a6, a7, a8, a9, a10⟩ := hw
  refine ⟨a0, a1, a2, a3, a4, a5, a6, a7, a8, a9, fun j hj => ?_⟩
  obtain ⟨b1, b2, b3, b4, b5, b6⟩ := a10 j hj
  exact ⟨b1, b2, ⟨b3.1, by omega⟩, b4, b5, b6⟩
abbrev PTR : Nat → Nat → Prop := fun k _ => 85 ≤ k ∧ k ≤ 139
theorem sTr (hn : 200 ≤ n) {μ : Mm} (hq : QS μ R N fr) : ∃ μ1, sh_X11_startTrial n μ = some μ1 ∧ TRI μ1 R N fr R ∧ Fw PTR (fun k => k = 95) μ μ1 := by
  obtain ⟨μ1, e1, b1, _, f1⟩ := tkB (t := 85) (a := 11) (by omega) okT85 hq.1 hq.2.1
  obtain ⟨μ2, e2, f2, m2⟩ := me8 (n := n) (m := 99) (kb := 85) (by omega) hq.1 (by omega) b1 okL98.1
  unfold sh_X11_startTrial
  rw [e1, Option.bind_some, e2, Option.bind_some]
  refine ⟨μ2, rfl, ⟨hq.1.up, b1.fr f2 (fun q j a b y => by omega), m2⟩, (f1.mono (fun k j y => by omega) (fun k y => by omega)).tr (Fw.of (Q := fun k => k = 95) f2) (fun k j y => by omega) (fun _ y => y)⟩
/-- the trial laid with another length -/
theorem TRI.len (hn : 40 ≤ n) {μ : Mm} {R' : Nat → Int} (h : TRI μ R N fr R') {s : Nat} (hs : s < N) {v : Int} (hv : 0 ≤ v ∧ v ≤ 600) : ∃ μ0 μ1, sh_X5_put 90 (jv s) (jv v) μ = some μ0 ∧ sh_X1_lay n 98 85 μ0 = some μ1 ∧ TRI μ1 R N fr (bup R' (12 + 102 * s + 1) v) ∧ LY 98 μ1 (bup R' (12 + 102 * s + 1) v) N fr ∧ Fm PTR μ μ1 := by
  obtain ⟨hw, hb, hm⟩ := h
  obtain ⟨μ0, e0, b0, f0⟩ := hb.len hw hs (v := v)
  have hw2 := hw.len (s := s) (Int.le_refl 600) hv
  have m0 : ME 99 μ0 (bup R' (12 + 102 * s + 1) v) N := (hm.up hw (Or.inr ⟨s, rfl⟩)).fr f0 (fun q j a b y => by omega)
  obtain ⟨μ1, e1, f1, y1⟩ := layC (n := n) (t := 98) (kb := 85) (by omega) hw2 (by omega) okL98 (by omega) b0 m0
  exact ⟨μ0, μ1, e0, e1, ⟨hw2, b0.fr f1 (fun q j a b y => by omega), y1.2.1⟩, y1, (f0.mono (fun k j y => by omega)).tr f1 (fun k j y => by omega)⟩
theorem TRI.wid (hn : 40 ≤ n) {μ : Mm} {R' : Nat → Int} (h : TRI μ R N fr R') {v : Int} (hv : 20 ≤ v ∧ v ≤ 120) : ∃ μ0 μ1, sh_X5_put 86 (jv 0) (jv v) μ = some μ0 ∧ sh_X1_lay n 98 85 μ0 = some μ1 ∧ TRI μ1 R N fr (bup R' 0 v) ∧ LY 98 μ1 (bup R' 0 v) N fr ∧ Fm PTR μ μ1 := by
  obtain ⟨hw, hb, hm⟩ := h
  obtain ⟨μ0, e0, b0, f0⟩ := hb.wid hw (v := v)
  have hw2 := hw.wid hv
  have m0 : ME 99 μ0 (bup R' 0 v) N := (hm.up hw (Or.inl rfl)).fr f0 (fun q j a b y => by omega)
  obtain ⟨μ1, e1, f1, y1⟩ := layC (n := n) (t := 98) (kb := 85) (by omega) hw2 (by omega) okL98 (by omega) b0 m0
  exact ⟨μ0, μ1, e0, e1, ⟨hw2, b0.fr f1 (fun q j a b y => by omega), y1.2.1⟩, y1, (f0.mono (fun k j y => by omega)).tr f1 (fun k j y => by omega)⟩
/-! the model's -/
theorem seM {μ : Mm} (hm : MB 307 μ R) {s : Nat} (hs : s < 24) (v : Int) : sh_X12_set (jv s) (jv 1) (jv v) μ = some (sI μ 307 (12 + 102 * s + 1) (jv v)) := by
  have l1 : ln 307 = 18701 := rfl
  unfold sh_X12_set
  simp only [jv_lit]
  rw [hm.2.1, jv_mul, jv_add, jv_add, st_jv (by omega) (by omega), Option.bind_some, show (12 + 102 * (s : Int) + 1).toNat = 12 + 102 * s + 1 by omega]
/-- all but one cell of the net -/
abbrev PNE (c : Nat) : Nat → Nat → Prop := fun k j => PQ k j ∨ k = 307 ∧ j = c
theorem back {μ μ1 : Mm} {c : Nat} (hc : c < 2460) (hm : MB 307 μ R) (hf : Fm (PNE c) μ μ1) : Fm PQ μ (sI μ1 307 c (jv (R c))) := by
  refine ⟨hf.1, fun k j q => ?_⟩
  rw [sI_1]
  by_cases z : k = 307 ∧ j = c
  · rw [if_pos z, z.1, z.2, hm.2.2 c hc]
  · rw [if_neg z, hf.at _ _ (by omega)]
theorem ckLen {μ : Mm} {a : Int} (ha : i32 a) : sh_X11_checkLength (jv a) μ = some (if 0 ≤ a ∧ a ≤ 500 then .inr () else .inl 1) := by
  unfold i32 at ha
  unfold sh_X11_checkLength sh_X11_checkLength_11
  simp only [jv_lit]
  by_cases z : a < 0
  · rw [if_pos (by rw [jv_lt] <;> omega), if_neg (by omega)]
  · rw [if_neg (by rw [jv_lt] <;> omega)]
    by_cases y : a ≤ 500
    · rw [if_pos (by rw [jv_le] <;> omega), if_pos ⟨by omega, y⟩]
    · rw [if_neg (by rw [jv_le] <;> omega), if_neg (by omega)]
theorem PTR_V : ∀ k j, PTR k j → PV k j := fun k j h => by omega
theorem Q95 : ∀ k : Nat, k = 95 → QV k := fun k h => by omega
theorem q_pagesIf (hn : 16001 ≤ n) {μ : Mm} (hq : QS μ R N fr) (a b : Int32) : Qv [2, 1] μ (sh_X11_pagesIf n a b μ) (sh_X12_pagesIf n a b) := by
  have hw := hq.1
  have hN := hw.1
  obtain ⟨z, h1, h2, rfl⟩ := jv_ex a
  obtain ⟨y, h3, h4, rfl⟩ := jv_ex b
  unfold sh_X11_pagesIf
  rw [ckS hq ⟨h1, h2⟩, Option.bind_some, ckLen ⟨h3, h4⟩, Option.bind_some]
  have eM : ∀ ν : Mm, MB 307 ν R → sh_X12_pagesIf n (jv z) (jv y) ν = if 0 ≤ z ∧ z < N then (if 0 ≤ y ∧ y ≤ 500 then (sh_X12_of (jv z) (jv 1) (sI ν 306 0 (jv 0))).bind fun r4 => (sh_X12_set (jv z) (jv 1) (jv y) (sI ν 306 0 (jv 0))).bind fun r5 => (sh_X12_lay n r5).bind fun r6 => (sh_X12_set (jv z) (jv 1) r4 r6).bind fun r7 => some ((r7.1 306 24), r7) else some (jv 0, sI ν 306 0 (jv 2))) else some (jv 0, sI ν 306 0 (jv 1)) := by
    intro ν hν
    unfold sh_X12_pagesIf
    rw [isS hν hw ⟨h1, h2⟩, Option.bind_some, li0, li500, in_b ⟨h3, h4⟩ (by unfold i32; omega) (by unfold i32; omega), Option.bind_some, pas2, Option.bind_some]
    simp only [jv_lit]
    by_cases hz : 0 ≤ z ∧ z < N
    · by_cases hy : 0 ≤ y ∧ y ≤ 500
      · rw [if_pos (⟨hz, hy⟩ : (0 ≤ z ∧ z < N) ∧ 0 ≤ y ∧ y ≤ 500), if_neg (show ¬ jv 1 = jv 0 by decide), if_pos hz, if_pos hz, if_pos hy, if_pos hy]
      · rw [if_neg (fun q : (0 ≤ z ∧ z < N) ∧ 0 ≤ y ∧ y ≤ 500 => hy q.2), if_pos (show jv 0 = jv 0 from rfl), if_pos hz, if_pos hz, if_neg hy, if_neg hy]
    · rw [if_neg (fun q : (0 ≤ z ∧ z < N) ∧ 0 ≤ y ∧ y ≤ 500 => hz q.1), if_pos (show jv 0 = jv 0 from rfl), if_neg hz, if_neg hz]
  have ft : ∀ v : Int32, Fw PV QV μ (sI μ 306 0 v) := fun v => Fw.of (Fm.rf.sI (by omega))
  by_cases hz : 0 ≤ z ∧ z < N
  · obtain ⟨s, rfl⟩ : ∃ s : Nat, z = s := ⟨z.toNat, by omega⟩
    have hs : s < N := by omega
    rw [if_pos hz, Sum.elim_inr]
    by_cases hy : 0 ≤ y ∧ y ≤ 500
    · rw [if_pos hy, Sum.elim_inr]
      obtain ⟨μ1, e1, t1, f1⟩ := sTr (n := n) (by omega) hq
      obtain ⟨μ2, μ3, e2, e3, t3, y3, f3⟩ := t1.len (n := n) (by omega) hs (v := y) (by omega)
      rw [e1, Option.bind_some, e2, Option.bind_some, e3, Option.bind_some]
      have F1 : Fw PV QV μ μ3 := (f1.mono PTR_V Q95).tr (Fw.of (Q := QV) f3) PTR_V (fun _ y => y)
      have hm3 := hq.2.2.2.fw F1 (fun i _ => by omega)
      have hm4 := hm3.r00 (v := jv 0)
      have f4 : Fm PQ μ3 (sI μ3 306 0 (jv 0)) := Fm.rf.sI (by omega)
      have hm5 : MB 307 (sI (sI μ3 306 0 (jv 0)) 307 (12 + 102 * s + 1) (jv y)) (bup R (12 + 102 * s + 1) y) := hm4.up (by omega)
      obtain ⟨μ6, e6, y6, f6⟩ := layMM (n := n) hn t3.1 (by omega) hm5
      have hm6 := hm5.fr f6 (fun i _ => by omega)
      have G : Fm (PNE (12 + 102 * s + 1)) μ3 μ6 := ((f4.mono (fun k j y => Or.inl y)).sI (Or.inr ⟨rfl, rfl⟩)).tr f6 (fun k j y => Or.inl (PMY_Q k j y))
      have B := back (c := 12 + 102 * s + 1) (by omega) hm3 G
      have th : (sI μ6 307 (12 + 102 * s + 1) (jv (lng R s))).1 306 0 = jv 0 := by
        rw [sI_1, if_neg (by omega), f6.at _ _ (by omega), sI_1, if_neg (by omega), sI_1, if_pos ⟨rfl, rfl⟩]
      refine ⟨.inr (jv (lsP (bup R (12 + 102 * s + 1) y) (tpF (bup R (12 + 102 * s + 1) y) N) N fr)), μ3, jv (lsP (bup R (12 + 102 * s + 1) y) (tpF (bup R (12 + 102 * s + 1) y) N) N fr), sI μ6 307 (12 + 102 * s + 1) (jv (lng R s)), ?_, ?_, F1.tr (Fw.of (Q := QV) B) (fun k j y => Or.inl y) (fun _ y => y), th, rfl⟩
      · rw [show (112 : Nat) = 98 + 14 from rfl, y3.2.2.1.2.2.2]
        rfl
      · rw [eM μ3 hm3, if_pos hz, if_pos hy, hm4.oN (by omega), Option.bind_some, seM hm4 (by omega), Option.bind_some, e6, Option.bind_some, seM hm6 (by omega), Option.bind_some, sI_1, if_neg (by omega), y6.2.1.1.2.2]
    · rw [if_neg hy]
      exact ⟨.inl 1, μ, jv 0, sI μ 306 0 (jv 2), rfl, by rw [eM μ hq.2.2.2, if_pos hz, if_neg hy], ft _, 1, rfl, by rw [sI_1, if_pos ⟨rfl, rfl⟩]; rfl⟩
  · rw [if_neg hz]
    exact ⟨.inl 2, μ, jv 0, sI μ 306 0 (jv 1), rfl, by rw [eM μ hq.2.2.2, if_neg hz], ft _, 0, rfl, by rw [sI_1, if_pos ⟨rfl, rfl⟩]; rfl⟩
/-! the least width -/
abbrev isP (R : Nat → Int) (N : Nat) (p : Int) (w : Nat) : Prop := tpF (bup R 0 w) N ≤ p
theorem lwC (hn : 200 ≤ n) {p : Int} (hp : 1 ≤ p ∧ p ≤ 20) : ∀ (k f w : Nat) (μ : Mm) (v0 : Int), w + k = 121 → 20 ≤ w → k < f → TRI μ R N fr (bup R 0 v0) → ∃ μ1, sh_X11_leastWidth_29 n (jv p) f (jv w) μ = some (.inr (jv (fnd (isP R N p) k w), μ1)) ∧ Fm PTR μ μ1 := by
  intro k
  induction k with
  | zero =>
    intro f w μ v0 hj hw hf ht
    obtain ⟨f, rfl⟩ : ∃ g, f = g + 1 := ⟨f - 1, by omega⟩
    rw [sh_X11_leastWidth_29, if_pos (by rw [jv_lit (nat_lit 120), jv_lt] <;> omega)]
    exact ⟨μ, rfl, Fm.rf⟩
  | succ k ih =>
    intro f w μ v0 hj hw hf ht
    obtain ⟨f, rfl⟩ : ∃ g, f = g + 1 := ⟨f - 1, by omega⟩
    obtain ⟨μ0, μ1, e0, e1, t1, y1, f1⟩ := ht.wid (n := n) (by omega) (v := (w : Int)) (by omega)
    rw [bup_bup] at t1 y1
    have hb := tpF_b t1.1 (by omega)
    rw [sh_X11_leastWidth_29, if_neg (by rw [jv_lit (nat_lit 120), jv_lt] <;> omega)]
    simp only [jv_lit]
    rw [e0, Option.bind_some, e1, Option.bind_some, y1.2.2.2.2.1, fnd]
    by_cases z : tpF (bup R 0 w) N ≤ p
    · rw [if_neg (by rw [jv_lt] <;> omega), if_pos z]
      exact ⟨μ1, rfl, f1⟩
    · obtain ⟨μ2, e2, f2⟩ := ih f (w + 1) μ1 w (by omega) (by omega) (by omega) t1
      rw [if_pos (by rw [jv_lt] <;> omega), if_neg z, jv_add, show (w : Int) + 1 = ((w + 1 : Nat) : Int) by omega, e2]
      exact ⟨μ2, rfl, f1.tr f2 (fun _ _ y => y)⟩
theorem lwMw (hn : 16001 ≤ n) (hw : WB 500 R N fr) {μs : Mm} (hms : MB 307 μs R) {p : Int} (hp : 1 ≤ p ∧ p ≤ 20) : ∀ (k f w : Nat) (μ : Mm) (v0 : Int), w + k = 121 → 20 ≤ w → k < f → MB 307 μ (bup R 0 v0) → Fm (PNE 0) μs μ → ∃ μ1, sh_X12_leastWidth_31 n (jv p) f (jv (R 0)) (jv (-1)) (jv w) μ = some (jv (fnd (isP R N p) k w), μ1) ∧ Fm PQ μs μ1 ∧ μ1.1 306 0 = μ.1 306 0 := by
  have l1 : ln 307 = 18701 := rfl
  intro k
  induction k with
  | zero =>
    intro f w μ v0 hj hw2 hf hm hF
    obtain ⟨f, rfl⟩ : ∃ g, f = g + 1 := ⟨f - 1, by omega⟩
    rw [sh_X12_leastWidth_31, if_pos (by rw [jv_lit (nat_lit 120), jv_lt] <;> omega), jv0, st_jv (by omega) (by omega), Option.bind_some]
    exact ⟨_, rfl, back (c := 0) (by omega) hms hF, by rw [sI_1, if_neg (by omega)]⟩
  | succ k ih =>
    intro f w μ v0 hj hw2 hf hm hF
    obtain ⟨f, rfl⟩ : ∃ g, f = g + 1 := ⟨f - 1, by omega⟩
    have hw' := (hw.wid (v := (w : Int)) (by omega))
    have hm1 : MB 307 (sI μ 307 0 (jv w)) (bup R 0 w) := by
      have := hm.up (v := (w : Int)) (j := 0) (by omega)
      rw [bup_bup] at this
      exact this
    obtain ⟨μ2, e2, y2, f2⟩ := layMM (n := n) hn hw' (by omega) hm1
    have hm2 := hm1.fr f2 (fun i _ => by omega)
    have F2 : Fm (PNE 0) μs μ2 := (hF.sI (Or.inr ⟨rfl, rfl⟩)).tr f2 (fun k j y => Or.inl (PMY_Q k j y))
    have hb := tpF_b hw' (by omega)
    have t2 : μ2.1 306 0 = μ.1 306 0 := by rw [f2.at _ _ (by omega), sI_1, if_neg (by omega)]
    rw [sh_X12_leastWidth_31, if_neg (by rw [jv_lit (nat_lit 120), jv_lt] <;> omega)]
    simp only [jv_lit]
    rw [jv_neg, if_pos (show jv (-1) = jv (-1) from rfl), st_jv (by omega) (by omega), Option.bind_some, show (0 : Int).toNat = 0 from rfl, e2, Option.bind_some, y2.2.2.1, jv_add, show (w : Int) + 1 = ((w + 1 : Nat) : Int) by omega, fnd]
    by_cases z : tpF (bup R 0 w) N ≤ p
    · rw [if_neg (show ¬ jv p < _ by rw [jv_lt] <;> omega), if_pos z]
      obtain ⟨g, rfl⟩ : ∃ g, f = g + 1 := ⟨f - 1, by omega⟩
      have fin : ∃ μ1, ((st μ2 307 (0 : Int32) (jv (R 0))).bind fun μ5 => some (jv w, μ5)) = some (jv w, μ1) ∧ Fm PQ μs μ1 ∧ μ1.1 306 0 = μ.1 306 0 := by
        rw [jv0, st_jv (by omega) (by omega), Option.bind_some]
        exact ⟨_, rfl, back (c := 0) (by omega) hms F2, by rw [sI_1, if_neg (by omega), t2]⟩
      rw [sh_X12_leastWidth_31, if_neg (show ¬ jv w = (-1 : Int32) by rw [show (-1 : Int32) = jv (-1) by decide, jv_eq] <;> omega), ite_self]
      exact fin
    · rw [if_pos (show jv p < _ by rw [jv_lt] <;> omega), if_neg z]
      obtain ⟨μ3, e3, f3, t3⟩ := ih f (w + 1) μ2 w (by omega) (by omega) (by omega) hm2 F2
      exact ⟨μ3, e3, f3, t3.trans t2⟩
theorem q_leastWidth (hn : 16001 ≤ n) {μ : Mm} (hq : QS μ R N fr) (a : Int32) : Qv [1] μ (sh_X11_leastWidth n a μ) (sh_X12_leastWidth n a) := by
  have hw := hq.1
  obtain ⟨z, h1, h2, rfl⟩ := jv_ex a
  have eM : ∀ ν : Mm, sh_X12_leastWidth n (jv z) ν = if 1 ≤ z ∧ z ≤ 20 then (ld (sI ν 306 0 (jv 0)) 307 (0 : Int32)).bind fun v3 => sh_X12_leastWidth_31 n (jv z) n v3 (-1 : Int32) (20 : Int32) (sI ν 306 0 (jv 0)) else some (jv 0, sI ν 306 0 (jv 1)) := by
    intro ν
    unfold sh_X12_leastWidth
    rw [li1, li20, in_b ⟨h1, h2⟩ (by unfold i32; omega) (by unfold i32; omega), Option.bind_some, pas, Option.bind_some]
    by_cases y : 1 ≤ z ∧ z ≤ 20
    · simp only [if_pos y]
      rw [if_neg one_ne]
    · simp only [if_neg y]
      rw [if_pos zro]
      rfl
  unfold sh_X11_leastWidth sh_X11_leastWidth_11
  simp only [jv_lit]
  by_cases y : 1 ≤ z ∧ z ≤ 20
  · rw [if_neg (by rw [jv_lt] <;> omega), if_pos (by rw [jv_le] <;> omega)]
    obtain ⟨μ1, e1, t1, f1⟩ := sTr (n := n) (by omega) hq
    have t1' : TRI μ1 R N fr (bup R 0 (R 0)) := by rw [bup_own]; exact t1
    obtain ⟨μ2, e2, f2⟩ := lwC (n := n) (by omega) y 101 n 20 μ1 (R 0) (by omega) (by omega) (by omega) t1'
    have F : Fw PV QV μ μ2 := (f1.mono PTR_V Q95).tr (Fw.of (Q := QV) f2) PTR_V (fun _ y => y)
    have hm2 := hq.2.2.2.fw F (fun i _ => by omega)
    have f3 : Fm (PNE 0) μ2 (sI μ2 306 0 (jv 0)) := Fm.rf.sI (by omega)
    obtain ⟨μ4, e4, f4, t4⟩ := lwMw (n := n) hn hw hm2 y 101 n 20 (sI μ2 306 0 (jv 0)) (R 0) (by omega) (by omega) (by omega) (by rw [bup_own]; exact hm2.r00) f3
    have e2' : sh_X11_leastWidth_29 n (jv z) n (jv 20) μ1 = _ := e2
    have e4' : sh_X12_leastWidth_31 n (jv z) n (jv (R 0)) (-1 : Int32) (20 : Int32) (sI μ2 306 0 (jv 0)) = _ := e4
    rw [e1, Option.bind_some, e2']
    exact ⟨.inr _, μ2, _, μ4, rfl, by rw [eM, if_pos y, jv0, mbl0 hm2.r00, Option.bind_some, e4'], F.tr (Fw.of (Q := QV) f4) (fun k j y => Or.inl y) (fun _ y => y), by rw [t4, sI_1, if_pos ⟨rfl, rfl⟩], rfl⟩
  · have fin : Qv [1] μ (some (.inl (1, μ))) (sh_X12_leastWidth n (jv z)) := ⟨.inl 1, μ, jv 0, sI μ 306 0 (jv 1), rfl, by rw [eM, if_neg y], Fw.of (Fm.rf.sI (by omega)), 0, rfl, by rw [sI_1, if_pos ⟨rfl, rfl⟩]; rfl⟩
    by_cases v : z < 1
    · rw [if_pos (by rw [jv_lt] <;> omega)]
      exact fin
    · rw [if_neg (by rw [jv_lt] <;> omega), if_neg (by rw [jv_le] <;> omega)]
      exact fin
end WIF
