/-! SLACK and the best width -/
section SLK
variable {n : Nat} {R : Nat → Int} {N fr : Nat}
/-- the pages with a length are as they are -/
abbrev alP (R R' : Nat → Int) (N : Nat) (i : Nat) : Prop := ∀ j, j < N → i ≤ j → pgs R' (tpF R' N) j = pgs R (tpF R N) j
theorem hn2 {μ : Mm} {R' : Nat → Int} (hw : WB 500 R N fr) (hw' : WB 600 R' N fr) (h1 : LY 98 μ R' N fr) (h2 : LY 38 μ R N fr) : ∀ (k f i : Nat), i + k = N → k < f → sh_X3_hasNumbersOf_2 n 112 52 (jv N) μ f (jv i) = some (jv (if alP R R' N i then 1 else 0)) := by
  have hN := hw.1
  have t1 := tpF_b hw (by omega)
  have t2 := tpF_b hw' (by omega)
  intro k
  induction k with
  | zero =>
    intro f i hi hf
    obtain ⟨f, rfl⟩ : ∃ g, f = g + 1 := ⟨f - 1, by omega⟩
    rw [sh_X3_hasNumbersOf_2, if_pos (by rw [jv_le] <;> omega), if_pos (fun j a b => absurd a (by omega))]
    rfl
  | succ k ih =>
    intro f i hi hf
    obtain ⟨f, rfl⟩ : ∃ g, f = g + 1 := ⟨f - 1, by omega⟩
    have b1 := pgs_b hw (by omega) (s := i) (by omega) t1.1 t1.2
    have b2 := pgs_b hw' (by omega) (s := i) (by omega) t2.1 t2.2
    rw [sh_X3_hasNumbersOf_2, if_neg (by rw [jv_le] <;> omega), show (112 + 1 : Nat) = 98 + 15 from rfl, h1.pg hw' (by omega), Option.bind_some, show (52 + 1 : Nat) = 38 + 15 from rfl, h2.pg hw (by omega), Option.bind_some]
    by_cases z : pgs R' (tpF R' N) i = pgs R (tpF R N) i
    · rw [if_pos (by rw [z]), jv_lit (nat_lit 1), jv_add, show (i : Int) + 1 = ((i + 1 : Nat) : Int) by omega, ih f (i + 1) (by omega) (by omega)]
      have e : alP R R' N i ↔ alP R R' N (i + 1) := ⟨fun q j a b => q j a (by omega), fun q j a b => by
        by_cases y : j = i
        · rw [y]; exact z
        · exact q j a (by omega)⟩
      by_cases y : alP R R' N i
      · rw [if_pos y, if_pos (e.mp y)]
      · rw [if_neg y, if_neg (fun q => y (e.mpr q))]
    · rw [if_neg (by rw [jv_eq] <;> omega), if_neg (fun q => z (q i (by omega) (Nat.le_refl _)))]
      rfl
theorem apM {μ : Mm} {R' : Nat → Int} (hw : WB 500 R N fr) (hw' : WB 600 R' N fr) (hm : MB 307 μ R') (hy : MY μ R' N fr) (h328 : ∀ i, i < N → μ.1 328 i = jv (pgs R (tpF R N) i)) : ∀ (k f i : Nat), i + k = N → k < f → sh_X12_arePagesAlike_4 n μ f (jv 0) (jv i) = some (jv 0) ∧ sh_X12_arePagesAlike_4 n μ f (jv 1) (jv i) = some (jv (if alP R R' N i then 1 else 0)) := by
  have hN := hw.1
  have hN' := hw'.1
  have t1 := tpF_b hw (by omega)
  have t2 := tpF_b hw' (by omega)
  have l1 : ln 314 = 24 := rfl
  have l2 : ln 328 = 24 := rfl
  intro k
  induction k with
  | zero =>
    intro f i hi hf
    obtain ⟨f, rfl⟩ : ∃ g, f = g + 1 := ⟨f - 1, by omega⟩
    constructor
    · rw [sh_X12_arePagesAlike_4, jv_lit (nat_lit 9), mbl9 hm, Option.bind_some, hN'.1, if_pos (by rw [jv_le] <;> omega), isB_0]
      rfl
    · rw [sh_X12_arePagesAlike_4, jv_lit (nat_lit 9), mbl9 hm, Option.bind_some, hN'.1, if_pos (by rw [jv_le] <;> omega), if_pos (fun j a b => absurd a (by omega)), isB_1]
      rfl
  | succ k ih =>
    intro f i hi hf
    obtain ⟨f, rfl⟩ : ∃ g, f = g + 1 := ⟨f - 1, by omega⟩
    obtain ⟨i0, i1⟩ := ih f (i + 1) (by omega) (by omega)
    have b1 := pgs_b hw (by omega) (s := i) (by omega) t1.1 t1.2
    have b2 := pgs_b hw' (by omega) (s := i) (by omega) t2.1 t2.2
    constructor
    · rw [sh_X12_arePagesAlike_4, jv_lit (nat_lit 9), mbl9 hm, Option.bind_some, hN'.1, if_neg (by rw [jv_le] <;> omega), if_pos zro, jv_lit (nat_lit 1), jv_add, show (i : Int) + 1 = ((i + 1 : Nat) : Int) by omega, jv0, i0]
    · rw [sh_X12_arePagesAlike_4, jv_lit (nat_lit 9), mbl9 hm, Option.bind_some, hN'.1, if_neg (by rw [jv_le] <;> omega), if_neg one_ne, ld_jv (by omega) (by omega), Option.bind_some, ld_jv (by omega) (by omega), Option.bind_some, Int.toNat_natCast, (hy.2.1.1.1 i (by omega)).1, h328 i (by omega), jv_lit (nat_lit 1), jv_add, show (i : Int) + 1 = ((i + 1 : Nat) : Int) by omega, i1, jv0, i0]
      by_cases z : pgs R' (tpF R' N) i = pgs R (tpF R N) i
      · have e : alP R R' N i ↔ alP R R' N (i + 1) := ⟨fun q j a b => q j a (by omega), fun q j a b => by
          by_cases y : j = i
          · rw [y]; exact z
          · exact q j a (by omega)⟩
        rw [if_pos (by rw [z])]
        by_cases y : alP R R' N i
        · rw [if_pos y, if_pos (e.mp y)]
        · rw [if_neg y, if_neg (fun q => y (e.mpr q))]
      · rw [if_neg (by rw [jv_eq] <;> omega), if_neg (fun q => z (q i (by omega) (Nat.le_refl _)))]
/-- so many lines more -/
abbrev mor (R : Nat → Int) (s : Nat) (k : Int) : Nat → Int := bup R (12 + 102 * s + 1) (lng R s + k)
def slR (R : Nat → Int) (N s : Nat) : Nat → Nat → Int
  | 0, _ => 99
  | k + 1, i => if alP R (mor R s i) N 0 then slR R N s k (i + 1) else (i : Int) - 1
theorem slC (hn : 200 ≤ n) (hw : WB 500 R N fr) {s : Nat} (hs : s < N) : ∀ (k f i : Nat) (μ : Mm) (v0 : Int), i + k = 100 → 1 ≤ i → k < f → TRI μ R N fr (bup R (12 + 102 * s + 1) v0) → CB 11 μ R N fr → LY 38 μ R N fr → ∃ μ1, sh_X11_slack_26 n (jv s) f (jv (lng R s)) (jv i) μ = some (.inr (jv (slR R N s k i), μ1)) ∧ Fm PTR μ μ1 := by
  have hN := hw.1
  have hlg := (hw.sec hs).2.2.1
  intro k
  induction k with
  | zero =>
    intro f i μ v0 hj hi hf ht hb hL
    obtain ⟨f, rfl⟩ : ∃ g, f = g + 1 := ⟨f - 1, by omega⟩
    rw [sh_X11_slack_26, if_pos (by rw [jv_lit (nat_lit 99), jv_lt] <;> omega)]
    exact ⟨μ, rfl, Fm.rf⟩
  | succ k ih =>
    intro f i μ v0 hj hi hf ht hb hL
    obtain ⟨f, rfl⟩ : ∃ g, f = g + 1 := ⟨f - 1, by omega⟩
    obtain ⟨μ0, μ1, e0, e1, t1, y1, f1⟩ := ht.len (n := n) (by omega) hs (v := lng R s + i) (by omega)
    rw [bup_bup] at t1 y1
    have hb1 := hb.fr f1 (fun q j a b y => by omega)
    have hL1 := hL.kp f1 (fun q j a b y => by omega)
    have eh : sh_X3_hasNumbersOf_2 n 112 52 (jv N) μ1 n (jv 0) = _ := hn2 (n := n) hw t1.1 y1 hL1 N n 0 (by omega) (by omega)
    rw [sh_X11_slack_26, if_neg (by rw [jv_lit (nat_lit 99), jv_lt] <;> omega)]
    unfold sh_X3_hasNumbersOf
    simp only [jv_lit]
    rw [jv_add, e0, Option.bind_some, e1, Option.bind_some, hb1.2.2.1.2.1, eh, Option.bind_some, slR]
    by_cases z : alP R (mor R s i) N 0
    · obtain ⟨μ2, e2, f2⟩ := ih f (i + 1) μ1 (lng R s + i) (by omega) (by omega) (by omega) t1 hb1 hL1
      rw [if_pos z, if_pos z, if_neg (show ¬ jv 1 = jv 0 by decide), jv_add, show (i : Int) + 1 = ((i + 1 : Nat) : Int) by omega, e2]
      exact ⟨μ2, rfl, f1.tr f2 (fun _ _ y => y)⟩
    · rw [if_neg z, if_neg z, if_pos (show jv 0 = jv 0 from rfl), jv_sub]
      exact ⟨μ1, rfl, f1⟩
theorem slM (hn : 16001 ≤ n) (hw : WB 500 R N fr) {s : Nat} (hs : s < N) {μs : Mm} (hms : MB 307 μs R) : ∀ (k f m : Nat) (μ : Mm) (v0 : Int), m + k = 99 → k + 1 < f → MB 307 μ (bup R (12 + 102 * s + 1) v0) → Fm (PNE (12 + 102 * s + 1)) μs μ → (∀ i, i < N → μ.1 328 i = jv (pgs R (tpF R N) i)) → ∃ μ1, sh_X12_slack_53 n (jv s) f (jv (lng R s)) (jv m) (jv 1) μ = some (jv (slR R N s k (m + 1)), μ1) ∧ Fm PQ μs μ1 ∧ μ1.1 306 0 = μ.1 306 0 := by
  have hN := hw.1
  have hlg := (hw.sec hs).2.2.1
  have fin : ∀ (m : Int) (μ : Mm) (v0 : Int), MB 307 μ (bup R (12 + 102 * s + 1) v0) → Fm (PNE (12 + 102 * s + 1)) μs μ → ∃ μ1, sh_X12_slack_101 n (jv s) (jv (lng R s)) (jv m) μ = some (jv m, μ1) ∧ Fm PQ μs μ1 ∧ μ1.1 306 0 = μ.1 306 0 := by
    intro m μ v0 hm hF
    unfold sh_X12_slack_101
    rw [jv_lit (nat_lit 1), seM hm (by omega), Option.bind_some]
    exact ⟨_, rfl, back (c := 12 + 102 * s + 1) (by omega) hms hF, by rw [sI_1, if_neg (by omega)]⟩
  intro k
  induction k with
  | zero =>
    intro f m μ v0 hj hf hm hF h328
    obtain ⟨f, rfl⟩ : ∃ g, f = g + 1 := ⟨f - 1, by omega⟩
    rw [sh_X12_slack_53, if_pos (by rw [jv_lit (nat_lit 99), jv_le] <;> omega), slR, show ((m : Nat) : Int) = 99 by omega]
    exact fin 99 μ v0 hm hF
  | succ k ih =>
    intro f m μ v0 hj hf hm hF h328
    obtain ⟨f, rfl⟩ : ∃ g, f = g + 1 := ⟨f - 1, by omega⟩
    have hw' : WB 600 (mor R s ((m + 1 : Nat) : Int)) N fr := hw.len (by omega) (by omega)
    have hm1 : MB 307 (sI μ 307 (12 + 102 * s + 1) (jv (lng R s + ((m + 1 : Nat) : Int)))) (mor R s ((m + 1 : Nat) : Int)) := by
      have := hm.up (v := lng R s + ((m + 1 : Nat) : Int)) (j := 12 + 102 * s + 1) (by omega)
      rw [bup_bup] at this
      exact this
    obtain ⟨μ2, e2, y2, f2⟩ := layMM (n := n) hn hw' (by omega) hm1
    have hm2 := hm1.fr f2 (fun i _ => by omega)
    have F2 : Fm (PNE (12 + 102 * s + 1)) μs μ2 := (hF.sI (Or.inr ⟨rfl, rfl⟩)).tr f2 (fun k j y => Or.inl (PMY_Q k j y))
    have t2 : μ2.1 306 0 = μ.1 306 0 := by rw [f2.at _ _ (by omega), sI_1, if_neg (by omega)]
    have h328' : ∀ i, i < N → μ2.1 328 i = jv (pgs R (tpF R N) i) := fun i hi => by rw [f2.at _ _ (by omega), sI_1, if_neg (by omega), h328 i hi]
    have ea : sh_X12_arePagesAlike_4 n μ2 n (jv 1) (jv 0) = _ := (apM (n := n) hw hw' hm2 y2 h328' N n 0 (by omega) (by omega)).2
    rw [sh_X12_slack_53, if_neg (by rw [jv_lit (nat_lit 99), jv_le] <;> omega), if_neg one_ne]
    unfold sh_X12_arePagesAlike
    simp only [jv_lit, nm_eq]
    rw [jv_add, jv_add, show lng R s + (m : Int) + 1 = lng R s + ((m + 1 : Nat) : Int) by omega, seM hm (by omega), Option.bind_some, e2, Option.bind_some, ea, Option.bind_some, jv_add, jv_add, Int.add_zero, show (m : Int) + 1 = ((m + 1 : Nat) : Int) by omega, slR]
    by_cases z : alP R (mor R s ((m + 1 : Nat) : Int)) N 0
    · rw [if_pos z, if_pos z, if_neg (show ¬ jv 1 = jv 0 by decide)]
      obtain ⟨μ3, e3, f3, t3⟩ := ih f (m + 1) μ2 _ (by omega) (by omega) hm2 F2 h328'
      exact ⟨μ3, e3, f3, t3.trans t2⟩
    · rw [if_neg z, if_neg z, if_pos (show jv 0 = jv 0 from rfl)]
      obtain ⟨g, rfl⟩ : ∃ g, f = g + 1 := ⟨f - 1, by omega⟩
      obtain ⟨μ3, e3, f3, t3⟩ := fin m μ2 _ hm2 F2
      rw [sh_X12_slack_53, if_pos zro, ite_self, e3, show ((m + 1 : Nat) : Int) - 1 = m by omega]
      exact ⟨μ3, rfl, f3, t3.trans t2⟩
theorem sl12 (hw : WB 500 R N fr) {s : Nat} (hs : s < N) : ∀ (k f i : Nat) (μ : Mm), i + k = N → k < f → MB 307 μ R → MY μ R N fr → (∀ j, j < i → μ.1 328 j = jv (pgs R (tpF R N) j)) → ∃ μ1, sh_X12_slack_12 n (jv s) f (jv i) μ = sh_X12_slack_53 n (jv s) n (jv (lng R s)) (jv 0) (jv 1) μ1 ∧ MB 307 μ1 R ∧ (∀ j, j < N → μ1.1 328 j = jv (pgs R (tpF R N) j)) ∧ Fm (fun k _ => k = 328) μ μ1 := by
  have hN := hw.1
  have l1 : ln 314 = 24 := rfl
  have l2 : ln 328 = 24 := rfl
  intro k
  induction k with
  | zero =>
    intro f i μ hi hf hm hy h
    obtain ⟨f, rfl⟩ : ∃ g, f = g + 1 := ⟨f - 1, by omega⟩
    rw [sh_X12_slack_12, jv_lit (nat_lit 9), mbl9 hm, Option.bind_some, hN.1, if_pos (by rw [jv_le] <;> omega)]
    simp only [jv_lit]
    rw [hm.oN (by omega), Option.bind_some]
    exact ⟨μ, rfl, hm, fun j hj => h j (by omega), Fm.rf⟩
  | succ k ih =>
    intro f i μ hi hf hm hy h
    obtain ⟨f, rfl⟩ : ∃ g, f = g + 1 := ⟨f - 1, by omega⟩
    have f0 : Fm (fun k _ => k = 328) μ (sI μ 328 i (jv (pgs R (tpF R N) i))) := Fm.rf.sI rfl
    rw [sh_X12_slack_12, jv_lit (nat_lit 9), mbl9 hm, Option.bind_some, hN.1, if_neg (by rw [jv_le] <;> omega), ld_jv (by omega) (by omega), Option.bind_some, st_jv (by omega) (by omega), Option.bind_some, Int.toNat_natCast, (hy.2.1.1.1 i (by omega)).1, jv_lit (nat_lit 1), jv_add, show (i : Int) + 1 = ((i + 1 : Nat) : Int) by omega]
    obtain ⟨μ1, e1, m1, h1, f1⟩ := ih f (i + 1) (sI μ 328 i (jv (pgs R (tpF R N) i))) (by omega) (by omega) (hm.fr f0 (fun i _ => by omega)) (hy.kp f0 (fun k j y => by omega)) (fun j hj => by
      rw [sI_1]
      by_cases z : j = i
      · rw [if_pos ⟨rfl, z⟩, z]
      · rw [if_neg (fun q => z q.2), h j (by omega)])
    exact ⟨μ1, e1, m1, h1, f0.tr f1 (fun _ _ y => y)⟩
theorem q_slack (hn : 16001 ≤ n) {μ : Mm} (hq : QS μ R N fr) (a : Int32) : Qv [2] μ (sh_X11_slack n a μ) (sh_X12_slack n a) := by
  have hw := hq.1
  have hN := hw.1
  obtain ⟨z, h1, h2, rfl⟩ := jv_ex a
  unfold sh_X11_slack
  rw [ckS hq ⟨h1, h2⟩, Option.bind_some]
  by_cases hz : 0 ≤ z ∧ z < N
  · obtain ⟨s, rfl⟩ : ∃ s : Nat, z = s := ⟨z.toNat, by omega⟩
    have hs : s < N := by omega
    have hlg := (hw.sec hs).2.2.1
    rw [if_pos hz, Sum.elim_inr]
    obtain ⟨μ1, e1, t1, f1⟩ := sTr (n := n) (by omega) hq
    have b1 := hq.2.1.fw f1 (fun q j a b y => by omega) (fun q a b y => by omega)
    have L1 := hq.2.2.1.fw f1 (fun q j a b y => by omega)
    have t1' : TRI μ1 R N fr (bup R (12 + 102 * s + 1) (R (12 + 102 * s + 1))) := by rw [bup_own]; exact t1
    obtain ⟨μ2, e2, f2⟩ := slC (n := n) (by omega) hw hs 99 n 1 μ1 _ (by omega) (by omega) (by omega) t1' b1 L1
    have e2' : sh_X11_slack_26 n (jv s) n (jv (lng R s)) (1 : Int32) μ1 = _ := e2
    have F : Fw PV QV μ μ2 := (f1.mono PTR_V Q95).tr (Fw.of (Q := QV) f2) PTR_V (fun _ y => y)
    have hm2 := hq.2.2.2.fw F (fun i _ => by omega)
    rcases asM (n := n) hn hm2 hw (a := (s : Int)) ⟨h1, h2⟩ with ⟨y, _⟩ | ⟨_, μ3, e3, m3, y3, f3, th3⟩
    · exact absurd hz y
    · obtain ⟨μ4, e4, m4, h4, f4⟩ := sl12 (n := n) hw hs N n 0 μ3 (by omega) (by omega) m3 y3 (fun j hj => absurd hj (by omega))
      have F4 : Fm (PNE (12 + 102 * s + 1)) μ2 μ4 := (f3.mono (fun k j y => Or.inl y)).tr f4 (fun k j y => by omega)
      obtain ⟨μ5, e5, f5, th5⟩ := slM (n := n) hn hw hs hm2 99 n 0 μ4 (R (12 + 102 * s + 1)) (by omega) (by omega) (by rw [bup_own]; exact m4) F4 h4
      have e4' : sh_X12_slack_12 n (jv s) n (0 : Int32) μ3 = _ := e4
      have e5' : sh_X12_slack_53 n (jv s) n (jv (lng R s)) (jv 0) (jv 1) μ4 = _ := e5
      refine ⟨.inr (jv (slR R N s 99 1)), μ2, jv (slR R N s 99 1), μ5, ?_, ?_, F.tr (Fw.of (Q := QV) f5) (fun k j y => Or.inl y) (fun _ y => y), ?_, rfl⟩
      · rw [e1, Option.bind_some, show (16 : Nat) = 11 + 5 from rfl, b1.lg hw hs, Option.bind_some, e2']
        rfl
      · unfold sh_X12_slack
        rw [e3, Option.bind_some, if_neg one_ne, e4', e5']
      · rw [th5, f4.at _ _ (by omega), th3]
  · rw [if_neg hz]
    rcases asM (n := n) hn hq.2.2.2 hw (a := z) ⟨h1, h2⟩ with ⟨_, e⟩ | ⟨y, _⟩
    · refine ⟨.inl 2, μ, jv 0, sI μ 306 0 (jv 1), rfl, ?_, Fw.of (Fm.rf.sI (by omega)), 0, rfl, by rw [sI_1, if_pos ⟨rfl, rfl⟩]; rfl⟩
      unfold sh_X12_slack
      rw [e, Option.bind_some, if_pos zro]
      rfl
    · exact absurd y hz
end SLK
