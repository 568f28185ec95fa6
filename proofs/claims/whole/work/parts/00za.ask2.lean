/-! CALLS that ask for titles, pages and what stands there -/
def fnd (P : Nat → Prop) [DecidablePred P] : Nat → Nat → Int
  | 0, _ => -1
  | k + 1, i => if P i then (i : Int) else fnd P k (i + 1)
def lst (P : Nat → Prop) [DecidablePred P] (d : Int) : Nat → Nat → Int
  | 0, _ => d
  | k + 1, i => lst P (if P i then (i : Int) else d) k (i + 1)
section ASK2
variable {n : Nat} {R : Nat → Int} {N fr : Nat}
theorem toM (hn : 16001 ≤ n) (hw : WB 500 R N fr) {s : Nat} (hs : s < N) : ∀ (k f w : Nat) (μ : Mm), (w : Int) + k = wct R s → k < f → MB 307 μ R → LM μ R N → ∃ μ1, sh_X12_titleOf_11 n (jv s) f (jv (ttl R s w + (wct R s - 1) - (if w = 0 then 0 else (w : Int) - 1))) (jv w) μ = some (jv (ttw R s), μ1) ∧ Fm PM2 μ μ1 := by
  have hN := hw.1
  have hwc := (hw.sec hs).2.2.2.1
  intro k
  induction k with
  | zero =>
    intro f w μ hi hf hm hl
    obtain ⟨f, rfl⟩ : ∃ g, f = g + 1 := ⟨f - 1, by omega⟩
    rw [sh_X12_titleOf_11, jv_lit (nat_lit 3), hm.oW (by omega), Option.bind_some, if_pos (by rw [jv_le] <;> omega), if_neg (by omega)]
    refine ⟨μ, ?_, Fm.rf⟩
    congr 3
    have : (wct R s).toNat = w := by omega
    unfold ttw
    rw [this]
    omega
  | succ k ih =>
    intro f w μ hi hf hm hl
    obtain ⟨f, rfl⟩ : ∃ g, f = g + 1 := ⟨f - 1, by omega⟩
    rw [sh_X12_titleOf_11, jv_lit (nat_lit 3), hm.oW (by omega), Option.bind_some, if_neg (by rw [jv_le] <;> omega)]
    obtain ⟨μ1, e, f1⟩ := twkM (n := n) hn hw hs (w := w) (by omega) hm hl
    rw [e, Option.bind_some]
    simp only [nm_eq]
    obtain ⟨μ2, e2, f2⟩ := ih f (w + 1) μ1 (by omega) (by omega) (hm.fr f1 (fun i _ => by omega)) (hl.kp f1 (fun j => ⟨by omega, by omega⟩))
    refine ⟨μ2, ?_, f1.tr f2 (fun _ _ q => q)⟩
    rw [jv_lit (nat_lit 1), jv_add, jv_add, show (w : Int) + 1 = ((w + 1 : Nat) : Int) by omega, ← e2, if_neg (show ¬ w + 1 = 0 by omega)]
    congr 2
    show _ = ttl R s w + (tokW R s w + if w = 0 then 0 else 1) + _ - _
    by_cases z : w = 0
    · rw [if_pos z, if_pos z]
      omega
    · rw [if_neg z, if_neg z]
      omega
theorem toM0 (hn : 16001 ≤ n) (hw : WB 500 R N fr) {s : Nat} (hs : s < N) {μ : Mm} (hm : MB 307 μ R) (hl : LM μ R N) : ∃ μ1, sh_X12_titleOf n (jv s) μ = some (jv (ttw R s), μ1) ∧ Fm PM2 μ μ1 := by
  have hN := hw.1
  have hwc := (hw.sec hs).2.2.2.1
  unfold sh_X12_titleOf
  rw [jv_lit (nat_lit 3), hm.oW (by omega), Option.bind_some]
  simp only [nm_eq]
  rw [jv_lit (nat_lit 1), jv_sub, jv0]
  have := toM (n := n) hn hw hs (wct R s).toNat n 0 μ (by omega) (by omega) hm hl
  rw [if_pos rfl, show ttl R s 0 + (wct R s - 1) - 0 = wct R s - 1 by show 0 + _ - _ = _; omega] at this
  exact this
theorem q_titleWidth (hn : 16001 ≤ n) {μ : Mm} (hq : QS μ R N fr) (a : Int32) : Qr [2] μ (sh_X11_titleWidth a μ) (sh_X12_titleWidth n a μ) := by
  have hN := hq.1.1
  obtain ⟨z, h1, h2, rfl⟩ := jv_ex a
  obtain ⟨μ1, e1, hl, f1⟩ := layLM (n := n) (by omega) hq.1 hq.2.2.2
  have g1 : Fm PQ μ μ1 := f1.mono (fun k j y => by omega)
  have hm1 := hq.2.2.2.fr f1 (fun i _ => by omega)
  unfold sh_X11_titleWidth sh_X12_titleWidth
  rw [e1, ckS hq ⟨h1, h2⟩, Option.bind_some, Option.bind_some, isS hm1 hq.1 ⟨h1, h2⟩, Option.bind_some, pas, Option.bind_some]
  have l1 : ln (50 + 1) = 24 := rfl
  by_cases hz : 0 ≤ z ∧ z < N
  · rw [if_pos hz, if_pos hz, if_pos hz, if_neg one_ne, Sum.elim_inr]
    obtain ⟨s, rfl⟩ : ∃ s : Nat, z = s := ⟨z.toNat, by omega⟩
    have hs : s < N := by omega
    have f2 : Fm (fun k j => k = 306 ∧ j = 0) μ1 (sI μ1 306 0 (jv 0)) := Fm.rf.sI ⟨rfl, rfl⟩
    obtain ⟨μ3, e3, f3⟩ := toM0 (n := n) hn hq.1 hs (hm1.fr f2 (fun i _ => by omega)) (hl.kp f2 (fun j => ⟨by omega, by omega⟩))
    rw [e3, a5_in (by omega) (by omega), Int.toNat_natCast]
    refine ⟨_, _, _, rfl, rfl, (g1.tr f2 (fun k j y => by omega)).tr f3 (fun k j y => by omega), ?_, ?_⟩
    · rw [f3.at _ _ (by omega), sI_1, if_pos ⟨rfl, rfl⟩]
    · exact ((hq.2.2.1.2.1.2 s hs).2.2.2.2.2).symm
  · rw [if_neg hz, if_neg hz, if_neg hz, if_pos zro]
    exact ⟨_, _, _, rfl, rfl, g1.sI (by omega), 0, rfl, by rw [sI_1, if_pos ⟨rfl, rfl⟩]; rfl⟩
/-! pages -/
theorem bpO {μ : Mm} (hw : WB 500 R N fr) (hb : MB 307 μ R) (hy : MY μ R N fr) {s : Nat} (hs : s < N) : sh_X12_bookPageOf (jv s) μ = some (jv (bkp R (tpF R N) N fr s)) := by
  have hN := hw.1
  have l1 : ln 314 = 24 := rfl
  unfold sh_X12_bookPageOf
  simp only [jv_lit]
  rw [hb.oP (by omega), Option.bind_some]
  unfold bkp
  rcases hw.pb hs with ⟨z, y⟩ | ⟨z, y⟩
  · rw [if_pos (by rw [z]), ld_jv (by omega) (by omega), Option.bind_some, Int.toNat_natCast, (hy.2.1.1.1 s hs).1, if_pos z]
  · rw [if_neg (by rw [z, jv_eq] <;> omega), ld_jv (by omega) (by omega), Option.bind_some, Int.toNat_natCast, (hy.2.1.1.1 s hs).1, if_neg (by omega), hy.2.1.1.2.1, jv_add, jv_sub]
    unfold mBg
    rw [if_pos (by omega)]
theorem LY.bp {μ : Mm} {t : Nat} (h : LY t μ R N fr) (hw : WB 500 R N fr) {e : Nat} (he : e < N) : sh_X5_at (t + 17) (jv e) μ = some (jv (bkp R (tpF R N) N fr e)) := by
  have hN := hw.1
  have l1 : ln (t + 17 + 1) = 24 := h.1.2.1.2.1
  rw [a5_in (by omega) (by omega), Int.toNat_natCast]
  exact congrArg some (h.2.2.1.2.1 e he).2.1
theorem pg_all (hw : WB 500 R N fr) : (1 ≤ bgM R (tpF R N) N fr ∧ bgM R (tpF R N) N fr ≤ 5000) ∧ (0 ≤ lsP R (tpF R N) N fr ∧ lsP R (tpF R N) N fr ≤ 10000) ∧ ∀ s, s < N → 1 ≤ bkp R (tpF R N) N fr s ∧ bkp R (tpF R N) N fr s ≤ 10000 := by
  have h1 := hw.1
  have h0 := tpF_b hw (by omega)
  have hbh : 1 ≤ bhd R (tpF R N) N fr ∧ bhd R (tpF R N) N fr ≤ 4500 := by
    have := flw_b hw (by omega) 0 (tpF R N + 1) N (Nat.le_refl _)
    unfold bhd
    split <;> omega
  have hmn : 0 ≤ mnP R N fr ∧ mnP R N fr ≤ 4500 ∧ (fr < N → 1 ≤ mnP R N fr) := by
    have := flw_b hw (by omega) 1 1 N (Nat.le_refl _)
    unfold mnP
    split <;> omega
  have hbg : 1 ≤ bgM R (tpF R N) N fr ∧ bgM R (tpF R N) N fr ≤ 5000 := by
    unfold bgM
    split <;> omega
  refine ⟨hbg, ?_, fun s hs => ?_⟩
  · unfold lsP
    split <;> omega
  · have := pgs_b hw (by omega) hs h0.1 h0.2
    unfold bkp
    split <;> omega
theorem peC {μ : Mm} (hb : CB 11 μ R N fr) {p : Int} (hp : p = 0 ∨ p = 1) : sh_X0_partEnd 11 (jv p) μ = some (jv ((if p = 0 then fr else N : Nat) : Int)) ∧ sh_X0_partBegin 11 (jv p) μ = some (jv ((if p = 0 then 0 else fr : Nat) : Int)) := by
  unfold sh_X0_partEnd sh_X0_partBegin
  rcases hp with rfl | rfl
  · rw [if_pos zro, if_pos zro, hb.2.2.1.2.2]
    exact ⟨rfl, rfl⟩
  · rw [if_neg one_ne, if_neg one_ne, hb.2.2.1.2.2, hb.2.2.1.2.1]
    exact ⟨rfl, rfl⟩
theorem fpC {μ : Mm} (hw : WB 500 R N fr) (hb : CB 11 μ R N fr) (hL : LY 38 μ R N fr) {p pg : Int} (hp : p = 0 ∨ p = 1) (hpg : i32 pg) {e : Nat} (he : e = if p = 0 then fr else N) : ∀ (k f i : Nat), i + k = e → k < f → sh_X11_findPage_31 n (jv p) (jv pg) μ f (jv i) = some (.inr (jv (fnd (fun s => pgs R (tpF R N) s = pg) k i))) := by
  have hN := hw.1
  have heN : e ≤ N := by rw [he]; split <;> omega
  unfold i32 at hpg
  intro k
  induction k with
  | zero =>
    intro f i hi hf
    obtain ⟨f, rfl⟩ : ∃ g, f = g + 1 := ⟨f - 1, by omega⟩
    rw [sh_X11_findPage_31, (peC hb hp).1, Option.bind_some, ← he, if_pos (by rw [jv_le] <;> omega)]
    rfl
  | succ k ih =>
    intro f i hi hf
    obtain ⟨f, rfl⟩ : ∃ g, f = g + 1 := ⟨f - 1, by omega⟩
    have hpb := pgs_b hw (by omega) (s := i) (by omega) (tpF_b hw (by omega)).1 (tpF_b hw (by omega)).2
    rw [sh_X11_findPage_31, (peC hb hp).1, Option.bind_some, ← he, if_neg (by rw [jv_le] <;> omega), hL.pg hw (by omega), Option.bind_some]
    by_cases z : pgs R (tpF R N) i = pg
    · rw [if_pos (by rw [z]), fnd, if_pos z]
    · rw [if_neg (by rw [jv_eq] <;> omega), fnd, if_neg z, jv_lit (nat_lit 1), jv_add, show (i : Int) + 1 = ((i + 1 : Nat) : Int) by omega]
      exact ih f (i + 1) (by omega) (by omega)
theorem fpMM {μ : Mm} (hw : WB 500 R N fr) (hb : MB 307 μ R) (hy : MY μ R N fr) {p pg : Int} (hp : p = 0 ∨ p = 1) (hpg : i32 pg) {b e : Nat} (he : e = if p = 0 then fr else N) (hbg : b = if p = 0 then 0 else fr) : ∀ (k f i : Nat), i + k = N → k < f → sh_X12_findPage_22 n (jv p) (jv pg) f (jv i) μ = some (jv (fnd (fun s => pgs R (tpF R N) s = pg) (e - max i b) (max i b)), μ) := by
  have hN := hw.1
  have l1 : ln 314 = 24 := rfl
  have heN : e ≤ N := by rw [he]; split <;> omega
  unfold i32 at hpg
  intro k
  induction k with
  | zero =>
    intro f i hi hf
    obtain ⟨f, rfl⟩ : ∃ g, f = g + 1 := ⟨f - 1, by omega⟩
    rw [sh_X12_findPage_22, jv_lit (nat_lit 9), mbl9 hb, Option.bind_some, hN.1, if_pos (by rw [jv_le] <;> omega), show e - max i b = 0 by omega]
    rfl
  | succ k ih =>
    intro f i hi hf
    obtain ⟨f, rfl⟩ : ∃ g, f = g + 1 := ⟨f - 1, by omega⟩
    have hpb := pgs_b hw (by omega) (s := i) (by omega) (tpF_b hw (by omega)).1 (tpF_b hw (by omega)).2
    have ih1 := ih f (i + 1) (by omega) (by omega)
    rw [sh_X12_findPage_22, jv_lit (nat_lit 9), mbl9 hb, Option.bind_some, hN.1, if_neg (by rw [jv_le] <;> omega), jv_lit (nat_lit 2), hb.oP (by omega), Option.bind_some, jv_lit (nat_lit 1), jv_add, show (i : Int) + 1 = ((i + 1 : Nat) : Int) by omega, ih1]
    by_cases y : prt R i = p
    · have hin : b ≤ i ∧ i < e := by
        rcases hw.pb (s := i) (by omega) with ⟨u, v⟩ | ⟨u, v⟩ <;> rcases hp with w | w <;> subst he <;> subst hbg <;> (first | rw [if_pos w, if_pos w] | rw [if_neg (by omega), if_neg (by omega)]) <;> omega
      rw [if_pos (by rw [y]), ld_jv (by omega) (by omega), Option.bind_some, Int.toNat_natCast, (hy.2.1.1.1 i (by omega)).1, show max i b = i by omega, show max (i + 1) b = i + 1 by omega, show e - i = (e - (i + 1)) + 1 by omega, fnd]
      by_cases z : pgs R (tpF R N) i = pg
      · rw [if_pos (by rw [z]), if_pos z]
      · rw [if_neg (by rw [jv_eq] <;> omega), if_neg z]
    · have hpi : prt R i = 0 ∨ prt R i = 1 := by rcases hw.pb (s := i) (by omega) with ⟨u, v⟩ | ⟨u, v⟩ <;> omega
      rw [if_neg (by rw [jv_eq] <;> omega)]
      have hout : i < b ∨ e ≤ i := by
        rcases hw.pb (s := i) (by omega) with ⟨u, v⟩ | ⟨u, v⟩ <;> rcases hp with w | w <;> subst he <;> subst hbg <;> (first | rw [if_pos w, if_pos w] | rw [if_neg (by omega), if_neg (by omega)]) <;> omega
      rcases hout with z | z
      · rw [show max (i + 1) b = max i b by omega]
      · rw [show e - max i b = 0 by omega, show e - max (i + 1) b = 0 by omega]
        rfl
theorem q_findPage (hn : 16001 ≤ n) {μ : Mm} (hq : QS μ R N fr) (a b : Int32) : Qr [1] μ (sh_X11_findPage n a b μ) (sh_X12_findPage n a b μ) := by
  obtain ⟨hw, hb, hL, hm⟩ := hq
  have hN := hw.1
  obtain ⟨z, h1, h2, rfl⟩ := jv_ex a
  obtain ⟨y, h3, h4, rfl⟩ := jv_ex b
  unfold sh_X11_findPage sh_X11_findPage_19 sh_X12_findPage
  rw [li0, li1, in_b ⟨h1, h2⟩ (by unfold i32; omega) (by unfold i32; omega), Option.bind_some, pas, Option.bind_some]
  simp only [jv_lit]
  by_cases hz : 0 ≤ z ∧ z ≤ 1
  · rw [if_pos hz, if_pos hz, if_neg (show ¬ jv 1 = jv 0 by decide)]
    have hp : z = 0 ∨ z = 1 := by omega
    obtain ⟨μ1, e, hy, hf⟩ := layMM (n := n) hn hw (by omega) (hm.r00 (v := jv 0))
    have f0 : Fm PQ μ (sI μ 306 0 (jv 0)) := Fm.rf.sI (by omega)
    have g1 := f0.tr hf PMY_Q
    have hm1 := hm.fr g1 (fun i _ => by omega)
    have th : μ1.1 306 0 = jv 0 := by rw [hf.at _ _ (by omega), sI_1, if_pos ⟨rfl, rfl⟩]
    rw [e, Option.bind_some, (peC hb hp).2, Option.bind_some]
    have eM := fpMM (n := n) hw hm1 hy hp ⟨h3, h4⟩ (b := if z = 0 then 0 else fr) (e := if z = 0 then fr else N) rfl rfl N n 0 (by omega) (by omega)
    have hbe : (if z = 0 then 0 else fr) ≤ (if z = 0 then fr else N) := by split <;> omega
    have heN : (if z = 0 then fr else N) ≤ N := by split <;> omega
    have eC := fpC (n := n) hw hb hL hp ⟨h3, h4⟩ (e := if z = 0 then fr else N) rfl ((if z = 0 then fr else N) - (if z = 0 then 0 else fr)) n (if z = 0 then 0 else fr) (by omega) (by omega)
    rw [eC, show jv 0 = jv ((0 : Nat) : Int) from rfl, eM, Nat.zero_max]
    have fin : ∀ v : Int32, Qr [1] μ (some (.inr v)) (some (v, μ1)) := fun v => ⟨_, _, _, rfl, rfl, g1, th, rfl⟩
    rcases hp with rfl | rfl
    · rw [if_pos (show jv 0 = jv ((0 : Nat) : Int) from rfl)]
      exact fin _
    · rw [if_neg (show ¬ jv 1 = jv ((0 : Nat) : Int) by decide), if_pos (show jv 1 = jv 1 from rfl)]
      exact fin _
  · rw [if_neg hz, if_neg hz, if_pos (show jv 0 = jv 0 from rfl), if_neg (show ¬ jv z = jv 0 by rw [jv_eq] <;> omega), if_neg (show ¬ jv z = jv 1 by rw [jv_eq] <;> omega)]
    exact ⟨_, _, _, rfl, rfl, Fm.rf.sI (by omega), 0, rfl, by rw [sI_1, if_pos ⟨rfl, rfl⟩]; rfl⟩
theorem saC {μ : Mm} (hw : WB 500 R N fr) (hb : CB 11 μ R N fr) (hL : LY 38 μ R N fr) {pg : Int} (hpg : i32 pg) : ∀ (k f i : Nat) (d : Int), i + k = N → k < f → sh_X11_sectionAt_33 n (jv pg) μ f (jv d) (jv i) = some (.inr (jv (lst (fun s => bkp R (tpF R N) N fr s ≤ pg) d k i))) := by
  have hN := hw.1
  have hA := (pg_all hw).2.2
  unfold i32 at hpg
  intro k
  induction k with
  | zero =>
    intro f i d hi hf
    obtain ⟨f, rfl⟩ : ∃ g, f = g + 1 := ⟨f - 1, by omega⟩
    rw [sh_X11_sectionAt_33, hb.2.2.1.2.1, if_pos (by rw [jv_le] <;> omega)]
    rfl
  | succ k ih =>
    intro f i d hi hf
    obtain ⟨f, rfl⟩ : ∃ g, f = g + 1 := ⟨f - 1, by omega⟩
    have hpb := hA i (by omega)
    rw [sh_X11_sectionAt_33, hb.2.2.1.2.1, if_neg (by rw [jv_le] <;> omega), hL.bp hw (by omega), Option.bind_some, jv_lit (nat_lit 1), jv_add, show (i : Int) + 1 = ((i + 1 : Nat) : Int) by omega, lst]
    by_cases z : bkp R (tpF R N) N fr i ≤ pg
    · rw [if_neg (by rw [jv_lt] <;> omega), if_pos z]
      exact ih f (i + 1) _ (by omega) (by omega)
    · rw [if_pos (by rw [jv_lt] <;> omega), if_neg z]
      exact ih f (i + 1) _ (by omega) (by omega)
theorem saM {μ : Mm} (hw : WB 500 R N fr) (hb : MB 307 μ R) (hy : MY μ R N fr) {pg : Int} (hpg : i32 pg) : ∀ (k f i : Nat) (d : Int), i + k = N → k < f → sh_X12_sectionAt_28 n (jv pg) f (jv d) (jv i) μ = some (jv (lst (fun s => bkp R (tpF R N) N fr s ≤ pg) d k i), μ) := by
  have hN := hw.1
  have hA := (pg_all hw).2.2
  unfold i32 at hpg
  intro k
  induction k with
  | zero =>
    intro f i d hi hf
    obtain ⟨f, rfl⟩ : ∃ g, f = g + 1 := ⟨f - 1, by omega⟩
    rw [sh_X12_sectionAt_28, jv_lit (nat_lit 9), mbl9 hb, Option.bind_some, hN.1, if_pos (by rw [jv_le] <;> omega)]
    rfl
  | succ k ih =>
    intro f i d hi hf
    obtain ⟨f, rfl⟩ : ∃ g, f = g + 1 := ⟨f - 1, by omega⟩
    have hpb := hA i (by omega)
    rw [sh_X12_sectionAt_28, jv_lit (nat_lit 9), mbl9 hb, Option.bind_some, hN.1, if_neg (by rw [jv_le] <;> omega), bpO hw hb hy (by omega), Option.bind_some, jv_lit (nat_lit 1), jv_add, show (i : Int) + 1 = ((i + 1 : Nat) : Int) by omega, lst]
    by_cases z : bkp R (tpF R N) N fr i ≤ pg
    · rw [if_neg (by rw [jv_lt] <;> omega), if_pos z]
      exact ih f (i + 1) _ (by omega) (by omega)
    · rw [if_pos (by rw [jv_lt] <;> omega), if_neg z]
      exact ih f (i + 1) _ (by omega) (by omega)
theorem q_sectionAt (hn : 16001 ≤ n) {μ : Mm} (hq : QS μ R N fr) (a : Int32) : Qr [2] μ (sh_X11_sectionAt n a μ) (sh_X12_sectionAt n a μ) := by
  obtain ⟨hw, hb, hL, hm⟩ := hq
  have hN := hw.1
  have hA := (pg_all hw).2.1
  obtain ⟨z, h1, h2, rfl⟩ := jv_ex a
  obtain ⟨μ1, e, hy, hf⟩ := layMM (n := n) hn hw (by omega) hm
  have g1 := hf.mono PMY_Q
  have hm1 := hm.fr g1 (fun i _ => by omega)
  unfold sh_X11_sectionAt sh_X11_sectionAt_19 sh_X12_sectionAt
  rw [e, Option.bind_some, hy.2.1.1.2.2, hL.2.2.1.2.2.2, li1, in_b ⟨h1, h2⟩ (by unfold i32; omega) (by unfold i32; omega), Option.bind_some, pas, Option.bind_some]
  simp only [jv_lit]
  by_cases hz : 1 ≤ z ∧ z ≤ lsP R (tpF R N) N fr
  · have f2 : Fm PQ μ1 (sI μ1 306 0 (jv 0)) := Fm.rf.sI (by omega)
    have eC : sh_X11_sectionAt_33 n (jv z) μ n (jv (-1)) (jv 0) = _ := saC (n := n) hw hb hL ⟨h1, h2⟩ N n 0 (-1) (by omega) (by omega)
    have eM : sh_X12_sectionAt_28 n (jv z) n (jv (-1)) (jv 0) (sI μ1 306 0 (jv 0)) = _ := saM (n := n) hw (hm1.fr f2 (fun i _ => by omega)) hy.r0 ⟨h1, h2⟩ N n 0 (-1) (by omega) (by omega)
    rw [if_pos hz, if_pos hz, if_neg (show ¬ jv 1 = jv 0 by decide), if_neg (show ¬ jv z < jv 1 by rw [jv_lt] <;> omega), if_pos (show jv z ≤ _ by rw [jv_le] <;> omega), show -jv 1 = jv (-1) by decide, eC, eM]
    exact ⟨_, _, _, rfl, rfl, g1.tr f2 (fun _ _ q => q), by rw [sI_1, if_pos ⟨rfl, rfl⟩], rfl⟩
  · rw [if_neg hz, if_neg hz, if_pos (show jv 0 = jv 0 from rfl)]
    have fin : Qr [2] μ (some (.inl 2)) (some (jv 0, sI μ1 306 0 (jv 1))) := ⟨_, _, _, rfl, rfl, g1.sI (by omega), 0, rfl, by rw [sI_1, if_pos ⟨rfl, rfl⟩]; rfl⟩
    by_cases y : z < 1
    · rw [if_pos (show jv z < jv 1 by rw [jv_lt] <;> omega)]
      exact fin
    · rw [if_neg (show ¬ jv z < jv 1 by rw [jv_lt] <;> omega), if_neg (show ¬ jv z ≤ _ by rw [jv_le] <;> omega)]
      exact fin
end ASK2
