/-! CALLS that ask for counts, settings, sections -/
section ASK
variable {n : Nat} {R : Nat → Int} {N fr : Nat}
theorem mb7 {μ : Mm} (h : MB 307 μ R) (i : Nat) (hi : i < 12) : ld μ 307 (jv i) = some (jv (R i)) := by
  have l1 : ln 307 = 18701 := rfl
  rw [ld_jv (by omega) (by omega), Int.toNat_natCast, h.2.2 i (by omega)]
theorem mbl9 {μ : Mm} (h : MB 307 μ R) : ld μ 307 (jv 9) = some (jv (R 9)) := mb7 h 9 (by omega)
theorem mbl8 {μ : Mm} (h : MB 307 μ R) : ld μ 307 (jv 8) = some (jv (R 8)) := mb7 h 8 (by omega)
theorem mbl1 {μ : Mm} (h : MB 307 μ R) : ld μ 307 (jv 1) = some (jv (R 1)) := mb7 h 1 (by omega)
theorem mbg7 {μ : Mm} (h : MB 307 μ R) : ld μ 307 (jv 7) = some (jv (R 7)) := mb7 h 7 (by omega)
theorem mbl0 {μ : Mm} (h : MB 307 μ R) : ld μ 307 (jv 0) = some (jv (R 0)) := mb7 h 0 (by omega)
/-- the front's sections counted -/
theorem cn26 {μ : Mm} (hm : MB 307 μ R) (hw : WB 500 R N fr) {a : Int32} : ∀ (k f i : Nat), i + k = N → k < f → sh_X12_count_26 n a f (jv (if i ≤ fr then (i : Int) else fr)) (jv i) μ = (if a = jv 0 then some (jv N, μ) else if a = jv 1 then some (jv fr, μ) else if a = jv 2 then some ((μ.1 306 36), μ) else if a = jv 3 then some ((μ.1 306 39), μ) else if a = jv 4 then some ((μ.1 306 24), μ) else if a = jv 5 then some ((μ.1 306 23), μ) else if a = jv 6 then some ((μ.1 306 37), μ) else some ((μ.1 306 38), μ)) := by
  have hN := hw.1
  intro k
  induction k with
  | zero =>
    intro f i hi hf
    obtain ⟨f, rfl⟩ : ∃ g, f = g + 1 := ⟨f - 1, by omega⟩
    have ex : (if i ≤ fr then (i : Int) else fr) = fr := by split <;> omega
    rw [sh_X12_count_26, ex]
    simp only [jv_lit]
    rw [mbl9 hm, Option.bind_some, Option.bind_some, hN.1, if_pos (by rw [jv_le] <;> omega)]
  | succ k ih =>
    intro f i hi hf
    obtain ⟨f, rfl⟩ : ∃ g, f = g + 1 := ⟨f - 1, by omega⟩
    have ih1 := ih f (i + 1) (by omega) (by omega)
    rw [sh_X12_count_26]
    simp only [jv_lit, nm_eq]
    rw [mbl9 hm, Option.bind_some, hN.1, if_neg (by rw [jv_le] <;> omega), hm.oP (by omega), Option.bind_some, jv_add, jv_add, jv_add, show (i : Int) + 1 = ((i + 1 : Nat) : Int) by omega]
    rw [← ih1]
    clear ih ih1
    rcases hw.pb (s := i) (by omega) with ⟨y, z⟩ | ⟨y, z⟩
    · rw [if_pos (by rw [y])]
      congr 2
      rw [if_pos (by omega), if_pos (by omega)]
      omega
    · rw [if_neg (by rw [y, jv_eq] <;> omega)]
      congr 2
      rw [if_neg (show ¬ i + 1 ≤ fr by omega)]
      split <;> omega
theorem q_count (hn : 16001 ≤ n) {μ : Mm} (hq : QS μ R N fr) (a : Int32) : Qr [1] μ (sh_X11_count a μ) (sh_X12_count n a μ) := by
  obtain ⟨hw, hb, hL, hm⟩ := hq
  have hN := hw.1
  obtain ⟨z, h1, h2, rfl⟩ := jv_ex a
  unfold sh_X11_count sh_X12_count
  rw [li0, li7, in_b ⟨h1, h2⟩ (by unfold i32; omega) (by unfold i32; omega), Option.bind_some, pas, Option.bind_some]
  simp only [jv_lit]
  by_cases hz : 0 ≤ z ∧ z ≤ 7
  · rw [if_pos hz, if_pos hz, if_neg (show ¬ jv 1 = jv 0 by decide)]
    obtain ⟨μ1, e, hy, hf⟩ := layMM (n := n) hn hw (by omega) (hm.r00 (v := jv 0))
    have f0 : Fm PQ μ (sI μ 306 0 (jv 0)) := Fm.rf.sI (by omega)
    have g1 := f0.tr hf PMY_Q
    have hm1 := hm.fr g1 (fun i _ => by omega)
    have th : μ1.1 306 0 = jv 0 := by rw [hf.at _ _ (by omega), sI_1, if_pos ⟨rfl, rfl⟩]
    have e0 : sh_X12_count_26 n (jv z) n (jv 0) (jv 0) μ1 = _ := cn26 (n := n) (a := jv z) hm1 hw N n 0 (by omega) (by omega)
    rw [e, Option.bind_some, e0]
    have hz8 : z = 0 ∨ z = 1 ∨ z = 2 ∨ z = 3 ∨ z = 4 ∨ z = 5 ∨ z = 6 ∨ z = 7 := by omega
    rcases hz8 with rfl | rfl | rfl | rfl | rfl | rfl | rfl | rfl
    · rw [if_pos rfl, if_pos rfl]
      exact ⟨_, _, _, rfl, rfl, g1, th, hb.2.2.1.2.1.symm⟩
    · rw [if_neg (by decide), if_pos rfl, if_neg (by decide), if_pos rfl]
      exact ⟨_, _, _, rfl, rfl, g1, th, hb.2.2.1.2.2.symm⟩
    · rw [if_neg (by decide), if_neg (by decide), if_pos rfl, if_neg (by decide), if_neg (by decide), if_pos rfl]
      exact ⟨_, _, _, rfl, rfl, g1, th, hy.2.1.2.1.1.trans hL.2.2.2.1.2.1.1.symm⟩
    · rw [if_neg (by decide), if_neg (by decide), if_neg (by decide), if_pos rfl, if_neg (by decide), if_neg (by decide), if_neg (by decide), if_pos rfl]
      exact ⟨_, _, _, rfl, rfl, g1, th, hy.2.2.1.trans hL.2.2.2.2.1.symm⟩
    · rw [if_neg (by decide), if_neg (by decide), if_neg (by decide), if_neg (by decide), if_pos rfl, if_neg (by decide), if_neg (by decide), if_neg (by decide), if_neg (by decide), if_pos rfl]
      exact ⟨_, _, _, rfl, rfl, g1, th, hy.2.1.1.2.2.trans hL.2.2.1.2.2.2.symm⟩
    · rw [if_neg (by decide), if_neg (by decide), if_neg (by decide), if_neg (by decide), if_neg (by decide), if_pos rfl, if_neg (by decide), if_neg (by decide), if_neg (by decide), if_neg (by decide), if_neg (by decide), if_pos rfl]
      exact ⟨_, _, _, rfl, rfl, g1, th, hy.2.1.1.2.1.trans hL.2.2.1.2.2.1.symm⟩
    · rw [if_neg (by decide), if_neg (by decide), if_neg (by decide), if_neg (by decide), if_neg (by decide), if_neg (by decide), if_pos rfl, if_neg (by decide), if_neg (by decide), if_neg (by decide), if_neg (by decide), if_neg (by decide), if_neg (by decide), if_pos rfl]
      exact ⟨_, _, _, rfl, rfl, g1, th, hy.2.1.2.2.2.1.trans hL.2.2.2.1.2.2.2.1.symm⟩
    · rw [if_neg (by decide), if_neg (by decide), if_neg (by decide), if_neg (by decide), if_neg (by decide), if_neg (by decide), if_neg (by decide), if_pos rfl, if_neg (by decide), if_neg (by decide), if_neg (by decide), if_neg (by decide), if_neg (by decide), if_neg (by decide), if_neg (by decide)]
      exact ⟨_, _, _, rfl, rfl, g1, th, hy.2.1.2.2.2.2.trans hL.2.2.2.1.2.2.2.2.symm⟩
  · rw [if_neg hz, if_neg hz, if_pos (show jv 0 = jv 0 from rfl)]
    have ne : ∀ y : Int, 0 ≤ y → y ≤ 7 → ¬ jv z = jv y := fun y c d => by rw [jv_eq] <;> omega
    rw [if_neg (ne _ (by omega) (by omega)), if_neg (ne _ (by omega) (by omega)), if_neg (ne _ (by omega) (by omega)), if_neg (ne _ (by omega) (by omega)), if_neg (ne _ (by omega) (by omega)), if_neg (ne _ (by omega) (by omega)), if_neg (ne _ (by omega) (by omega)), if_neg (ne _ (by omega) (by omega))]
    exact ⟨_, _, _, rfl, rfl, Fm.rf.sI (by omega), 0, rfl, by rw [sI_1, if_pos ⟨rfl, rfl⟩]; rfl⟩
theorem q_setting {μ : Mm} (hq : QS μ R N fr) (a : Int32) : Qr [1] μ (sh_X11_setting a μ) (sh_X12_setting a μ) := by
  obtain ⟨hw, hb, hL, hm⟩ := hq
  obtain ⟨z, h1, h2, rfl⟩ := jv_ex a
  unfold sh_X11_setting sh_X11_setting_10 sh_X12_setting
  rw [li0, li7, in_b ⟨h1, h2⟩ (by unfold i32; omega) (by unfold i32; omega), Option.bind_some, pas, Option.bind_some]
  simp only [jv_lit]
  by_cases hz : 0 ≤ z ∧ z ≤ 7
  · obtain ⟨i, rfl⟩ : ∃ i : Nat, z = i := ⟨z.toNat, by omega⟩
    rw [if_pos hz, if_pos hz, if_neg (show ¬ jv 1 = jv 0 by decide), if_neg (by rw [jv_lt] <;> omega), if_pos (by rw [jv_lt] <;> omega), hb.se i (by omega), mb7 (hm.r00 (v := jv 0)) i (by omega)]
    exact ⟨_, _, _, rfl, rfl, Fm.rf.sI (by omega), by rw [sI_1, if_pos ⟨rfl, rfl⟩], rfl⟩
  · rw [if_neg hz, if_neg hz, if_pos (show jv 0 = jv 0 from rfl)]
    have fin : Qr [1] μ (some (.inl 1)) (some (jv 0, sI μ 306 0 (jv 1))) := ⟨_, _, _, rfl, rfl, Fm.rf.sI (by omega), 0, rfl, by rw [sI_1, if_pos ⟨rfl, rfl⟩]; rfl⟩
    by_cases y : z < 0
    · rw [if_pos (by rw [jv_lt] <;> omega)]
      exact fin
    · rw [if_neg (by rw [jv_lt] <;> omega), if_neg (by rw [jv_lt] <;> omega)]
      exact fin
theorem q_isRight {μ : Mm} (hq : QS μ R N fr) : Qn μ (sh_X11_isRight μ) (sh_X12_isRight μ) := by
  obtain ⟨hw, hb, hL, hm⟩ := hq
  have h8 := hw.2.2.2.2.2.2.2.2.2.1
  unfold sh_X11_isRight sh_X12_isRight
  simp only [jv_lit]
  rw [pt_eq, Option.bind_some, mbl8 hm.r00, Option.bind_some, hb.2.2.1.1, isB_jv h8, Option.bind_some]
  refine ⟨jv (R 8), sI μ 306 0 (jv 0), rfl, ?_, Fm.rf.sI (by omega)⟩
  rcases h8 with e | e
  · rw [e, if_neg (by rw [jv_eq] <;> omega)]
  · rw [e, if_pos rfl]
theorem chM {μ : Mm} (hm : MB 307 μ R) (hw : WB 500 R N fr) (hl : LM μ R N) {s : Nat} (hs : s < N) : ∀ (k f i : Nat), i + k = N → k < f → sh_X12_childrenOf_4 n (jv s) μ f (jv (ch R s i)) (jv i) = some (jv (ch R s N)) := by
  have hN := hw.1
  have l1 : ln 311 = 24 := rfl
  intro k
  induction k with
  | zero =>
    intro f i hi hf
    obtain ⟨f, rfl⟩ : ∃ g, f = g + 1 := ⟨f - 1, by omega⟩
    rw [sh_X12_childrenOf_4, jv_lit (nat_lit 9), mbl9 hm, Option.bind_some, hN.1, if_pos (by rw [jv_le] <;> omega), show i = N by omega]
  | succ k ih =>
    intro f i hi hf
    obtain ⟨f, rfl⟩ : ∃ g, f = g + 1 := ⟨f - 1, by omega⟩
    have ih1 := ih f (i + 1) (by omega) (by omega)
    have hp := pr_b R i
    rw [sh_X12_childrenOf_4]
    simp only [jv_lit, nm_eq]
    rw [mbl9 hm, Option.bind_some, hN.1, if_neg (by rw [jv_le] <;> omega), ld_jv (by omega) (by omega), Option.bind_some, Int.toNat_natCast, (hl i (by omega)).1, jv_add, jv_add, jv_add, show (i : Int) + 1 = ((i + 1 : Nat) : Int) by omega, ← ih1]
    by_cases y : pr R i = s
    · rw [if_pos (by rw [y])]
      congr 2
      rw [ch, if_pos y]
    · rw [if_neg (by rw [jv_eq] <;> omega)]
      congr 2
      rw [ch, if_neg y]
theorem q_section (hn : 16001 ≤ n) {μ : Mm} (hq : QS μ R N fr) (a b : Int32) : Qr [2, 1] μ (sh_X11_section a b μ) (sh_X12_section n a b μ) := by
  have hN := hq.1.1
  obtain ⟨z, h1, h2, rfl⟩ := jv_ex a
  obtain ⟨y, h3, h4, rfl⟩ := jv_ex b
  unfold sh_X11_section sh_X12_section
  rw [ckS hq ⟨h1, h2⟩, Option.bind_some, isS hq.2.2.2 hq.1 ⟨h1, h2⟩, Option.bind_some, li0, li6, in_b ⟨h3, h4⟩ (by unfold i32; omega) (by unfold i32; omega), Option.bind_some, pas2, Option.bind_some]
  obtain ⟨hw, hb, hL, hm⟩ := hq
  simp only [jv_lit]
  by_cases hz : 0 ≤ z ∧ z < N
  · rw [if_pos hz, Sum.elim_inr]
    obtain ⟨s, rfl⟩ : ∃ s : Nat, z = s := ⟨z.toNat, by omega⟩
    have hs : s < N := by omega
    by_cases hy : 0 ≤ y ∧ y ≤ 6
    · rw [if_pos (⟨hz, hy⟩ : (0 ≤ (s : Int) ∧ (s : Int) < N) ∧ 0 ≤ y ∧ y ≤ 6), if_pos hz, if_pos hy, if_neg (show ¬ jv 1 = jv 0 by decide)]
      have hm1 := hm.r00 (v := jv 0)
      have f0 : Fm PQ μ (sI μ 306 0 (jv 0)) := Fm.rf.sI (by omega)
      have th : (sI μ 306 0 (jv 0)).1 306 0 = jv 0 := by rw [sI_1, if_pos ⟨rfl, rfl⟩]
      generalize (sI μ 306 0 (jv 0)) = μ1 at *
      have hme := hL.2.1
      have l1 : ln (40 + 1) = 24 := rfl
      have l2 : ln (42 + 1) = 24 := rfl
      have l3 : ln (44 + 1) = 24 := rfl
      have l4 : ln 311 = 24 := rfl
      have l5 : ln 312 = 24 := rfl
      by_cases hy4 : 4 ≤ y
      · rw [if_pos (show jv 4 ≤ jv y by rw [jv_le] <;> omega)]
        obtain ⟨μ2, e2, hl2, f2⟩ := layLM (n := n) (by omega) hw hm1
        rw [e2, Option.bind_some]
        have g2 := f0.tr f2 (fun k j q => by omega)
        have th2 : μ2.1 306 0 = jv 0 := by rw [f2.at _ _ (by omega), th]
        have hm2 := hm1.fr f2 (fun i _ => by omega)
        have hy3 : y = 4 ∨ y = 5 ∨ y = 6 := by omega
        rcases hy3 with rfl | rfl | rfl
        · rw [if_neg (by decide), if_neg (by decide), if_neg (by decide), if_neg (by decide), if_pos rfl, if_pos rfl, a5_in (by omega) (by omega), ld_jv (by omega) (by omega), Int.toNat_natCast]
          exact ⟨_, _, _, rfl, rfl, g2, th2, (hl2 s hs).1.trans (hme.2 s hs).1.symm⟩
        · rw [if_neg (by decide), if_neg (by decide), if_neg (by decide), if_neg (by decide), if_neg (by decide), if_pos rfl, if_neg (by decide), if_pos rfl, a5_in (by omega) (by omega), Int.toNat_natCast]
          unfold sh_X12_childrenOf
          have := chM (n := n) hm2 hw hl2 hs N n 0 (by omega) (by omega)
          rw [jv0]
          rw [show ch R s 0 = 0 from rfl, show jv ((0 : Nat) : Int) = jv 0 from rfl] at this
          rw [this]
          exact ⟨_, _, _, rfl, rfl, g2, th2, (hme.2 s hs).2.1.symm⟩
        · rw [if_neg (by decide), if_neg (by decide), if_neg (by decide), if_neg (by decide), if_neg (by decide), if_neg (by decide), if_pos rfl, if_neg (by decide), if_neg (by decide), a5_in (by omega) (by omega), ld_jv (by omega) (by omega), Int.toNat_natCast]
          exact ⟨_, _, _, rfl, rfl, g2, th2, (hl2 s hs).2.trans (hme.2 s hs).2.2.1.symm⟩
      · rw [if_neg (show ¬ jv 4 ≤ jv y by rw [jv_le] <;> omega)]
        have hy3 : y = 0 ∨ y = 1 ∨ y = 2 ∨ y = 3 := by omega
        rcases hy3 with rfl | rfl | rfl | rfl
        · rw [if_pos rfl, hb.lv hw hs, hm1.oL (by omega)]
          exact ⟨_, _, _, rfl, rfl, f0, th, rfl⟩
        · rw [if_neg (by decide), if_pos rfl, hb.lg hw hs, hm1.oN (by omega)]
          exact ⟨_, _, _, rfl, rfl, f0, th, rfl⟩
        · rw [if_neg (by decide), if_neg (by decide), if_pos rfl, hb.po hw hs, hm1.oP (by omega)]
          exact ⟨_, _, _, rfl, rfl, f0, th, rfl⟩
        · rw [if_neg (by decide), if_neg (by decide), if_neg (by decide), if_pos rfl, hb.wc hw hs, hm1.oW (by omega)]
          exact ⟨_, _, _, rfl, rfl, f0, th, rfl⟩
    · rw [if_neg (fun q : (0 ≤ (s : Int) ∧ (s : Int) < N) ∧ 0 ≤ y ∧ y ≤ 6 => hy q.2), if_pos hz, if_neg hy, if_pos (show jv 0 = jv 0 from rfl)]
      have ne : ∀ y' : Int, 0 ≤ y' → y' ≤ 6 → ¬ jv y = jv y' := fun y' c d => by rw [jv_eq] <;> omega
      rw [if_neg (ne _ (by omega) (by omega)), if_neg (ne _ (by omega) (by omega)), if_neg (ne _ (by omega) (by omega)), if_neg (ne _ (by omega) (by omega)), if_neg (ne _ (by omega) (by omega)), if_neg (ne _ (by omega) (by omega)), if_neg (ne _ (by omega) (by omega))]
      exact ⟨_, _, _, rfl, rfl, Fm.rf.sI (by omega), 1, rfl, by rw [sI_1, if_pos ⟨rfl, rfl⟩]; rfl⟩
  · rw [if_neg hz, if_neg (fun q : (0 ≤ z ∧ z < N) ∧ 0 ≤ y ∧ y ≤ 6 => hz q.1), if_neg hz, if_pos (show jv 0 = jv 0 from rfl)]
    exact ⟨_, _, _, rfl, rfl, Fm.rf.sI (by omega), 0, rfl, by rw [sI_1, if_pos ⟨rfl, rfl⟩]; rfl⟩
end ASK
