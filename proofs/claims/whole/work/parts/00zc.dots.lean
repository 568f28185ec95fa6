/-! DOTS at a unit -/
section DTS
variable {n : Nat} {R : Nat → Int} {N fr : Nat}
abbrev isD (g u x c : Int) : Prop := 0 < c ∧ x ≤ u ∧ u % g = 0 ∧ (u - x) / g < c
def dC (R : Nat → Int) (N e : Nat) : Int := dCn R (nwd R (tpF R N) e) (lL (TB R (tpF R N) N (e + 1)) 2)
def dF (R : Nat → Int) (N e : Nat) : Int := dFi R (nwd R (tpF R N) e) (lL (TB R (tpF R N) N (e + 1)) 2)
/-- the dots of an entry: none, or from a place on that the grid divides -/
theorem dCF (hw : WB 500 R N fr) {e : Nat} (he : e < N) : dC R N e = 0 ∧ dF R N e = -1 ∨ (1 ≤ dC R N e ∧ dC R N e ≤ 200) ∧ (0 ≤ dF R N e ∧ dF R N e ≤ 200) ∧ ∃ Q : Int, dF R N e = Q * R 7 := by
  have h0 := tpF_b hw (by omega)
  have hm := TB_mono hw (by omega) h0 he
  have hE := LF.of hw (by omega) h0 he (i := (TB R (tpF R N) N (e + 1)).1 - 1) (by omega) (by omega)
  have h6 := hE.2.2.2.2.2.2.2.1 (by omega)
  have hb := dCn_b hw (e := lL (TB R (tpF R N) N (e + 1)) 2) (nw := nwd R (tpF R N) e) ⟨by rw [h6.2.2.1]; exact h6.2.2.2.1, by rw [h6.2.2.1]; exact hE.2.2.2.1.2⟩ (nwd_b hw (by omega) he h0.1 h0.2).1
  have hl : 0 ≤ lL (TB R (tpF R N) N (e + 1)) 2 ∧ lL (TB R (tpF R N) N (e + 1)) 2 ≤ 120 := ⟨by rw [h6.2.2.1]; exact h6.2.2.2.1, by rw [h6.2.2.1]; exact hE.2.2.2.1.2⟩
  have hR := hw.2
  unfold dC dF
  generalize lL (TB R (tpF R N) N (e + 1)) 2 = x at *
  unfold dFi dCn
  by_cases z : dX R x ≤ dM R (nwd R (tpF R N) e)
  · right
    rw [if_pos z, if_pos z]
    have hc : dCn R (nwd R (tpF R N) e) x = (dM R (nwd R (tpF R N) e) - dX R x) / R 7 + 1 := by unfold dCn; rw [if_pos z]
    rw [hc] at hb
    have h7 : 0 ≤ (dM R (nwd R (tpF R N) e) - dX R x) / R 7 := Int.ediv_nonneg (by omega) (by omega)
    refine ⟨by omega, ?_, (x + R 5 + R 7 - 1) / R 7, rfl⟩
    have a1 : (x + R 5 + R 7 - 1) / R 7 * R 7 ≤ x + R 5 + R 7 - 1 := Int.ediv_mul_le _ (by omega)
    have a2 : 0 ≤ (x + R 5 + R 7 - 1) / R 7 := Int.ediv_nonneg (by omega) (by omega)
    have a3 : 0 ≤ (x + R 5 + R 7 - 1) / R 7 * R 7 := Int.mul_nonneg a2 (by omega)
    unfold dX
    omega
  · left
    rw [if_neg z, if_neg z]
    exact ⟨rfl, rfl⟩
theorem dv_g {u x g Q : Int} (hx : x = Q * g) (hg : 1 ≤ g) : (u - x) / g * g = u - x ↔ u % g = 0 := by
  have e1 : (u - x) % g = u % g := by
    rw [hx, show u - Q * g = u + (-Q) * g by rw [Int.neg_mul]; omega, Int.add_mul_emod_self_right]
  have e2 := Int.emod_add_mul_ediv (u - x) g
  have e3 : g * ((u - x) / g) = (u - x) / g * g := Int.mul_comm _ _
  omega
theorem hdC {μ : Mm} (hw : WB 500 R N fr) (hL : LY 38 μ R N fr) {e : Nat} (he : e < N) {u : Int} (hu : 0 ≤ u ∧ u ≤ 2147483647) : sh_X7_hasDotAt 61 (jv e) (jv u) (jv (R 7)) μ = some (jv (if isD (R 7) u (dF R N e) (dC R N e) then 1 else 0)) := by
  have hR := hw.2
  have e1 : sh_X5_at (61 + 15) (jv e) μ = some (jv (dF R N e)) := (hL.sec4 hw he).2.2.1
  have e2 : sh_X5_at (61 + 17) (jv e) μ = some (jv (dC R N e)) := (hL.sec4 hw he).2.2.2
  unfold sh_X7_hasDotAt
  rw [e1, Option.bind_some, e2, jv_sub]
  simp only [nm_eq, jv_lit, Option.bind_some]
  rcases dCF hw he with ⟨hc, hx⟩ | ⟨hc, hx, Q, hQ⟩
  · have hn : ¬ isD (R 7) u (dF R N e) (dC R N e) := fun q => by have := q.1; omega
    rw [if_neg hn, hx, hc]
    by_cases y : u = 2147483647
    · obtain ⟨v, ev⟩ := qu_ex (x := jv (u - -1)) (y := jv (R 7)) (μ := μ)
      rw [ev, Option.bind_some, y, if_pos (show jv (2147483647 - -1) < jv 0 by decide)]
    · have hd : 0 ≤ (u - -1) / R 7 := Int.ediv_nonneg (by omega) (by omega)
      have hd2 : (u - -1) / R 7 ≤ u - -1 := Int.ediv_le_self _ (by omega)
      rw [qu_in (by omega) (by omega) (by omega) (by omega), Option.bind_some, if_neg (by rw [jv_lt] <;> omega), if_pos (by rw [jv_le] <;> omega)]
  · by_cases y : u < dF R N e
    · have hn : ¬ isD (R 7) u (dF R N e) (dC R N e) := fun q => by have := q.2.1; omega
      obtain ⟨v, ev⟩ := qu_ex (x := jv (u - dF R N e)) (y := jv (R 7)) (μ := μ)
      rw [ev, Option.bind_some, if_pos (show jv (u - dF R N e) < jv 0 by rw [jv_lt] <;> omega), if_neg hn]
    · have hd : 0 ≤ (u - dF R N e) / R 7 := Int.ediv_nonneg (by omega) (by omega)
      have hd2 : (u - dF R N e) / R 7 ≤ u - dF R N e := Int.ediv_le_self _ (by omega)
      rw [qu_in (by omega) (by omega) (by omega) (by omega), Option.bind_some, if_neg (show ¬ jv (u - dF R N e) < jv 0 by rw [jv_lt] <;> omega)]
      by_cases w : (u - dF R N e) / R 7 < dC R N e
      · have hdm : (u - dF R N e) / R 7 * R 7 ≤ u - dF R N e := Int.ediv_mul_le _ (by omega)
        have hdm0 : 0 ≤ (u - dF R N e) / R 7 * R 7 := Int.mul_nonneg hd (by omega)
        rw [if_neg (show ¬ jv (dC R N e) ≤ jv ((u - dF R N e) / R 7) by rw [jv_le] <;> omega), jv_mul]
        have hdg := dv_g (u := u) hQ (by omega : 1 ≤ R 7)
        by_cases v : u % R 7 = 0
        · have hp : isD (R 7) u (dF R N e) (dC R N e) := ⟨by omega, by omega, v, w⟩
          rw [if_pos hp, if_pos (by rw [hdg.mpr v])]
        · have hn : ¬ isD (R 7) u (dF R N e) (dC R N e) := fun q => v q.2.2.1
          rw [if_neg hn, if_neg (fun q => v (hdg.mp ((jv_eq (by omega) (by omega) (by omega) (by omega)).mp q)))]
      · have hn : ¬ isD (R 7) u (dF R N e) (dC R N e) := fun q => w q.2.2.2
        rw [if_pos (show jv (dC R N e) ≤ jv ((u - dF R N e) / R 7) by rw [jv_le] <;> omega), if_neg hn]
theorem daC {μ : Mm} (hw : WB 500 R N fr) (hb : CB 11 μ R N fr) (hL : LY 38 μ R N fr) {u : Int} (hu : 0 ≤ u ∧ u ≤ 2147483647) : ∀ (k f i : Nat) (x : Int), i + k = N → k < f → sh_X11_dotsAt_19 n (jv u) μ f (jv x) (jv i) = some (.inr (jv (x + cnt (fun e => isD (R 7) u (dF R N e) (dC R N e)) k i))) := by
  have hN := hw.1
  intro k
  induction k with
  | zero =>
    intro f i x hi hf
    obtain ⟨f, rfl⟩ : ∃ g, f = g + 1 := ⟨f - 1, by omega⟩
    rw [sh_X11_dotsAt_19, hb.2.2.1.2.1, if_pos (by rw [jv_le] <;> omega), cnt, Int.add_zero]
  | succ k ih =>
    intro f i x hi hf
    obtain ⟨f, rfl⟩ : ∃ g, f = g + 1 := ⟨f - 1, by omega⟩
    rw [sh_X11_dotsAt_19, hb.2.2.1.2.1, if_neg (by rw [jv_le] <;> omega), jv_lit (nat_lit 7), hb.s7, Option.bind_some, hdC hw hL (by omega) hu, Option.bind_some]
    simp only [jv_lit]
    rw [jv_add, jv_add, show (i : Int) + 1 = ((i + 1 : Nat) : Int) by omega, cnt]
    by_cases y : isD (R 7) u (dF R N i) (dC R N i)
    · rw [if_pos y, if_neg (show ¬ jv 1 = jv 0 by decide), ih f (i + 1) _ (by omega) (by omega), Int.add_assoc]
    · rw [if_neg y, if_pos (show jv 0 = jv 0 from rfl), ih f (i + 1) _ (by omega) (by omega), Int.zero_add]
/-- what the model asks of a line -/
abbrev isDl (R : Nat → Int) (N : Nat) (u : Int) (i : Nat) : Prop := isD (R 7) u ((TB R (tpF R N) N N).2 7 i) ((TB R (tpF R N) N N).2 6 i)
theorem daM {μ : Mm} (hw : WB 500 R N fr) (hm : MB 307 μ R) (hy : MY μ R N fr) {u : Int} (hu : 0 ≤ u ∧ u ≤ 2147483647) : ∀ (k f i : Nat) (x : Int), i + k = (TB R (tpF R N) N N).1 → k < f → sh_X12_dotsAt_26 n (jv u) f (jv x) (jv i) μ = some (jv (x + cnt (isDl R N u) k i), μ) := by
  have h0 := tpF_b hw (by omega)
  have hT := TB_n hw (by omega) h0 N (Nat.le_refl _)
  have hN := hw.1
  have hR := hw.2
  have eT : μ.1 306 36 = jv (TB R (tpF R N) N N).1 := hy.2.1.2.1.1
  intro k
  induction k with
  | zero =>
    intro f i x hi hf
    obtain ⟨f, rfl⟩ : ∃ g, f = g + 1 := ⟨f - 1, by omega⟩
    rw [sh_X12_dotsAt_26, eT, if_pos (by rw [jv_le] <;> omega), cnt, Int.add_zero]
  | succ k ih =>
    intro f i x hi hf
    obtain ⟨f, rfl⟩ : ∃ g, f = g + 1 := ⟨f - 1, by omega⟩
    have hiT : i < (TB R (tpF R N) N N).1 := by omega
    obtain ⟨e, hE⟩ := LF.ex hw (by omega) h0 hiT
    have hE1 := hE.1
    have hcf : (TB R (tpF R N) N N).2 6 i = 0 ∧ (TB R (tpF R N) N N).2 7 i = -1 ∨ (1 ≤ (TB R (tpF R N) N N).2 6 i ∧ (TB R (tpF R N) N N).2 6 i ≤ 200) ∧ (0 ≤ (TB R (tpF R N) N N).2 7 i ∧ (TB R (tpF R N) N N).2 7 i ≤ 200) := by
      by_cases z : i + 1 = (TB R (tpF R N) N (e + 1)).1
      · have h6 := hE.2.2.2.2.2.2.2.1 z
        have hd := dCF hw hE.1.1
        unfold dC dF at hd
        rw [h6.2.2.1, ← h6.1, ← h6.2.1] at hd
        rcases hd with hd | hd
        · exact Or.inl hd
        · exact Or.inr ⟨hd.1, hd.2.1⟩
      · exact Or.inl (hE.2.2.2.2.2.2.2.2 (by omega))
    have no : ¬ isDl R N u i → sh_X12_dotsAt_69 n (jv u) (fun (x2 : Int32) (x3 : Int32) (μ : Mm) => sh_X12_dotsAt_26 n (jv u) f x2 x3 μ) (jv x) (jv i) μ = some (jv (x + cnt (isDl R N u) (k + 1) i), μ) := by
      intro hn
      unfold sh_X12_dotsAt_69 sh_X12_dotsAt_70
      simp only [nm_eq]
      rw [if_pos trivial, jv0, jv_lit (nat_lit 1), jv_add, jv_add, show (i : Int) + 1 = ((i + 1 : Nat) : Int) by omega, cnt, if_neg hn, ih f (i + 1) _ (by omega) (by omega), Int.add_zero, Int.zero_add]
    rw [sh_X12_dotsAt_26, eT, if_neg (by rw [jv_le] <;> omega), hy.2.1.c6 hw (by omega) h0 hiT, Option.bind_some, hy.2.1.c7 hw (by omega) h0 hiT]
    simp only [jv_lit, Option.bind_some]
    by_cases y1 : 0 < (TB R (tpF R N) N N).2 6 i
    · rw [if_neg (by rw [jv_le] <;> omega)]
      by_cases y2 : (TB R (tpF R N) N N).2 7 i ≤ u
      · rw [if_neg (by rw [jv_lt] <;> omega), mbg7 hm, Option.bind_some, rm_jv (by omega) (by omega) (by omega) (by omega), Option.bind_some]
        have hr : 0 ≤ u % R 7 ∧ u % R 7 < R 7 := ⟨Int.emod_nonneg _ (by omega), Int.emod_lt_of_pos _ (by omega)⟩
        by_cases y3 : u % R 7 = 0
        · have hd : 0 ≤ (u - (TB R (tpF R N) N N).2 7 i) / R 7 := Int.ediv_nonneg (by omega) (by omega)
          have hd2 : (u - (TB R (tpF R N) N N).2 7 i) / R 7 ≤ u - (TB R (tpF R N) N N).2 7 i := Int.ediv_le_self _ (by omega)
          rw [if_pos (by rw [y3])]
          unfold sh_X12_dotsAt_70
          simp only [jv_lit, nm_eq]
          rw [if_neg (show ¬ jv 1 = jv 0 by decide), hy.2.1.c7 hw (by omega) h0 hiT, Option.bind_some, mbg7 hm, Option.bind_some, jv_sub, dv_jv (by omega) (by omega) (by omega) (by omega), Option.bind_some, hy.2.1.c6 hw (by omega) h0 hiT, Option.bind_some, jv_add, jv_add, jv_add, show (i : Int) + 1 = ((i + 1 : Nat) : Int) by omega, cnt]
          by_cases y4 : (u - (TB R (tpF R N) N N).2 7 i) / R 7 < (TB R (tpF R N) N N).2 6 i
          · have hp : isDl R N u i := ⟨y1, y2, y3, y4⟩
            rw [if_neg (by rw [jv_le] <;> omega), if_pos hp, ih f (i + 1) _ (by omega) (by omega), Int.add_assoc]
          · have hn : ¬ isDl R N u i := fun q => y4 q.2.2.2
            rw [if_pos (by rw [jv_le] <;> omega), if_neg hn, ih f (i + 1) _ (by omega) (by omega), Int.add_zero, Int.zero_add]
        · rw [if_neg (by rw [jv_eq] <;> omega)]
          exact no (fun q => y3 q.2.2.1)
      · rw [if_pos (by rw [jv_lt] <;> omega)]
        exact no (fun q => y2 q.2.1)
    · rw [if_pos (by rw [jv_le] <;> omega)]
      exact no (fun q => y1 q.1)
theorem cnt_DD (hw : WB 500 R N fr) {u : Int} : ∀ e, e ≤ N → cnt (isDl R N u) (TB R (tpF R N) N e).1 0 = cnt (fun e => isD (R 7) u (dF R N e) (dC R N e)) e 0 := by
  have h0 := tpF_b hw (by omega)
  intro e
  induction e with
  | zero => intro _; rfl
  | succ e ih =>
    intro he
    have hm := TB_mono hw (by omega) h0 (e := e) (by omega)
    have hE := LF.of hw (by omega) h0 (e := e) (by omega) (i := (TB R (tpF R N) N (e + 1)).1 - 1) (by omega) (by omega)
    have h6 := hE.2.2.2.2.2.2.2.1 (by omega)
    rw [cnt_app _ e 1 0, ← ih (by omega), show (TB R (tpF R N) N (e + 1)).1 = (TB R (tpF R N) N e).1 + (((TB R (tpF R N) N (e + 1)).1 - 1 - (TB R (tpF R N) N e).1) + 1) by omega, cnt_app, cnt_app, cnt_no _ _ (0 + (TB R (tpF R N) N e).1) (fun j h1 h2 => ?_)]
    · congr 1
      rw [Int.zero_add, cnt, cnt, cnt, cnt, show 0 + (TB R (tpF R N) N e).1 + ((TB R (tpF R N) N (e + 1)).1 - 1 - (TB R (tpF R N) N e).1) = (TB R (tpF R N) N (e + 1)).1 - 1 by omega, Nat.zero_add]
      unfold isDl dC dF
      rw [h6.1, h6.2.1, h6.2.2.1]
    · have hj := LF.of hw (by omega) h0 (e := e) (by omega) (i := j) (by omega) (by omega)
      have := hj.2.2.2.2.2.2.2.2 (by omega)
      intro q
      have := q.1
      omega
theorem q_dotsAt (hn : 16001 ≤ n) {μ : Mm} (hq : QS μ R N fr) (a : Int32) : Qr [1] μ (sh_X11_dotsAt n a μ) (sh_X12_dotsAt n a μ) := by
  obtain ⟨hw, hb, hL, hm⟩ := hq
  have h0 := tpF_b hw (by omega)
  have hT := TB_n hw (by omega) h0 N (Nat.le_refl _)
  have hN := hw.1
  obtain ⟨z, h1, h2, rfl⟩ := jv_ex a
  unfold sh_X11_dotsAt sh_X12_dotsAt sh_X12_dotsAt_10
  simp only [jv_lit]
  by_cases hz : 0 ≤ z
  · rw [if_pos (show jv 0 ≤ jv z by rw [jv_le] <;> omega), if_neg (show ¬ jv z < jv 0 by rw [jv_lt] <;> omega), pas1, Option.bind_some, if_neg (show ¬ jv 1 = jv 0 by decide)]
    obtain ⟨μ1, e, hy, hf⟩ := layMM (n := n) hn hw (by omega) (hm.r00 (v := jv 0))
    have f0 : Fm PQ μ (sI μ 306 0 (jv 0)) := Fm.rf.sI (by omega)
    have g1 := f0.tr hf PMY_Q
    have hm1 := hm.fr g1 (fun i _ => by omega)
    have th : μ1.1 306 0 = jv 0 := by rw [hf.at _ _ (by omega), sI_1, if_pos ⟨rfl, rfl⟩]
    have eC : sh_X11_dotsAt_19 n (jv z) μ n (jv 0) (jv 0) = _ := daC (n := n) hw hb hL ⟨hz, h2⟩ N n 0 0 (by omega) (by omega)
    have eM : sh_X12_dotsAt_26 n (jv z) n (jv 0) (jv 0) μ1 = _ := daM (n := n) hw hm1 hy ⟨hz, h2⟩ (TB R (tpF R N) N N).1 n 0 0 (by omega) (by omega)
    rw [e, Option.bind_some, eC, eM, cnt_DD hw N (Nat.le_refl _)]
    exact ⟨_, _, _, rfl, rfl, g1, th, rfl⟩
  · rw [if_neg (show ¬ jv 0 ≤ jv z by rw [jv_le] <;> omega), if_pos (show jv z < jv 0 by rw [jv_lt] <;> omega), pas0, Option.bind_some, if_pos (show jv 0 = jv 0 from rfl)]
    exact ⟨_, _, _, rfl, rfl, Fm.rf.sI (by omega), 0, rfl, by rw [sI_1, if_pos ⟨rfl, rfl⟩]; rfl⟩
end DTS
