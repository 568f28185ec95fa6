/-! CALLS that ask for lines -/
def cnt (P : Nat → Prop) [DecidablePred P] : Nat → Nat → Int
  | 0, _ => 0
  | k + 1, i => (if P i then 1 else 0) + cnt P k (i + 1)
theorem cnt_app (P : Nat → Prop) [DecidablePred P] : ∀ (j k i : Nat), cnt P (j + k) i = cnt P j i + cnt P k (i + j) := by
  intro j
  induction j with
  | zero => intro k i; rw [Nat.zero_add, Nat.add_zero, cnt]; omega
  | succ j ih =>
    intro k i
    rw [show j + 1 + k = (j + k) + 1 by omega, cnt, cnt, ih k (i + 1), show i + 1 + j = i + (j + 1) by omega]
    omega
theorem cnt_no (P : Nat → Prop) [DecidablePred P] : ∀ (k i : Nat), (∀ j, i ≤ j → j < i + k → ¬ P j) → cnt P k i = 0 := by
  intro k
  induction k with
  | zero => intro i _; rfl
  | succ k ih =>
    intro i h
    rw [cnt, if_neg (h i (Nat.le_refl _) (by omega)), ih (i + 1) (fun j h1 h2 => h j (by omega) (by omega))]
    rfl
theorem cnt_b (P : Nat → Prop) [DecidablePred P] : ∀ (k i : Nat), 0 ≤ cnt P k i ∧ cnt P k i ≤ k := by
  intro k
  induction k with
  | zero => intro i; exact ⟨Int.le_refl _, Int.le_refl _⟩
  | succ k ih =>
    intro i
    have := ih (i + 1)
    rw [cnt]
    split <;> omega
section LNQ
variable {n : Nat} {R : Nat → Int} {N fr : Nat}
theorem isLn (hn : 16001 ≤ n) {μ : Mm} (hw : WB 500 R N fr) (hm : MB 307 μ R) {a : Int} (ha : i32 a) : ∃ μ1, sh_X12_isLine n (jv a) μ = some (jv (if 0 ≤ a ∧ a < (TB R (tpF R N) N N).1 then 1 else 0), μ1) ∧ MB 307 μ1 R ∧ MY μ1 R N fr ∧ Fm PMY μ μ1 := by
  have hT := TB_n hw (by omega) (tpF_b hw (by omega)) N (Nat.le_refl _)
  have hN := hw.1
  obtain ⟨μ1, e, hy, hf⟩ := layMM (n := n) hn hw (by omega) hm
  refine ⟨μ1, ?_, hm.fr hf (fun i _ => by omega), hy, hf⟩
  unfold sh_X12_isLine
  rw [e, Option.bind_some, hy.2.1.2.1.1, jv_lit (nat_lit 1), jv_sub, li0, in_b ha (by unfold i32; omega) (by unfold i32; omega), Option.bind_some]
  show _ = some (jv (if 0 ≤ a ∧ a < (TB R (tpF R N) N N).1 then 1 else 0), μ1)
  by_cases z : 0 ≤ a ∧ a < (TB R (tpF R N) N N).1
  · rw [if_pos (by omega), if_pos z, isB_1]
    rfl
  · rw [if_neg (by omega), if_neg z, isB_0]
    rfl
theorem ckL {μ : Mm} (h : QS μ R N fr) {a : Int} (ha : i32 a) : sh_X11_checkLine (jv a) μ = some (if 0 ≤ a ∧ a < (TB R (tpF R N) N N).1 then .inr () else .inl 2) := by
  have hT := TB_n h.1 (by omega) (tpF_b h.1 (by omega)) N (Nat.le_refl _)
  have hN := h.1.1
  unfold i32 at ha
  unfold sh_X11_checkLine sh_X11_checkLine_18
  simp only [jv_lit]
  have e : μ.1 61 2 = jv (TB R (tpF R N) N N).1 := h.2.2.1.2.2.2.1.2.1.1
  rw [e]
  show _ = some (if 0 ≤ a ∧ a < (TB R (tpF R N) N N).1 then Sum.inr () else Sum.inl 2)
  by_cases z : a < 0
  · rw [if_pos (by rw [jv_lt] <;> omega), if_neg (by omega)]
  · rw [if_neg (by rw [jv_lt] <;> omega)]
    by_cases y : a < (TB R (tpF R N) N N).1
    · rw [if_pos (by rw [jv_lt] <;> omega), if_pos ⟨by omega, y⟩]
    · rw [if_neg (by rw [jv_lt] <;> omega), if_neg (by omega)]
theorem q_line (hn : 16001 ≤ n) {μ : Mm} (hq : QS μ R N fr) (a b : Int32) : Qr [2, 1] μ (sh_X11_line a b μ) (sh_X12_line n a b μ) := by
  have hN := hq.1.1
  have hR := hq.1.2.2.1
  have h0 := tpF_b hq.1 (by omega)
  have hT := TB_n hq.1 (by omega) h0 N (Nat.le_refl _)
  obtain ⟨z, h1, h2, rfl⟩ := jv_ex a
  obtain ⟨y, h3, h4, rfl⟩ := jv_ex b
  obtain ⟨μ1, e1, hm1, hy, hf⟩ := isLn (n := n) hn hq.1 hq.2.2.2 (a := z) ⟨h1, h2⟩
  have g1 := hf.mono PMY_Q
  unfold sh_X11_line sh_X12_line
  rw [ckL hq ⟨h1, h2⟩, Option.bind_some, e1, Option.bind_some, li0, li4, in_b ⟨h3, h4⟩ (by unfold i32; omega) (by unfold i32; omega), Option.bind_some, pas2, Option.bind_some]
  obtain ⟨hw, hb, hL, hm⟩ := hq
  simp only [jv_lit]
  by_cases hz : 0 ≤ z ∧ z < (TB R (tpF R N) N N).1
  · rw [if_pos hz, Sum.elim_inr]
    obtain ⟨i, rfl⟩ : ∃ i : Nat, z = i := ⟨z.toNat, by omega⟩
    have hi : i < (TB R (tpF R N) N N).1 := by have := hz.2; omega
    by_cases hy2 : 0 ≤ y ∧ y ≤ 4
    · rw [if_pos (⟨hz, hy2⟩ : (0 ≤ (i : Int) ∧ (i : Int) < (TB R (tpF R N) N N).1) ∧ 0 ≤ y ∧ y ≤ 4), if_pos hz, if_pos hy2, if_neg (show ¬ jv 1 = jv 0 by decide)]
      have f0 : Fm PQ μ (sI μ1 306 0 (jv 0)) := g1.sI (by omega)
      have th : (sI μ1 306 0 (jv 0)).1 306 0 = jv 0 := by rw [sI_1, if_pos ⟨rfl, rfl⟩]
      have hy1 := hy.r0 (v := jv 0)
      have hm2 := hm1.r00 (v := jv 0)
      generalize (sI μ1 306 0 (jv 0)) = μ2 at *
      have h5 : y = 0 ∨ y = 1 ∨ y = 2 ∨ y = 3 ∨ y = 4 := by omega
      rcases h5 with rfl | rfl | rfl | rfl | rfl
      · rw [if_pos rfl, if_pos rfl, hL.col hw (by omega) (c := 0) (by omega) hi rfl, hy1.2.1.c0 hw (by omega) h0 hi]
        exact ⟨_, _, _, rfl, rfl, f0, th, rfl⟩
      · rw [if_neg (by decide), if_pos rfl, if_neg (by decide), if_pos rfl, hL.col hw (by omega) (c := 1) (by omega) hi rfl, hy1.2.1.c1 hw (by omega) h0 hi]
        exact ⟨_, _, _, rfl, rfl, f0, th, rfl⟩
      · rw [if_neg (by decide), if_neg (by decide), if_pos rfl, if_neg (by decide), if_neg (by decide), if_pos rfl, hL.col hw (by omega) (c := 2) (by omega) hi rfl, hy1.2.1.c2 hw (by omega) h0 hi]
        exact ⟨_, _, _, rfl, rfl, f0, th, rfl⟩
      · rw [if_neg (by decide), if_neg (by decide), if_neg (by decide), if_pos rfl, if_neg (by decide), if_neg (by decide), if_neg (by decide), if_pos rfl, hL.col hw (by omega) (c := 3) (by omega) hi rfl, hy1.2.1.c3 hw (by omega) h0 hi]
        exact ⟨_, _, _, rfl, rfl, f0, th, rfl⟩
      · rw [if_neg (by decide), if_neg (by decide), if_neg (by decide), if_neg (by decide), if_pos rfl, if_neg (by decide), if_neg (by decide), if_neg (by decide), if_neg (by decide), hb.s1, Option.bind_some, qu_in (by omega) (by omega) (by omega) (by omega), Option.bind_some, mbl1 hm2, Option.bind_some, dv_jv (by omega) (by omega) (by omega) (by omega), Option.bind_some, jv_add, jv_add]
        exact ⟨_, _, _, rfl, rfl, f0, th, by rw [Int.add_comm]⟩
    · rw [if_neg (fun q : (0 ≤ (i : Int) ∧ (i : Int) < (TB R (tpF R N) N N).1) ∧ 0 ≤ y ∧ y ≤ 4 => hy2 q.2), if_pos hz, if_neg hy2, if_pos (show jv 0 = jv 0 from rfl)]
      have ne : ∀ y' : Int, 0 ≤ y' → y' ≤ 4 → ¬ jv y = jv y' := fun y' c d => by rw [jv_eq] <;> omega
      rw [if_neg (ne _ (by omega) (by omega)), if_neg (ne _ (by omega) (by omega)), if_neg (ne _ (by omega) (by omega)), if_neg (ne _ (by omega) (by omega)), if_neg (ne _ (by omega) (by omega))]
      exact ⟨_, _, _, rfl, rfl, g1.sI (by omega), 1, rfl, by rw [sI_1, if_pos ⟨rfl, rfl⟩]; rfl⟩
  · rw [if_neg hz, if_neg (fun q : (0 ≤ z ∧ z < (TB R (tpF R N) N N).1) ∧ 0 ≤ y ∧ y ≤ 4 => hz q.1), if_neg hz, if_pos (show jv 0 = jv 0 from rfl)]
    exact ⟨_, _, _, rfl, rfl, g1.sI (by omega), 0, rfl, by rw [sI_1, if_pos ⟨rfl, rfl⟩]; rfl⟩
theorem ckLL {μ : Mm} (hw : WB 500 R N fr) (hL : LY 38 μ R N fr) {i e : Nat} (hf : LF R (tpF R N) N i e) : sh_X11_checkLastLine (jv i) μ = some (if i + 1 = (TB R (tpF R N) N (e + 1)).1 then .inr () else .inl 3) := by
  unfold sh_X11_checkLastLine
  rw [show (61 : Nat) = 38 + 23 from rfl, hL.last hw (by omega) hf, Option.bind_some]
  by_cases z : i + 1 = (TB R (tpF R N) N (e + 1)).1
  · rw [if_pos z, if_pos z, if_neg one_ne]
  · rw [if_neg z, if_neg z, if_pos zro]
theorem q_dotCount (hn : 16001 ≤ n) {μ : Mm} (hq : QS μ R N fr) (a : Int32) : Qr [2, 3] μ (sh_X11_dotCount a μ) (sh_X12_dotCount n a μ) := by
  have hN := hq.1.1
  have h0 := tpF_b hq.1 (by omega)
  obtain ⟨z, h1, h2, rfl⟩ := jv_ex a
  obtain ⟨μ1, e1, hm1, hy, hf⟩ := isLn (n := n) hn hq.1 hq.2.2.2 (a := z) ⟨h1, h2⟩
  have g1 := hf.mono PMY_Q
  unfold sh_X11_dotCount sh_X12_dotCount sh_X12_dotCount_21 sh_X12_dotCount_26
  rw [ckL hq ⟨h1, h2⟩, Option.bind_some, e1, Option.bind_some]
  simp only [nm_eq, jv_lit]
  obtain ⟨hw, hb, hL, hm⟩ := hq
  by_cases hz : 0 ≤ z ∧ z < (TB R (tpF R N) N N).1
  · rw [if_pos hz, if_pos hz, Sum.elim_inr, if_neg (show ¬ jv 1 = jv 0 by decide)]
    obtain ⟨i, rfl⟩ : ∃ i : Nat, z = i := ⟨z.toNat, by omega⟩
    have hi : i < (TB R (tpF R N) N N).1 := by have := hz.2; omega
    obtain ⟨e, hE⟩ := LF.ex hw (by omega) h0 hi
    have h5 := hE.2.2.2.2.2.2.1
    rw [ckLL hw hL hE, Option.bind_some, hy.2.1.c5 hw (by omega) h0 hi, Option.bind_some, h5]
    by_cases y : i + 1 = (TB R (tpF R N) N (e + 1)).1
    · have h6 := hE.2.2.2.2.2.2.2.1 y
      rw [if_pos y, if_pos y, Sum.elim_inr, if_neg (show ¬ jv 1 = jv 0 by decide), hL.col hw (by omega) (c := 0) (by omega) hi rfl, Option.bind_some, hE.2.1, show (78 : Nat) = 38 + 40 from rfl, (hL.sec4 hw hE.1.1).2.2.2]
      have ep : sh_X12_passes2 (jv 1) (jv 1) μ1 = some (jv 1, sI μ1 306 0 (jv 0)) := rfl
      rw [ep, Option.bind_some, Option.bind_some, if_neg (show ¬ jv 1 = jv 0 by decide), (hy.r0 (v := jv 0)).2.1.c6 hw (by omega) h0 hi]
      exact ⟨_, _, _, rfl, rfl, g1.sI (by omega), by rw [sI_1, if_pos ⟨rfl, rfl⟩], by rw [h6.1, h6.2.2.1]⟩
    · rw [if_neg y, if_neg y, Sum.elim_inl, if_pos (show jv 0 = jv 0 from rfl)]
      have ep : sh_X12_passes2 (jv 1) (jv 0) μ1 = some (jv 0, sI μ1 306 0 (jv 2)) := rfl
      rw [ep, Option.bind_some, if_pos (show jv 0 = jv 0 from rfl)]
      exact ⟨_, _, _, rfl, rfl, g1.sI (by omega), 1, rfl, by rw [sI_1, if_pos ⟨rfl, rfl⟩]; rfl⟩
  · rw [if_neg hz, if_neg hz, Sum.elim_inl, if_pos (show jv 0 = jv 0 from rfl)]
    have ep : sh_X12_passes2 (jv 0) (jv 1) μ1 = some (jv 0, sI μ1 306 0 (jv 1)) := rfl
    rw [ep, Option.bind_some, if_pos (show jv 0 = jv 0 from rfl)]
    exact ⟨_, _, _, rfl, rfl, g1.sI (by omega), 0, rfl, by rw [sI_1, if_pos ⟨rfl, rfl⟩]; rfl⟩
theorem q_firstDot (hn : 16001 ≤ n) {μ : Mm} (hq : QS μ R N fr) (a : Int32) : Qr [2, 3] μ (sh_X11_firstDot a μ) (sh_X12_firstDot n a μ) := by
  have hN := hq.1.1
  have h0 := tpF_b hq.1 (by omega)
  obtain ⟨z, h1, h2, rfl⟩ := jv_ex a
  obtain ⟨μ1, e1, hm1, hy, hf⟩ := isLn (n := n) hn hq.1 hq.2.2.2 (a := z) ⟨h1, h2⟩
  have g1 := hf.mono PMY_Q
  unfold sh_X11_firstDot sh_X12_firstDot sh_X12_firstDot_21 sh_X12_firstDot_26
  rw [ckL hq ⟨h1, h2⟩, Option.bind_some, e1, Option.bind_some]
  simp only [nm_eq, jv_lit]
  obtain ⟨hw, hb, hL, hm⟩ := hq
  by_cases hz : 0 ≤ z ∧ z < (TB R (tpF R N) N N).1
  · rw [if_pos hz, if_pos hz, Sum.elim_inr, if_neg (show ¬ jv 1 = jv 0 by decide)]
    obtain ⟨i, rfl⟩ : ∃ i : Nat, z = i := ⟨z.toNat, by omega⟩
    have hi : i < (TB R (tpF R N) N N).1 := by have := hz.2; omega
    obtain ⟨e, hE⟩ := LF.ex hw (by omega) h0 hi
    have h5 := hE.2.2.2.2.2.2.1
    rw [ckLL hw hL hE, Option.bind_some, hy.2.1.c5 hw (by omega) h0 hi, Option.bind_some, h5]
    by_cases y : i + 1 = (TB R (tpF R N) N (e + 1)).1
    · have h6 := hE.2.2.2.2.2.2.2.1 y
      rw [if_pos y, if_pos y, Sum.elim_inr, if_neg (show ¬ jv 1 = jv 0 by decide), hL.col hw (by omega) (c := 0) (by omega) hi rfl, Option.bind_some, hE.2.1, show (76 : Nat) = 38 + 38 from rfl, (hL.sec4 hw hE.1.1).2.2.1]
      have ep : sh_X12_passes2 (jv 1) (jv 1) μ1 = some (jv 1, sI μ1 306 0 (jv 0)) := rfl
      rw [ep, Option.bind_some, Option.bind_some, if_neg (show ¬ jv 1 = jv 0 by decide), (hy.r0 (v := jv 0)).2.1.c7 hw (by omega) h0 hi]
      exact ⟨_, _, _, rfl, rfl, g1.sI (by omega), by rw [sI_1, if_pos ⟨rfl, rfl⟩], by rw [h6.2.1, h6.2.2.1]⟩
    · rw [if_neg y, if_neg y, Sum.elim_inl, if_pos (show jv 0 = jv 0 from rfl)]
      have ep : sh_X12_passes2 (jv 1) (jv 0) μ1 = some (jv 0, sI μ1 306 0 (jv 2)) := rfl
      rw [ep, Option.bind_some, if_pos (show jv 0 = jv 0 from rfl)]
      exact ⟨_, _, _, rfl, rfl, g1.sI (by omega), 1, rfl, by rw [sI_1, if_pos ⟨rfl, rfl⟩]; rfl⟩
  · rw [if_neg hz, if_neg hz, Sum.elim_inl, if_pos (show jv 0 = jv 0 from rfl)]
    have ep : sh_X12_passes2 (jv 0) (jv 1) μ1 = some (jv 0, sI μ1 306 0 (jv 1)) := rfl
    rw [ep, Option.bind_some, if_pos (show jv 0 = jv 0 from rfl)]
    exact ⟨_, _, _, rfl, rfl, g1.sI (by omega), 0, rfl, by rw [sI_1, if_pos ⟨rfl, rfl⟩]; rfl⟩
/-! beyond the limit -/
theorem bdC {μ : Mm} (hw : WB 500 R N fr) {t : Nat} (hL : LY t μ R N fr) {i : Nat} (hi : i < (TB R (tpF R N) N N).1) : sh_X7_isBeyondLimit (t + 23) (jv i) μ = some (jv (if limT R (tpF R N) N < (TB R (tpF R N) N N).2 2 i then 1 else 0)) := by
  have h0 := tpF_b hw (by omega)
  have hl := (limT_b hw (by omega) h0).2
  obtain ⟨e, hE⟩ := LF.ex hw (by omega) h0 hi
  have h2 := hE.2.2.2.1
  unfold sh_X7_isBeyondLimit
  rw [hL.col hw (by omega) (c := 2) (by omega) hi (by omega), Option.bind_some, hL.2.2.2.1.2.2.2.2]
  simp only [jv_lit]
  show _ = some (jv (if limT R (tpF R N) N < (TB R (tpF R N) N N).2 2 i then 1 else 0))
  by_cases z : limT R (tpF R N) N < (TB R (tpF R N) N N).2 2 i
  · rw [if_neg (by rw [jv_le] <;> omega), if_pos z]
  · rw [if_pos (by rw [jv_le] <;> omega), if_neg z]
theorem q_isOverfull (hn : 16001 ≤ n) {μ : Mm} (hq : QS μ R N fr) (a : Int32) : Qr [2] μ (sh_X11_isOverfull a μ) (sh_X12_isOverfull n a μ) := by
  have h0 := tpF_b hq.1 (by omega)
  have hl := (limT_b hq.1 (by omega) h0).2
  obtain ⟨z, h1, h2, rfl⟩ := jv_ex a
  obtain ⟨μ1, e1, hm1, hy, hf⟩ := isLn (n := n) hn hq.1 hq.2.2.2 (a := z) ⟨h1, h2⟩
  have g1 := hf.mono PMY_Q
  unfold sh_X11_isOverfull sh_X12_isOverfull
  rw [ckL hq ⟨h1, h2⟩, Option.bind_some, e1, Option.bind_some, pas, Option.bind_some]
  obtain ⟨hw, hb, hL, hm⟩ := hq
  simp only [jv_lit]
  by_cases hz : 0 ≤ z ∧ z < (TB R (tpF R N) N N).1
  · rw [if_pos hz, if_pos hz, if_pos hz, Sum.elim_inr, if_neg (show ¬ jv 1 = jv 0 by decide)]
    obtain ⟨i, rfl⟩ : ∃ i : Nat, z = i := ⟨z.toNat, by omega⟩
    have hi : i < (TB R (tpF R N) N N).1 := by have := hz.2; omega
    obtain ⟨e, hE⟩ := LF.ex hw (by omega) h0 hi
    have h2 := hE.2.2.2.1
    have hy1 := hy.r0 (v := jv 0)
    rw [show (61 : Nat) = 38 + 23 from rfl, bdC hw hL hi, Option.bind_some, hy1.2.1.c2 hw (by omega) h0 hi, Option.bind_some, hy1.2.1.2.2.2.2]
    have f0 : Fm PQ μ (sI μ1 306 0 (jv 0)) := g1.sI (by omega)
    have th : (sI μ1 306 0 (jv 0)).1 306 0 = jv 0 := by rw [sI_1, if_pos ⟨rfl, rfl⟩]
    show Qr [2] μ ((isB (jv (if limT R (tpF R N) N < (TB R (tpF R N) N N).2 2 i then 1 else 0))).bind _) _
    by_cases y : limT R (tpF R N) N < (TB R (tpF R N) N N).2 2 i
    · rw [if_pos y, isB_1, if_neg (show ¬ jv ((TB R (tpF R N) N N).2 2 i) ≤ _ by rw [jv_le] <;> omega)]
      exact ⟨_, _, _, rfl, rfl, f0, th, rfl⟩
    · rw [if_neg y, isB_0, if_pos (show jv ((TB R (tpF R N) N N).2 2 i) ≤ _ by rw [jv_le] <;> omega)]
      exact ⟨_, _, _, rfl, rfl, f0, th, rfl⟩
  · rw [if_neg hz, if_neg hz, if_neg hz, if_pos (show jv 0 = jv 0 from rfl)]
    exact ⟨_, _, _, rfl, rfl, g1.sI (by omega), 0, rfl, by rw [sI_1, if_pos ⟨rfl, rfl⟩]; rfl⟩
def ovf (R : Nat → Int) (N : Nat) : Int := cnt (fun i => limT R (tpF R N) N < (TB R (tpF R N) N N).2 2 i) (TB R (tpF R N) N N).1 0
theorem ovC {μ : Mm} (hw : WB 500 R N fr) {t : Nat} (hL : LY t μ R N fr) : ∀ (k f i : Nat) (x : Int), i + k = (TB R (tpF R N) N N).1 → k < f → sh_X7_linesBeyondLimit_4 n (t + 23) μ f (jv x) (jv i) = some (jv (x + cnt (fun i => limT R (tpF R N) N < (TB R (tpF R N) N N).2 2 i) k i)) := by
  have h0 := tpF_b hw (by omega)
  have hT := TB_n hw (by omega) h0 N (Nat.le_refl _)
  have hN := hw.1
  have eT : μ.1 (t + 23) 2 = jv (TB R (tpF R N) N N).1 := hL.2.2.2.1.2.1.1
  intro k
  induction k with
  | zero =>
    intro f i x hi hf
    obtain ⟨f, rfl⟩ : ∃ g, f = g + 1 := ⟨f - 1, by omega⟩
    rw [sh_X7_linesBeyondLimit_4, eT, if_pos (by rw [jv_le] <;> omega), cnt, Int.add_zero]
  | succ k ih =>
    intro f i x hi hf
    obtain ⟨f, rfl⟩ : ∃ g, f = g + 1 := ⟨f - 1, by omega⟩
    rw [sh_X7_linesBeyondLimit_4, eT, if_neg (by rw [jv_le] <;> omega), bdC hw hL (by omega), Option.bind_some]
    simp only [jv_lit]
    rw [jv_add, jv_add, show (i : Int) + 1 = ((i + 1 : Nat) : Int) by omega, cnt]
    by_cases y : limT R (tpF R N) N < (TB R (tpF R N) N N).2 2 i
    · rw [if_pos y, if_neg (show ¬ jv 1 = jv 0 by decide), ih f (i + 1) _ (by omega) (by omega), Int.add_assoc]
    · rw [if_neg y, if_pos (show jv 0 = jv 0 from rfl), ih f (i + 1) _ (by omega) (by omega), Int.zero_add]
theorem ovM {μ : Mm} (hw : WB 500 R N fr) (hy : MY μ R N fr) : ∀ (k f i : Nat) (x : Int), i + k = (TB R (tpF R N) N N).1 → k < f → sh_X12_overfulls_4 n μ f (jv x) (jv i) = some (jv (x + cnt (fun i => limT R (tpF R N) N < (TB R (tpF R N) N N).2 2 i) k i)) := by
  have h0 := tpF_b hw (by omega)
  have hT := TB_n hw (by omega) h0 N (Nat.le_refl _)
  have hl := (limT_b hw (by omega) h0).2
  have hN := hw.1
  have eT : μ.1 306 36 = jv (TB R (tpF R N) N N).1 := hy.2.1.2.1.1
  intro k
  induction k with
  | zero =>
    intro f i x hi hf
    obtain ⟨f, rfl⟩ : ∃ g, f = g + 1 := ⟨f - 1, by omega⟩
    rw [sh_X12_overfulls_4, eT, if_pos (by rw [jv_le] <;> omega), cnt, Int.add_zero]
  | succ k ih =>
    intro f i x hi hf
    obtain ⟨f, rfl⟩ : ∃ g, f = g + 1 := ⟨f - 1, by omega⟩
    have hiT : i < (TB R (tpF R N) N N).1 := by omega
    obtain ⟨e, hE⟩ := LF.ex hw (by omega) h0 hiT
    have h2 := hE.2.2.2.1
    rw [sh_X12_overfulls_4, eT, if_neg (by rw [jv_le] <;> omega), hy.2.1.c2 hw (by omega) h0 hiT, Option.bind_some, hy.2.1.2.2.2.2]
    simp only [jv_lit, nm_eq]
    rw [jv_add, jv_add, jv_add, show (i : Int) + 1 = ((i + 1 : Nat) : Int) by omega, cnt]
    by_cases y : limT R (tpF R N) N < (TB R (tpF R N) N N).2 2 i
    · rw [if_pos (show limT R (tpF R N) N < (TB R (tpF R N) N N).2 2 i from y), if_neg (by rw [jv_le] <;> omega), ih f (i + 1) _ (by omega) (by omega), Int.add_assoc]
    · rw [if_neg (show ¬ limT R (tpF R N) N < (TB R (tpF R N) N N).2 2 i from y), if_pos (by rw [jv_le] <;> omega), ih f (i + 1) _ (by omega) (by omega), Int.zero_add, Int.add_zero]
theorem q_overfullCount (hn : 16001 ≤ n) {μ : Mm} (hq : QS μ R N fr) : Qn μ (sh_X11_overfullCount n μ) (sh_X12_overfullCount n μ) := by
  obtain ⟨hw, hb, hL, hm⟩ := hq
  have h0 := tpF_b hw (by omega)
  have hT := TB_n hw (by omega) h0 N (Nat.le_refl _)
  have hN := hw.1
  obtain ⟨μ1, e, hy, hf⟩ := layMM (n := n) hn hw (by omega) (hm.r00 (v := jv 0))
  have f0 : Fm PQ μ (sI μ 306 0 (jv 0)) := Fm.rf.sI (by omega)
  unfold sh_X11_overfullCount sh_X12_overfullCount sh_X7_linesBeyondLimit sh_X12_overfulls
  simp only [jv_lit]
  rw [pt_eq, Option.bind_some, e, Option.bind_some]
  have eC : sh_X7_linesBeyondLimit_4 n 61 μ n (jv 0) (jv 0) = _ := ovC (n := n) hw hL (TB R (tpF R N) N N).1 n 0 0 (by omega) (by omega)
  have eM : sh_X12_overfulls_4 n μ1 n (jv 0) (jv 0) = _ := ovM (n := n) hw hy (TB R (tpF R N) N N).1 n 0 0 (by omega) (by omega)
  rw [eC, eM]
  exact ⟨_, _, rfl, rfl, f0.tr hf PMY_Q⟩
theorem q_rounds (hn : 16001 ≤ n) {μ : Mm} (hq : QS μ R N fr) : Qn μ (sh_X11_rounds μ) (sh_X12_rounds n μ) := by
  obtain ⟨hw, hb, hL, hm⟩ := hq
  obtain ⟨μ1, e, hy, hf⟩ := layMM (n := n) hn hw (by omega) (hm.r00 (v := jv 0))
  have f0 : Fm PQ μ (sI μ 306 0 (jv 0)) := Fm.rf.sI (by omega)
  unfold sh_X11_rounds sh_X12_rounds
  simp only [jv_lit]
  rw [pt_eq, Option.bind_some, e, Option.bind_some, hL.2.2.2.2.2, hy.2.2.2]
  exact ⟨_, _, rfl, rfl, f0.tr hf PMY_Q⟩
end LNQ
