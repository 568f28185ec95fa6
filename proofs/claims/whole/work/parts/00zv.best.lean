/-! THE BEST WIDTH -/
section BST
variable {n : Nat} {R : Nat → Int} {N fr : Nat}
def bwR (R : Nat → Int) (N : Nat) : Nat → Nat → Int → Int → Int → Int
  | 0, _, b, _, _ => b
  | k + 1, w, b, o, l => if ovf (bup R 0 w) N < o ∨ ovf (bup R 0 w) N = o ∧ ((TB (bup R 0 w) (tpF (bup R 0 w) N) N N).1 : Int) < l then bwR R N k (w + 1) w (ovf (bup R 0 w) N) (TB (bup R 0 w) (tpF (bup R 0 w) N) N N).1 else bwR R N k (w + 1) b o l
theorem ovf_b (hw : WB 500 R N fr) : 0 ≤ ovf R N ∧ ovf R N ≤ 192 := by
  have h0 := tpF_b hw (by omega)
  have hT := TB_n hw (by omega) h0 N (Nat.le_refl _)
  have hN := hw.1
  have := cnt_b (fun i => limT R (tpF R N) N < (TB R (tpF R N) N N).2 2 i) (TB R (tpF R N) N N).1 0
  unfold ovf
  omega
theorem bwC (hn : 300 ≤ n) (hw : WB 500 R N fr) : ∀ (k f w : Nat) (μ : Mm) (v0 b o l : Int), w + k = 121 → 20 ≤ w → k < f → TRI μ R N fr (bup R 0 v0) → 0 ≤ o ∧ o ≤ 2147483647 → 0 ≤ l ∧ l ≤ 2147483647 → ∃ μ1, sh_X11_bestWidth_19 n f (jv b) (jv o) (jv l) (jv w) μ = some (jv (bwR R N k w b o l), μ1) ∧ Fm PTR μ μ1 := by
  intro k
  induction k with
  | zero =>
    intro f w μ v0 b o l hj hw2 hf ht ho hl
    obtain ⟨f, rfl⟩ : ∃ g, f = g + 1 := ⟨f - 1, by omega⟩
    rw [sh_X11_bestWidth_19, if_pos (by rw [jv_lit (nat_lit 120), jv_lt] <;> omega)]
    exact ⟨μ, rfl, Fm.rf⟩
  | succ k ih =>
    intro f w μ v0 b o l hj hw2 hf ht ho hl
    obtain ⟨f, rfl⟩ : ∃ g, f = g + 1 := ⟨f - 1, by omega⟩
    obtain ⟨μ0, μ1, e0, e1, t1, y1, f1⟩ := ht.wid (n := n) (by omega) (v := (w : Int)) (by omega)
    rw [bup_bup] at t1 y1
    have hw' : WB 500 (bup R 0 w) N fr := hw.wid (by omega)
    have h0 := tpF_b hw' (by omega)
    have hT := TB_n hw' (by omega) h0 N (Nat.le_refl _)
    have hN := hw'.1
    have hov := ovf_b hw'
    have eo : sh_X7_linesBeyondLimit n 121 μ1 = some (jv (ovf (bup R 0 w) N)) := by
      unfold sh_X7_linesBeyondLimit
      have e : sh_X7_linesBeyondLimit_4 n (98 + 23) μ1 n (jv 0) (jv 0) = _ := ovC (n := n) hw' y1 (TB (bup R 0 w) (tpF (bup R 0 w) N) N N).1 n 0 0 (by omega) (by omega)
      rw [jv0, show (121 : Nat) = 98 + 23 from rfl, e, Int.zero_add]
      rfl
    have eT : μ1.1 121 2 = jv (TB (bup R 0 w) (tpF (bup R 0 w) N) N N).1 := y1.2.2.2.1.2.1.1
    rw [sh_X11_bestWidth_19, if_neg (by rw [jv_lit (nat_lit 120), jv_lt] <;> omega)]
    simp only [jv_lit, nm_eq]
    rw [e0, Option.bind_some, e1, Option.bind_some, eo, Option.bind_some, eT, bwR]
    unfold sh_X11_bestWidth_92
    simp only [jv_lit]
    rw [jv_add, show (w : Int) + 1 = ((w + 1 : Nat) : Int) by omega]
    obtain ⟨μ2, e2, f2⟩ := ih f (w + 1) μ1 w w (ovf (bup R 0 w) N) (TB (bup R 0 w) (tpF (bup R 0 w) N) N N).1 (by omega) (by omega) (by omega) t1 (by omega) (by omega)
    obtain ⟨μ3, e3, f3⟩ := ih f (w + 1) μ1 w b o l (by omega) (by omega) (by omega) t1 ho hl
    have a2 : ∃ μ4, sh_X11_bestWidth_19 n f (jv w) (jv (ovf (bup R 0 w) N)) (jv (TB (bup R 0 w) (tpF (bup R 0 w) N) N N).1) (jv ((w + 1 : Nat) : Int)) μ1 = some (jv (bwR R N k (w + 1) w (ovf (bup R 0 w) N) (TB (bup R 0 w) (tpF (bup R 0 w) N) N N).1), μ4) ∧ Fm PTR μ μ4 := ⟨μ2, e2, f1.tr f2 (fun _ _ y => y)⟩
    have a3 : ∃ μ4, sh_X11_bestWidth_19 n f (jv b) (jv o) (jv l) (jv ((w + 1 : Nat) : Int)) μ1 = some (jv (bwR R N k (w + 1) b o l), μ4) ∧ Fm PTR μ μ4 := ⟨μ3, e3, f1.tr f3 (fun _ _ y => y)⟩
    by_cases z : ovf (bup R 0 w) N < o
    · rw [if_pos (show jv (ovf (bup R 0 w) N) < jv o by rw [jv_lt] <;> omega), if_pos (Or.inl z)]
      exact a2
    · rw [if_neg (show ¬ jv (ovf (bup R 0 w) N) < jv o by rw [jv_lt] <;> omega)]
      by_cases y : ovf (bup R 0 w) N = o
      · rw [if_pos (show jv (ovf (bup R 0 w) N) = jv o by rw [y])]
        by_cases v : ((TB (bup R 0 w) (tpF (bup R 0 w) N) N N).1 : Int) < l
        · rw [if_neg (show ¬ jv l ≤ _ by rw [jv_le] <;> omega), if_pos (Or.inr ⟨y, v⟩)]
          exact a2
        · rw [if_pos (show jv l ≤ _ by rw [jv_le] <;> omega), if_neg (fun q => by rcases q with q | q <;> omega)]
          exact a3
      · rw [if_neg (show ¬ jv (ovf (bup R 0 w) N) = jv o by rw [jv_eq] <;> omega), if_neg (fun q => by rcases q with q | q <;> omega)]
        exact a3
theorem bwM (hn : 16001 ≤ n) (hw : WB 500 R N fr) {μs : Mm} (hms : MB 307 μs R) : ∀ (k f w : Nat) (μ : Mm) (v0 b o l : Int), w + k = 121 → 20 ≤ w → k < f → MB 307 μ (bup R 0 v0) → Fm (PNE 0) μs μ → (b = -1 ∧ (0 < k ∧ o = 193) ∨ 20 ≤ b ∧ b ≤ 120 ∧ 0 ≤ o ∧ o ≤ 1000) → 0 ≤ l ∧ l ≤ 2147483647 → ∃ μ1, sh_X12_bestWidth_23 n f (jv (R 0)) (jv b) (jv (if b = -1 then 0 else o)) (jv (if b = -1 then 0 else l)) (jv w) μ = some (jv (bwR R N k w b o l), μ1) ∧ Fm PQ μs μ1 := by
  have l1 : ln 307 = 18701 := rfl
  intro k
  induction k with
  | zero =>
    intro f w μ v0 b o l hj hw2 hf hm hF hb hl
    obtain ⟨f, rfl⟩ : ∃ g, f = g + 1 := ⟨f - 1, by omega⟩
    rw [sh_X12_bestWidth_23, if_pos (by rw [jv_lit (nat_lit 120), jv_lt] <;> omega), jv0, st_jv (by omega) (by omega), Option.bind_some]
    exact ⟨_, rfl, back (c := 0) (by omega) hms hF⟩
  | succ k ih =>
    intro f w μ v0 b o l hj hw2 hf hm hF hb hl
    obtain ⟨f, rfl⟩ : ∃ g, f = g + 1 := ⟨f - 1, by omega⟩
    have hw' : WB 500 (bup R 0 w) N fr := hw.wid (by omega)
    have h0 := tpF_b hw' (by omega)
    have hT := TB_n hw' (by omega) h0 N (Nat.le_refl _)
    have hN := hw'.1
    have hov := ovf_b hw'
    have hm1 : MB 307 (sI μ 307 0 (jv w)) (bup R 0 w) := by
      have := hm.up (v := (w : Int)) (j := 0) (by omega)
      rw [bup_bup] at this
      exact this
    obtain ⟨μ2, e2, y2, f2⟩ := layMM (n := n) hn hw' (by omega) hm1
    have hm2 := hm1.fr f2 (fun i _ => by omega)
    have F2 : Fm (PNE 0) μs μ2 := (hF.sI (Or.inr ⟨rfl, rfl⟩)).tr f2 (fun k j y => Or.inl (PMY_Q k j y))
    have eo : sh_X12_overfulls n μ2 = some (jv (ovf (bup R 0 w) N)) := by
      unfold sh_X12_overfulls
      have e : sh_X12_overfulls_4 n μ2 n (jv 0) (jv 0) = _ := ovM (n := n) hw' y2 (TB (bup R 0 w) (tpF (bup R 0 w) N) N N).1 n 0 0 (by omega) (by omega)
      rw [jv0, e, Int.zero_add]
      rfl
    have eT : μ2.1 306 36 = jv (TB (bup R 0 w) (tpF (bup R 0 w) N) N N).1 := y2.2.1.2.1.1
    rw [sh_X12_bestWidth_23, if_neg (by rw [jv_lit (nat_lit 120), jv_lt] <;> omega)]
    unfold sh_X12_bestWidth_74 sh_X12_bestWidth_78 sh_X12_bestWidth_79
    simp only [jv_lit, nm_eq]
    rw [st_jv (by omega) (by omega), Option.bind_some, show (0 : Int).toNat = 0 from rfl, e2, Option.bind_some, eo, Option.bind_some, eT, jv_neg, jv_add, show (w : Int) + 1 = ((w + 1 : Nat) : Int) by omega, if_neg (show ¬ jv 1 = jv 0 by decide), bwR]
    have a2 : ∃ μ1, sh_X12_bestWidth_23 n f (jv (R 0)) (jv w) (jv (ovf (bup R 0 w) N)) (jv (TB (bup R 0 w) (tpF (bup R 0 w) N) N N).1) (jv ((w + 1 : Nat) : Int)) μ2 = some (jv (bwR R N k (w + 1) w (ovf (bup R 0 w) N) (TB (bup R 0 w) (tpF (bup R 0 w) N) N N).1), μ1) ∧ Fm PQ μs μ1 := by
      have := ih f (w + 1) μ2 w w (ovf (bup R 0 w) N) (TB (bup R 0 w) (tpF (bup R 0 w) N) N N).1 (by omega) (by omega) (by omega) hm2 F2 (Or.inr (by omega)) (by omega)
      rw [if_neg (show ¬ (w : Int) = -1 by omega), if_neg (show ¬ (w : Int) = -1 by omega)] at this
      exact this
    by_cases x : b = -1
    · subst x
      have ho : o = 193 := by omega
      rw [if_pos (show jv (-1) = jv (-1) from rfl), if_pos (Or.inl (by omega))]
      exact a2
    · have a3 : ∃ μ1, sh_X12_bestWidth_23 n f (jv (R 0)) (jv b) (jv o) (jv l) (jv ((w + 1 : Nat) : Int)) μ2 = some (jv (bwR R N k (w + 1) b o l), μ1) ∧ Fm PQ μs μ1 := by
        have := ih f (w + 1) μ2 w b o l (by omega) (by omega) (by omega) hm2 F2 (Or.inr (by omega)) hl
        rw [if_neg x, if_neg x] at this
        exact this
      rw [if_neg (show ¬ jv b = jv (-1) by rw [jv_eq] <;> omega), if_neg x, if_neg x]
      by_cases z : ovf (bup R 0 w) N < o
      · rw [if_pos (show jv (ovf (bup R 0 w) N) < jv o by rw [jv_lt] <;> omega), if_pos (Or.inl z)]
        exact a2
      · rw [if_neg (show ¬ jv (ovf (bup R 0 w) N) < jv o by rw [jv_lt] <;> omega)]
        by_cases y : ovf (bup R 0 w) N = o
        · rw [if_pos (show jv (ovf (bup R 0 w) N) = jv o by rw [y])]
          by_cases v : ((TB (bup R 0 w) (tpF (bup R 0 w) N) N N).1 : Int) < l
          · rw [if_neg (show ¬ jv l ≤ _ by rw [jv_le] <;> omega), if_pos (Or.inr ⟨y, v⟩)]
            exact a2
          · rw [if_pos (show jv l ≤ _ by rw [jv_le] <;> omega), if_pos trivial, if_neg (fun q => by rcases q with q | q <;> omega)]
            exact a3
        · rw [if_neg (show ¬ jv (ovf (bup R 0 w) N) = jv o by rw [jv_eq] <;> omega), if_pos trivial, if_neg (fun q => by rcases q with q | q <;> omega)]
          exact a3
theorem bw_first (hw : WB 500 R N fr) : bwR R N 101 20 20 193 193 = bwR R N 101 20 (-1) 193 193 := by
  have h1 := ovf_b (hw.wid (v := ((20 : Nat) : Int)) (by omega))
  have e : ∀ b : Int, bwR R N 101 20 b 193 193 = bwR R N 100 (20 + 1) ((20 : Nat) : Int) (ovf (bup R 0 ((20 : Nat) : Int)) N) (TB (bup R 0 ((20 : Nat) : Int)) (tpF (bup R 0 ((20 : Nat) : Int)) N) N N).1 := fun b => by
    rw [bwR, if_pos (Or.inl (by omega))]
  rw [e, e]
theorem q_bestWidth (hn : 16001 ≤ n) {μ : Mm} (hq : QS μ R N fr) : Qw μ (sh_X11_bestWidth n μ) (sh_X12_bestWidth n) := by
  have hw := hq.1
  obtain ⟨μ1, e1, t1, f1⟩ := sTr (n := n) (by omega) hq
  have t1' : TRI μ1 R N fr (bup R 0 (R 0)) := by rw [bup_own]; exact t1
  obtain ⟨μ2, e2, f2⟩ := bwC (n := n) (by omega) hw 101 n 20 μ1 (R 0) 20 193 193 (by omega) (by omega) (by omega) t1' (by omega) (by omega)
  have F : Fw PV QV μ μ2 := (f1.mono PTR_V Q95).tr (Fw.of (Q := QV) f2) PTR_V (fun _ y => y)
  have hm2 := hq.2.2.2.fw F (fun i _ => by omega)
  have f3 : Fm (PNE 0) μ2 (sI μ2 306 0 (jv 0)) := Fm.rf.sI (by omega)
  obtain ⟨μ4, e4, f4⟩ := bwM (n := n) hn hw hm2 101 n 20 (sI μ2 306 0 (jv 0)) (R 0) (-1) 193 193 (by omega) (by omega) (by omega) (by rw [bup_own]; exact hm2.r00) f3 (Or.inl (by omega)) (by omega)
  rw [if_pos rfl, ← bw_first hw] at e4
  have e2' : sh_X11_bestWidth_19 n n (20 : Int32) (193 : Int32) (193 : Int32) (20 : Int32) μ1 = _ := e2
  have e4' : sh_X12_bestWidth_23 n n (jv (R 0)) (-1 : Int32) (0 : Int32) (0 : Int32) (20 : Int32) (sI μ2 306 0 (jv 0)) = _ := e4
  refine ⟨jv (bwR R N 101 20 20 193 193), μ2, μ4, ?_, ?_, F.tr (Fw.of (Q := QV) f4) (fun k j y => Or.inl y) (fun _ y => y)⟩
  · unfold sh_X11_bestWidth
    rw [e1, Option.bind_some, e2']
  · unfold sh_X12_bestWidth
    rw [jv0, pt_eq, Option.bind_some, mbl0 hm2.r00, Option.bind_some]
    exact e4'
end BST
