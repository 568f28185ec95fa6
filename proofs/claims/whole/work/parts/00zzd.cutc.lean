/-! A BRANCH cut out by the class -/
def bend (R : Nat → Int) (pe s : Nat) : Nat → Nat → Nat
  | 0, e => e
  | k + 1, e => if pe ≤ e then e else if lev R e ≤ lev R s then e else bend R pe s k (e + 1)
theorem bend_sp (R : Nat → Int) (pe s : Nat) : ∀ k e, e ≤ pe → pe ≤ e + k → e ≤ bend R pe s k e ∧ bend R pe s k e ≤ pe ∧ (bend R pe s k e < pe → lev R (bend R pe s k e) ≤ lev R s) := by
  intro k
  induction k with
  | zero => intro e h1 h2; exact ⟨Nat.le_refl _, h1, fun h => by have : bend R pe s 0 e = e := rfl; omega⟩
  | succ k ih =>
    intro e h1 h2
    rw [bend]
    by_cases z : pe ≤ e
    · rw [if_pos z]
      exact ⟨Nat.le_refl _, h1, fun h => by omega⟩
    · rw [if_neg z]
      by_cases y : lev R e ≤ lev R s
      · rw [if_pos y]
        exact ⟨Nat.le_refl _, h1, fun _ => y⟩
      · rw [if_neg y]
        have := ih (e + 1) (by omega) (by omega)
        exact ⟨by omega, this.2.1, this.2.2⟩
section CTC
variable {n : Nat} {R : Nat → Int} {N fr s : Nat}
/-- where a section's part ends -/
def ptE (N fr s : Nat) : Nat := if s < fr then fr else N
def bm (R : Nat → Int) (N fr s : Nat) : Nat := bend R (ptE N fr s) s 30 (s + 1) - s
theorem bm_brn (hw : WB 500 R N fr) (hs : s < N) : brn R N fr s (bm R N fr s) ∧ s + bm R N fr s = bend R (ptE N fr s) s 30 (s + 1) := by
  have hN := hw.1
  have hp : s + 1 ≤ ptE N fr s ∧ ptE N fr s ≤ N := by unfold ptE; split <;> omega
  obtain ⟨h1, h2, h3⟩ := bend_sp R (ptE N fr s) s 30 (s + 1) hp.1 (by omega)
  have e : s + bm R N fr s = bend R (ptE N fr s) s 30 (s + 1) := by unfold bm; omega
  refine ⟨⟨by omega, by omega, fun x => ?_, fun a b => ?_⟩, e⟩
  · have : ptE N fr s = fr := if_pos x
    omega
  · rw [e]
    refine h3 ?_
    by_cases x : s < fr
    · have : ptE N fr s = fr := if_pos x
      omega
    · have : ptE N fr s = N := if_neg x
      omega
theorem cb44 {k m : Nat} (hw : WB 500 R N fr) (hs : s < N) (hb : brn R N fr s m) {μ : Mm} (hc : CB k μ R N fr) : ∃ μ1, sh_X0_cutBranch_44 n k (jv s) (jv (prt R s)) (jv ((s + m : Nat) : Int)) μ = some (jv m, μ1) ∧ CB k μ1 (cutR R N s m) (N - m) (if s < fr then fr - m else fr) ∧ (∀ j, j < N - m → μ1.1 (k + 12) j = μ.1 (k + 12) (sh1 s m j)) ∧ Fw (fun q j => q = k ∧ (j = 2 ∨ j = 3) ∨ q = k + 4 ∨ q = k + 6 ∨ q = k + 8 ∨ q = k + 12) (fun q => q = k + 10) μ μ1 := by
  have hN := hw.1
  obtain ⟨b1, b2, b3, b4⟩ := hb
  obtain ⟨hst, ⟨c1, c2, c3⟩, hsec⟩ := hc.2
  obtain ⟨μ1, e1, v1, v2, v3, v4, v5, f1⟩ := msC (a := s + m) (b := s) (c := N - (s + m)) hc.1 (by omega) (by omega) (μ := μ)
  have emv : ∀ j, j < N - m → mvi (s + m) s (N - (s + m)) j = sh1 s m j := by
    intro j hj
    unfold mvi sh1
    by_cases z : s ≤ j
    · rw [if_pos (by omega), if_pos z]
      omega
    · rw [if_neg (by omega), if_neg z]
  have ecut : ∀ j, j < 9 → cutR R N s m j = R j := fun j hj => by
    unfold cutR
    rw [if_neg (by omega), if_neg (by omega)]
  -- once the counts are set
  have fin : ∀ μ2 : Mm, Fm (fun q j => q = k ∧ (j = 2 ∨ j = 3)) μ1 μ2 → μ2.1 k 2 = jv ((N - m : Nat) : Int) → μ2.1 k 3 = jv (((if s < fr then fr - m else fr) : Nat) : Int) → CB k μ2 (cutR R N s m) (N - m) (if s < fr then fr - m else fr) ∧ (∀ j, j < N - m → μ2.1 (k + 12) j = μ.1 (k + 12) (sh1 s m j)) ∧ Fw (fun q j => q = k ∧ (j = 2 ∨ j = 3) ∨ q = k + 4 ∨ q = k + 6 ∨ q = k + 8 ∨ q = k + 12) (fun q => q = k + 10) μ μ2 := by
    intro μ2 f2 n2 n3
    refine ⟨⟨hc.1, fun i hi => ?_, ⟨?_, n2, n3⟩, fun j hj => ?_⟩, fun j hj => ?_, (f1.mono (fun q j y => by omega) (fun q y => y)).tr (Fw.of (Q := fun _ => False) f2) (fun q j y => by omega) (fun _ y => y.elim)⟩
    · rw [f2.at _ _ (by omega), f1.1 _ _ (by omega), hst i hi, ecut i (by omega)]
    · rw [f2.at _ _ (by omega), f1.1 _ _ (by omega), c1, ecut 8 (by omega)]
    · have hsj : sh1 s m j < N := by unfold sh1; split <;> omega
      obtain ⟨q1, q2, q3, q4⟩ := hsec _ hsj
      have hwc := (hw.sec hsj).2.2.2.1
      refine ⟨?_, ?_, ?_, fun w hww => ?_⟩
      · rw [f2.at _ _ (by omega), v1, emv j hj, q1, cut_lev b2 hj]
      · rw [f2.at _ _ (by omega), v2, emv j hj, q2, cut_lng b2 hj]
      · rw [f2.at _ _ (by omega), v3, emv j hj, q3, cut_wct b2 hj]
      · rw [cut_wct b2 hj] at hww
        rw [f2.1, v5 j w (by omega), emv j hj, q4 w hww]
        exact (pk_cg (fun p hp => cut_lt b2 hj (by omega) hp)).symm
    · rw [f2.at _ _ (by omega), v4, emv j hj]
  unfold sh_X0_cutBranch_44
  simp only [nm_eq, jv_lit]
  rw [c2, jv_sub, jv_sub, show (N : Int) - ((s + m : Nat) : Int) = ((N - (s + m) : Nat) : Int) by omega, e1, Option.bind_some, f1.1 _ _ (by omega), c2, show ((s + m : Nat) : Int) - (s : Int) = (m : Int) by omega, jv_sub, show (N : Int) - (m : Int) = ((N - m : Nat) : Int) by omega, pt_eq, Option.bind_some]
  have v33 : (sI μ1 k 2 (jv ((N - m : Nat) : Int))).1 k 3 = jv fr := by rw [sI_1, if_neg (by omega), f1.1 _ _ (by omega), c3]
  by_cases x : s < fr
  · have hpr := hw.p0 hs x
    have := b3 x
    rw [hpr, if_pos (show jv 0 = jv 0 from rfl), v33, jv_sub, show (fr : Int) - (m : Int) = ((fr - m : Nat) : Int) by omega, pt_eq, Option.bind_some]
    obtain ⟨g1, g2, g3⟩ := fin (sI (sI μ1 k 2 (jv ((N - m : Nat) : Int))) k 3 (jv ((fr - m : Nat) : Int))) ((Fm.rf.sI (by omega)).sI (by omega)) (by rw [sI_1, if_neg (by omega), sI_1, if_pos ⟨rfl, rfl⟩]) (by rw [sI_1, if_pos ⟨rfl, rfl⟩, if_pos x])
    exact ⟨_, rfl, g1, g2, g3⟩
  · have hpr := hw.p1 hs (by omega)
    rw [hpr, if_neg (show ¬ jv 1 = jv 0 by decide)]
    obtain ⟨g1, g2, g3⟩ := fin (sI μ1 k 2 (jv ((N - m : Nat) : Int))) (Fm.rf.sI (by omega)) (by rw [sI_1, if_pos ⟨rfl, rfl⟩]) (by rw [v33, if_neg x])
    exact ⟨_, rfl, g1, g2, g3⟩
theorem cb10 {μ : Mm} (hw : WB 500 R N fr) (hs : s < N) (hc : CB 11 μ R N fr) : ∀ (k f e : Nat), e ≤ ptE N fr s → ptE N fr s ≤ e + k → k < f → sh_X0_cutBranch_10 n 11 (jv s) f (jv (prt R s)) (jv e) μ = sh_X0_cutBranch_44 n 11 (jv s) (jv (prt R s)) (jv ((bend R (ptE N fr s) s k e : Nat) : Int)) μ := by
  have hN := hw.1
  have hp : prt R s = 0 ∨ prt R s = 1 := by rcases hw.pb hs with h | h <;> omega
  have epe : (if prt R s = 0 then fr else N) = ptE N fr s := by
    unfold ptE
    rcases hw.pb hs with ⟨h1, h2⟩ | ⟨h1, h2⟩
    · rw [if_pos h1, if_pos h2]
    · rw [if_neg (by omega), if_neg (by omega)]
  have hpN : ptE N fr s ≤ N := by unfold ptE; split <;> omega
  have hls := (hw.sec hs).2.1
  intro k
  induction k with
  | zero =>
    intro f e h1 h2 hf
    obtain ⟨f, rfl⟩ : ∃ g, f = g + 1 := ⟨f - 1, by omega⟩
    rw [sh_X0_cutBranch_10, (peC hc hp).1, Option.bind_some, epe, if_pos (by rw [jv_le] <;> omega)]
    rfl
  | succ k ih =>
    intro f e h1 h2 hf
    obtain ⟨f, rfl⟩ : ∃ g, f = g + 1 := ⟨f - 1, by omega⟩
    rw [sh_X0_cutBranch_10, (peC hc hp).1, Option.bind_some, epe, bend]
    by_cases z : ptE N fr s ≤ e
    · rw [if_pos (by rw [jv_le] <;> omega), if_pos z]
    · have hle := (hw.sec (s := e) (by omega)).2.1
      rw [if_neg (by rw [jv_le] <;> omega), if_neg z, hc.lv hw (by omega), Option.bind_some, hc.lv hw hs, Option.bind_some]
      by_cases y : lev R e ≤ lev R s
      · rw [if_pos (by rw [jv_le] <;> omega), if_pos y]
      · rw [if_neg (by rw [jv_le] <;> omega), if_neg y, jv_lit (nat_lit 1), jv_add, show (e : Int) + 1 = ((e + 1 : Nat) : Int) by omega]
        exact ih f (e + 1) (by omega) (by omega) (by omega)
theorem cbC (hn : 40 ≤ n) {μ : Mm} (hw : WB 500 R N fr) (hs : s < N) (hc : CB 11 μ R N fr) : ∃ μ1, sh_X0_cutBranch n 11 (jv s) μ = some (jv (bm R N fr s), μ1) ∧ CB 11 μ1 (cutR R N s (bm R N fr s)) (N - bm R N fr s) (if s < fr then fr - bm R N fr s else fr) ∧ (∀ j, j < N - bm R N fr s → μ1.1 23 j = μ.1 23 (sh1 s (bm R N fr s) j)) ∧ Fw (fun q j => q = 11 ∧ (j = 2 ∨ j = 3) ∨ q = 15 ∨ q = 17 ∨ q = 19 ∨ q = 23) (fun q => q = 21) μ μ1 := by
  have hN := hw.1
  have hp : s + 1 ≤ ptE N fr s ∧ ptE N fr s ≤ N := by unfold ptE; split <;> omega
  obtain ⟨hb, eb⟩ := bm_brn hw hs
  obtain ⟨μ1, e1, r1, r2, r3⟩ := cb44 (n := n) (k := 11) hw hs hb hc
  refine ⟨μ1, ?_, r1, r2, r3⟩
  unfold sh_X0_cutBranch
  simp only [nm_eq, jv_lit]
  rw [hc.po hw hs, Option.bind_some, jv_add, show (s : Int) + 1 = ((s + 1 : Nat) : Int) by omega, cb10 (n := n) hw hs hc 30 n (s + 1) hp.1 (by omega) (by omega), ← eb]
  exact e1
end CTC
