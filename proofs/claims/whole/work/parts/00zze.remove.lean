/-! A BRANCH removed by both -/
section RMV
variable {n : Nat} {R : Nat → Int} {N fr s : Nat} {I O : List Int}
theorem ms62 {m : Nat} {a1 : Int32} (hN : N ≤ 24) (hm : 1 ≤ m) (hsm : s + m ≤ N) : ∀ (k f x : Nat) (μ : Mm), x + k = 102 * N → 102 * (s + m) ≤ x → k < f → μ.1 307 9 = jv N → ∃ μ1, sh_X12_moveSections_62 n a1 (jv (-(m : Int))) f (jv x) μ = sh_X12_moveSections_105 n a1 (jv (-(m : Int))) μ1 ∧ μ1.1 307 9 = jv N ∧ (∀ i, μ1.1 307 i = if 12 + x ≤ i + 102 * m ∧ i + 102 * m < 12 + 102 * N then μ.1 307 (i + 102 * m) else μ.1 307 i) ∧ Fm (fun k j => k = 307 ∧ j < 2460) μ μ1 := by
  have l1 : ln 307 = 18701 := rfl
  intro k
  induction k with
  | zero =>
    intro f x μ hx h1 hf h9
    obtain ⟨f, rfl⟩ : ∃ g, f = g + 1 := ⟨f - 1, by omega⟩
    rw [sh_X12_moveSections_62]
    simp only [jv_lit]
    rw [ld_jv (by omega) (by omega), Option.bind_some, show (9 : Int).toNat = 9 from rfl, h9, jv_mul, if_pos (by rw [jv_le] <;> omega)]
    exact ⟨μ, rfl, h9, fun i => by rw [if_neg (by omega)], Fm.rf⟩
  | succ k ih =>
    intro f x μ hx h1 hf h9
    obtain ⟨f, rfl⟩ : ∃ g, f = g + 1 := ⟨f - 1, by omega⟩
    rw [sh_X12_moveSections_62]
    simp only [jv_lit]
    rw [ld_jv (by omega) (by omega), Option.bind_some, show (9 : Int).toNat = 9 from rfl, h9, jv_mul, if_neg (by rw [jv_le] <;> omega), jv_add, ld_jv (by omega) (by omega), Option.bind_some, jv_mul, jv_add, st_jv (by omega) (by omega), Option.bind_some, jv_add, show (x : Int) + 1 = ((x + 1 : Nat) : Int) by omega, show (12 + (x : Int)).toNat = 12 + x by omega, show (12 + (x : Int) + 102 * -(m : Int)).toNat = 12 + x - 102 * m by omega]
    have f0 : Fm (fun k j => k = 307 ∧ j < 2460) μ (sI μ 307 (12 + x - 102 * m) (μ.1 307 (12 + x))) := Fm.rf.sI ⟨rfl, by omega⟩
    obtain ⟨μ1, e1, a1, a2, a3⟩ := ih f (x + 1) (sI μ 307 (12 + x - 102 * m) (μ.1 307 (12 + x))) (by omega) (by omega) (by omega) (by rw [sI_1, if_neg (by omega), h9])
    refine ⟨μ1, e1, a1, fun i => ?_, f0.tr a3 (fun _ _ y => y)⟩
    rw [a2, sI_1, sI_1]
    by_cases z : i = 12 + x - 102 * m
    · rw [if_neg (by omega), if_pos ⟨rfl, z⟩, if_pos (by omega), show i + 102 * m = 12 + x by omega]
    · by_cases y : 12 + (x + 1) ≤ i + 102 * m ∧ i + 102 * m < 12 + 102 * N
      · rw [if_pos y, if_neg (by omega), if_pos (by omega)]
      · rw [if_neg y, if_neg (fun q => z q.2), if_neg (by omega)]
theorem r69 (hn : 3000 ≤ n) {m : Nat} (hw : WB 500 R N fr) (hm : 1 ≤ m) (hsm : s + m ≤ N) {μ : Mm} (hb : MB 307 μ R) : ∃ μ1, sh_X12_remove_69 n (jv s) (jv ((s + m : Nat) : Int)) μ = some (jv m, μ1) ∧ MB 307 μ1 (cutR R N s m) ∧ Fm (fun k j => k = 307 ∧ j < 2460) μ μ1 := by
  have hN := hw.1
  have h9 : μ.1 307 9 = jv N := by rw [hb.2.2 9 (by omega), hN.1]
  obtain ⟨μ1, e1, a1, a2, a3⟩ := ms62 (n := n) (a1 := jv ((s + m : Nat) : Int)) hN.2.1 hm hsm (102 * N - 102 * (s + m)) n (102 * (s + m)) μ (by omega) (by omega) (by omega) h9
  have l1 : ln 307 = 18701 := rfl
  unfold sh_X12_remove_69 sh_X12_moveSections
  simp only [jv_lit, nm_eq]
  rw [jv_sub, jv_sub, jv_mul, show (s : Int) - ((s + m : Nat) : Int) = -(m : Int) by omega, if_pos (by rw [jv_le] <;> omega), show (102 : Int) * ((s + m : Nat) : Int) = ((102 * (s + m) : Nat) : Int) by omega, e1]
  unfold sh_X12_moveSections_105
  simp only [jv_lit]
  rw [ld_jv (by omega) (by omega), Option.bind_some, show (9 : Int).toNat = 9 from rfl, a1, jv_add, st_jv (by omega) (by omega), Option.bind_some, Option.bind_some, show (9 : Int).toNat = 9 from rfl, show ((s + m : Nat) : Int) - (s : Int) = (m : Int) by omega]
  refine ⟨_, rfl, ⟨hb.1, by rw [sI_2, a3.1]; exact hb.2.1, fun i hi => ?_⟩, a3.sI ⟨rfl, by omega⟩⟩
  rw [sI_1]
  unfold cutR
  by_cases z : i = 9
  · rw [if_pos ⟨rfl, z⟩, if_pos z]
    congr 1
  · rw [if_neg (fun q => z q.2), if_neg z, a2]
    by_cases y : 12 + 102 * s ≤ i ∧ i < 12 + 102 * (N - m)
    · rw [if_pos (by omega), if_pos y, hb.2.2 _ (by omega)]
    · rw [if_neg (by omega), if_neg y, hb.2.2 _ (by omega)]
theorem r22 {μ : Mm} (hw : WB 500 R N fr) (hs : s < N) (hb : MB 307 μ R) : ∀ (k f e : Nat), s < e → e ≤ ptE N fr s → ptE N fr s ≤ e + k → k < f → sh_X12_remove_22 n (jv s) f (jv e) μ = sh_X12_remove_69 n (jv s) (jv ((bend R (ptE N fr s) s k e : Nat) : Int)) μ := by
  have hN := hw.1
  have hpN : ptE N fr s ≤ N := by unfold ptE; split <;> omega
  have hls := (hw.sec hs).2.1
  have one : ∀ f e, s < e → e = ptE N fr s → sh_X12_remove_22 n (jv s) (f + 1) (jv e) μ = sh_X12_remove_69 n (jv s) (jv e) μ := by
    intro f e h0 he
    rw [sh_X12_remove_22, jv_lit (nat_lit 9), mbl9 hb, Option.bind_some, hN.1]
    by_cases z : N ≤ e
    · rw [if_pos (by rw [jv_le] <;> omega)]
    · have hlt : s < fr ∧ e = fr := by
        unfold ptE at he
        by_cases x : s < fr
        · rw [if_pos x] at he; exact ⟨x, he⟩
        · rw [if_neg x] at he; omega
      have p1 := hw.p1 (s := e) (by omega) (by omega)
      have p0 := hw.p0 hs hlt.1
      rw [if_neg (by rw [jv_le] <;> omega)]
      simp only [jv_lit]
      rw [hb.oP (by omega), Option.bind_some, hb.oP (by omega), Option.bind_some, p1, p0, if_neg (show ¬ jv 1 = jv 0 by decide)]
  intro k
  induction k with
  | zero =>
    intro f e h0 h1 h2 hf
    obtain ⟨f, rfl⟩ : ∃ g, f = g + 1 := ⟨f - 1, by omega⟩
    exact one f e h0 (by omega)
  | succ k ih =>
    intro f e h0 h1 h2 hf
    obtain ⟨f, rfl⟩ : ∃ g, f = g + 1 := ⟨f - 1, by omega⟩
    rw [bend]
    by_cases z : ptE N fr s ≤ e
    · rw [if_pos z]
      exact one f e h0 (by omega)
    · have hle := (hw.sec (s := e) (by omega)).2.1
      have hpe : prt R e = prt R s := by
        by_cases x : s < fr
        · have e1 : ptE N fr s = fr := if_pos x
          rw [hw.p0 (s := e) (by omega) (by omega), hw.p0 hs x]
        · rw [hw.p1 (s := e) (by omega) (by omega), hw.p1 hs (by omega)]
      rw [if_neg z, sh_X12_remove_22, jv_lit (nat_lit 9), mbl9 hb, Option.bind_some, hN.1, if_neg (by rw [jv_le] <;> omega)]
      simp only [jv_lit]
      rw [hb.oP (by omega), Option.bind_some, hb.oP (by omega), Option.bind_some, hpe, if_pos rfl, hb.oL (by omega), Option.bind_some, hb.oL (by omega), Option.bind_some]
      by_cases y : lev R e ≤ lev R s
      · rw [if_pos (show jv (lev R e) ≤ _ by rw [jv_le] <;> omega), if_pos y]
      · rw [if_neg (show ¬ jv (lev R e) ≤ _ by rw [jv_le] <;> omega), if_neg y, jv_add, show (e : Int) + 1 = ((e + 1 : Nat) : Int) by omega]
        exact ih f (e + 1) (by omega) (by omega) (by omega) (by omega)
theorem q_remove (hn : 120000 ≤ n) {μ : Mm} (h : ST μ I O R N fr) (a : Int32) : Qs [2] μ I O (sh_X11_remove n a μ) (sh_X12_remove n a) := by
  have hq := h.qs
  have hw := hq.1
  have hN := hw.1
  obtain ⟨z, h1, h2, rfl⟩ := jv_ex a
  unfold sh_X11_remove
  rw [ckS hq ⟨h1, h2⟩, Option.bind_some]
  by_cases hz : 0 ≤ z ∧ z < N
  · obtain ⟨s, rfl⟩ : ∃ s : Nat, z = s := ⟨z.toNat, by omega⟩
    have hs : s < N := by omega
    rw [if_pos hz, Sum.elim_inr]
    obtain ⟨hbr, ebr⟩ := bm_brn hw hs
    obtain ⟨b1, b2, b3, b4⟩ := id hbr
    have hw' := hw.cut hbr
    have hpe : s + 1 ≤ ptE N fr s ∧ ptE N fr s ≤ N := by unfold ptE; split <;> omega
    obtain ⟨hsn, hL, h22, hio, hun⟩ := id h
    obtain ⟨u, nx, hunr⟩ := hun
    obtain ⟨hu, hnx, h8, h7, h47, hpast⟩ := id hunr
    obtain ⟨μ1, e1, s1, a7, a8, f1⟩ := kfu (nx := nx) (u := u) hsn hu hnx h8 h7
    have c1 : CB 11 μ1 R N fr := hsn.2.1.fw f1 (fun q j a b y => by omega) (fun q a b y => by omega)
    obtain ⟨μ2, e2, c2, o2, f2⟩ := cbC (n := n) (by omega) hw hs c1
    generalize bm R N fr s = m at *
    obtain ⟨μ3, e3, f3, L3⟩ := layA (n := n) (t := 38) (kb := 11) (by omega) hw' (by omega) hL.1 (by omega) c2
    have F13 : Fw (fun k j => k = 0 ∧ (j = 7 ∨ j = 8) ∨ 144 ≤ k ∧ k ≤ 305 ∨ k = 11 ∧ j ≠ 0 ∨ 12 ≤ k ∧ k ≤ 23 ∨ 38 ≤ k ∧ k ≤ 79) (fun k => 144 ≤ k ∧ k ≤ 305 ∨ k = 21) μ μ3 := ((f1.mono (fun k j y => by omega) (fun k y => by omega)).tr f2 (fun k j y => by omega) (fun k y => by omega)).tr (Fw.of (Q := fun _ => False) f3) (fun k j y => by omega) (fun _ y => y.elim)
    have m3 : MB 307 μ3 R := hq.2.2.2.fw F13 (fun i _ => by omega)
    have f4 : Fm (fun k j => k = 306 ∧ j = 0) μ3 (sI μ3 306 0 (jv 0)) := Fm.rf.sI ⟨rfl, rfl⟩
    obtain ⟨μ4, e4, u4, f5⟩ := keep2 (n := n) hn (ν := sI μ3 306 0 (jv 0)) hunr hsn e1 (fun k j q1 q2 => by rw [f4.at _ _ (by omega), f3.at _ _ (by omega), f2.1 _ _ (by omega)]) (fun k j q => by rw [f4.1, f3.1, f2.2.1 _ _ (by omega)]) (by rw [f4.1, f3.1, f2.2.2])
    have m4 : MB 307 μ4 R := m3.r00.fr f5 (fun i _ => by omega)
    obtain ⟨μ5, e5, m5, f6⟩ := r69 (n := n) (by omega) hw b1 b2 m4
    have f36 : Fm (fun k j => k = 306 ∧ (j = 0 ∨ j = 47) ∨ k = 329 ∨ k = 307 ∧ j < 2460) μ3 μ5 := ((f4.mono (fun k j y => by omega)).tr f5 (fun k j y => by omega)).tr f6 (fun k j y => by omega)
    have F : Fw (fun k j => k = 0 ∧ (j = 7 ∨ j = 8) ∨ 144 ≤ k ∧ k ≤ 305 ∨ k = 11 ∧ j ≠ 0 ∨ 12 ≤ k ∧ k ≤ 23 ∨ 38 ≤ k ∧ k ≤ 79 ∨ k = 306 ∧ (j = 0 ∨ j = 47) ∨ k = 329 ∨ k = 307 ∧ j < 2460) (fun k => 144 ≤ k ∧ k ≤ 305 ∨ k = 21) μ μ5 := (F13.mono (fun k j y => by omega) (fun _ y => y)).tr (Fw.of (Q := fun _ => False) f36) (fun k j y => by omega) (fun _ y => y.elim)
    refine ⟨.inr (jv m), μ3, jv m, μ5, I, O, _, _, _, ?_, ?_, ⟨?_, rfl⟩, ⟨hw', (c2.fr f3 (fun q j a b y => by omega)).fr f36 (fun q j a b y => by omega), m5.2.2, ?_⟩, L3.kp f36 (fun q j a b y => by omega), by rw [F.2.2]; exact h22, hio.fw F (fun k j y => by omega), u4.fw (Fw.of (Q := fun _ => False) f6) (fun k j y => by omega) (fun _ y => y.elim)⟩
    · simp only [nm_eq]
      rw [e1, Option.bind_some, e2, Option.bind_some, e3]
      rfl
    · unfold sh_X12_remove
      simp only [jv_lit, nm_eq]
      rw [isS m3 hw ⟨h1, h2⟩, Option.bind_some, if_pos hz, pas1, Option.bind_some, if_neg (show ¬ jv 1 = jv 0 by decide), e4, Option.bind_some, jv_add, show (s : Int) + 1 = ((s + 1 : Nat) : Int) by omega, r22 (n := n) hw hs m4 30 n (s + 1) (by omega) hpe.1 (by omega) (by omega), ← ebr]
      exact e5
    · rw [f6.at _ _ (by omega), f5.at _ _ (by omega), sI_1, if_pos ⟨rfl, rfl⟩]
    · obtain ⟨⟨p1, p2⟩, Rp, Np, frp, p3, p4, p5, p6⟩ := hsn.2.2.2
      have e10 : cutR R N s m 10 = R 10 := by unfold cutR; rw [if_neg (by omega), if_neg (by omega)]
      have e11 : cutR R N s m 11 = R 11 := by unfold cutR; rw [if_neg (by omega), if_neg (by omega)]
      refine ⟨⟨by rw [F.1 _ _ (by omega), e10]; exact p1, by rw [e10]; exact p2⟩, Rp, Np, frp, p3, p4.fw F (fun q j a b y => by omega) (fun q a b y => by omega), fun q => ?_, fun j hj => ?_⟩
      · rw [e10] at q
        obtain ⟨g1, g2, g3⟩ := p5 q
        exact ⟨by rw [e11]; exact g1, fun k hk => by rw [F.1 _ _ (by omega)]; exact g2 k hk, fun i hi => by rw [F.1 _ _ (by omega)]; exact g3 i hi⟩
      · have d1 : cutR R N s m (frm j) = R (frm (sh1 s m j)) := cut_f b2 hj (f := 4) (by omega)
        have d2 : cutR R N s m (lin5 j) = R (lin5 (sh1 s m j)) := cut_f b2 hj (f := 5) (by omega)
        have hsj : sh1 s m j < N := by unfold sh1; split <;> omega
        have d3 : μ5.1 (10 + 13) j = μ.1 (10 + 13) (sh1 s m j) := by
          rw [f36.at _ _ (by omega), f3.at _ _ (by omega)]
          exact (o2 j hj).trans (f1.1 _ _ (by omega))
        rw [d1, d2, e10, d3]
        exact p6 _ hsj
  · rw [if_neg hz]
    refine ⟨.inl 2, μ, jv 0, sI μ 306 0 (jv 1), I, O, R, N, fr, rfl, ?_, ⟨0, rfl, by rw [sI_1, if_pos ⟨rfl, rfl⟩]; rfl⟩, h.th _⟩
    unfold sh_X12_remove
    simp only [jv_lit, nm_eq]
    rw [isS hq.2.2.2 hw ⟨h1, h2⟩, Option.bind_some, if_neg hz, pas0, Option.bind_some, if_pos (show jv 0 = jv 0 from rfl)]
end RMV
