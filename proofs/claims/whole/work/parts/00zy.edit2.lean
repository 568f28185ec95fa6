/-! SETTINGS changed, and undo -/
section ED2
variable {n : Nat} {R : Nat → Int} {N fr : Nat} {I O : List Int}
theorem okC_s {i : Nat} (hi : i < 10) : okC i := ⟨by omega, by omega, by omega, fun s => ⟨by show i ≠ 12 + 102 * s + 4; omega, by show i ≠ 12 + 102 * s + 5; omega⟩⟩
theorem l307 {μ : Mm} {i : Nat} (hi : i < 12) (v : Int32) : st μ 307 (jv i) v = some (sI μ 307 i v) := by
  have l1 : ln 307 = 18701 := rfl
  rw [st_jv (by omega) (by omega), Int.toNat_natCast]
theorem q_setWidth (hn : 120000 ≤ n) {μ : Mm} (h : ST μ I O R N fr) (a : Int32) : Qs [1] μ I O (sh_X11_setWidth n a μ) (sh_X12_setWidth n a) := by
  have hq := h.qs
  have hw := hq.1
  obtain ⟨z, h1, h2, rfl⟩ := jv_ex a
  have eM : ∀ ν : Mm, sh_X12_setWidth n (jv z) ν = if 20 ≤ z ∧ z ≤ 120 then (sh_X12_remember n (sI ν 306 0 (jv 0))).bind fun r1 => (ld r1 307 (jv 0)).bind fun v2 => (st r1 307 (jv 0) (jv z)).bind fun μ3 => some (v2, μ3) else some (jv 0, sI ν 306 0 (jv 1)) := by
    intro ν
    unfold sh_X12_setWidth sh_X12_change
    rw [li20, li120, in_b ⟨h1, h2⟩ (by unfold i32; omega) (by unfold i32; omega), Option.bind_some, pas, Option.bind_some]
    simp only [jv_lit]
    by_cases y : 20 ≤ z ∧ z ≤ 120
    · rw [if_pos y, if_pos y, if_pos y, if_neg (show ¬ jv 1 = jv 0 by decide)]
      cases sh_X12_remember n (sI ν 306 0 (jv 0)) with
      | none => rfl
      | some r1 =>
        simp only [Option.bind_some]
        cases ld r1 307 (jv 0) with
        | none => rfl
        | some v2 =>
          simp only [Option.bind_some]
          cases st r1 307 (jv 0) (jv z) <;> rfl
    · rw [if_neg y, if_neg y, if_neg y, if_pos (show jv 0 = jv 0 from rfl)]
  unfold sh_X11_setWidth sh_X11_setWidth_12 sh_X11_changeSetting
  simp only [jv_lit, nm_eq]
  by_cases y : 20 ≤ z ∧ z ≤ 120
  · rw [if_neg (by rw [jv_lt] <;> omega), if_pos (by rw [jv_le] <;> omega)]
    obtain ⟨μ1, e1, b1, K⟩ := edit1 (n := n) hn h (c := 0) (v := z) (okC_s (by omega)) (hw.hd (Or.inl ⟨rfl, y⟩))
    obtain ⟨e2, b2⟩ := b1.hd (i := 0) (by omega) z
    obtain ⟨μ3, μ4, e3, m3, e4, m4, hST, th⟩ := K _ (Fm.rf.sI (by omega)) b2
    have e2' : sh_X5_put 12 (jv 0) (jv z) μ1 = _ := e2
    refine ⟨.inr (jv (R 0)), μ3, jv (R 0), _, I, O, _, N, fr, ?_, ?_, ⟨th, rfl⟩, hST⟩
    · rw [e1, Option.bind_some, show (12 : Nat) = 11 + 1 from rfl, b1.s0, Option.bind_some, e2', Option.bind_some, Option.bind_some, e3]
      rfl
    · rw [eM, if_pos y, e4, Option.bind_some, mbl0 m4, Option.bind_some]
      have e5 : st μ4 307 (jv 0) (jv z) = _ := l307 (i := 0) (by omega) (jv z)
      rw [e5]
      rfl
  · have fin : Qs [1] μ I O (some (.inl (1, μ))) (sh_X12_setWidth n (jv z)) := ⟨.inl 1, μ, jv 0, sI μ 306 0 (jv 1), I, O, R, N, fr, rfl, by rw [eM, if_neg y], ⟨0, rfl, by rw [sI_1, if_pos ⟨rfl, rfl⟩]; rfl⟩, h.th _⟩
    by_cases v : z < 20
    · rw [if_pos (by rw [jv_lt] <;> omega)]
      exact fin
    · rw [if_neg (by rw [jv_lt] <;> omega), if_neg (by rw [jv_le] <;> omega)]
      exact fin
theorem q_setGrid (hn : 120000 ≤ n) {μ : Mm} (h : ST μ I O R N fr) (a : Int32) : Qs [1] μ I O (sh_X11_setGrid n a μ) (sh_X12_setGrid n a) := by
  have hq := h.qs
  have hw := hq.1
  obtain ⟨z, h1, h2, rfl⟩ := jv_ex a
  have eM : ∀ ν : Mm, sh_X12_setGrid n (jv z) ν = if 1 ≤ z ∧ z ≤ 9 then (sh_X12_remember n (sI ν 306 0 (jv 0))).bind fun r1 => (ld r1 307 (jv 7)).bind fun v2 => (st r1 307 (jv 7) (jv z)).bind fun μ3 => some (v2, μ3) else some (jv 0, sI ν 306 0 (jv 1)) := by
    intro ν
    unfold sh_X12_setGrid sh_X12_change
    rw [li1, li9, in_b ⟨h1, h2⟩ (by unfold i32; omega) (by unfold i32; omega), Option.bind_some, pas, Option.bind_some]
    simp only [jv_lit]
    by_cases y : 1 ≤ z ∧ z ≤ 9
    · rw [if_pos y, if_pos y, if_pos y, if_neg (show ¬ jv 1 = jv 0 by decide)]
      cases sh_X12_remember n (sI ν 306 0 (jv 0)) with
      | none => rfl
      | some r1 =>
        simp only [Option.bind_some]
        cases ld r1 307 (jv 7) with
        | none => rfl
        | some v2 =>
          simp only [Option.bind_some]
          cases st r1 307 (jv 7) (jv z) <;> rfl
    · rw [if_neg y, if_neg y, if_neg y, if_pos (show jv 0 = jv 0 from rfl)]
  unfold sh_X11_setGrid sh_X11_setGrid_11 sh_X11_changeSetting
  simp only [jv_lit, nm_eq]
  by_cases y : 1 ≤ z ∧ z ≤ 9
  · rw [if_neg (by rw [jv_lt] <;> omega), if_pos (by rw [jv_le] <;> omega)]
    obtain ⟨μ1, e1, b1, K⟩ := edit1 (n := n) hn h (c := 7) (v := z) (okC_s (by omega)) (hw.hd (Or.inr (Or.inl ⟨rfl, y⟩)))
    obtain ⟨e2, b2⟩ := b1.hd (i := 7) (by omega) z
    obtain ⟨μ3, μ4, e3, m3, e4, m4, hST, th⟩ := K _ (Fm.rf.sI (by omega)) b2
    have e2' : sh_X5_put 12 (jv 7) (jv z) μ1 = _ := e2
    refine ⟨.inr (jv (R 7)), μ3, jv (R 7), _, I, O, _, N, fr, ?_, ?_, ⟨th, rfl⟩, hST⟩
    · rw [e1, Option.bind_some, show (12 : Nat) = 11 + 1 from rfl, b1.s7, Option.bind_some, e2', Option.bind_some, Option.bind_some, e3]
      rfl
    · rw [eM, if_pos y, e4, Option.bind_some, mbg7 m4, Option.bind_some]
      have e5 : st μ4 307 (jv 7) (jv z) = _ := l307 (i := 7) (by omega) (jv z)
      rw [e5]
      rfl
  · have fin : Qs [1] μ I O (some (.inl (1, μ))) (sh_X12_setGrid n (jv z)) := ⟨.inl 1, μ, jv 0, sI μ 306 0 (jv 1), I, O, R, N, fr, rfl, by rw [eM, if_neg y], ⟨0, rfl, by rw [sI_1, if_pos ⟨rfl, rfl⟩]; rfl⟩, h.th _⟩
    by_cases v : z < 1
    · rw [if_pos (by rw [jv_lt] <;> omega)]
      exact fin
    · rw [if_neg (by rw [jv_lt] <;> omega), if_neg (by rw [jv_le] <;> omega)]
      exact fin
/-- a call that never throws and may change the book -/
def Qsn (μ : Mm) (c : Option (Int32 × Mm)) (d : Mm → Option (Int32 × Mm)) : Prop := ∃ v μ1 μ2 I' O' R' N' fr', c = some (v, μ1) ∧ d μ1 = some (v, μ2) ∧ ST μ2 I' O' R' N' fr'
theorem q_setRight (hn : 120000 ≤ n) {μ : Mm} (h : ST μ I O R N fr) {r : Int} (hr : r = 0 ∨ r = 1) : Qsn μ (sh_X11_setRight n (jv r) μ) (sh_X12_setRight n (jv r)) := by
  have hq := h.qs
  have hw := hq.1
  have h8 := hw.2.2.2.2.2.2.2.2.2.1
  obtain ⟨μ1, e1, b1, K⟩ := edit1 (n := n) hn h (c := 8) (v := r) (okC_s (by omega)) (hw.hd (Or.inr (Or.inr ⟨rfl, hr⟩)))
  obtain ⟨g1, g2, g3, g4, g5⟩ := hd_ne (R := R) (i := 8) (by omega) r
  have b2 : CB 11 (sI μ1 11 1 (jv r)) (bup R 8 r) N fr := by
    refine ⟨b1.1, fun j hj => ?_, ⟨?_, ?_, ?_⟩, fun j hj => ?_⟩
    · rw [sI_1, if_neg (by omega), b1.2.1 j hj, bup_ne (by omega)]
    · rw [sI_1, if_pos ⟨rfl, rfl⟩]
      rfl
    · rw [sI_1, if_neg (by omega), b1.2.2.1.2.1]
    · rw [sI_1, if_neg (by omega), b1.2.2.1.2.2]
    · obtain ⟨q1, q2, q3, q4⟩ := b1.2.2.2 j hj
      refine ⟨by rw [sI_1, if_neg (by omega), q1, g1], by rw [sI_1, if_neg (by omega), q2, g2], by rw [sI_1, if_neg (by omega), q3, g4], fun w hww => ?_⟩
      rw [g4] at hww
      rw [sI_2, q4 w hww]
      exact (pk_cg (fun p _ => g5 j w p)).symm
  obtain ⟨μ3, μ4, e3, m3, e4, m4, hST, th⟩ := K _ (Fm.rf.sI (by omega)) b2
  refine ⟨jv (R 8), μ3, sI μ4 307 8 (jv r), I, O, _, N, fr, ?_, ?_, hST⟩
  · unfold sh_X11_setRight
    simp only [nm_eq]
    rw [e1, Option.bind_some, pz_jv hr, Option.bind_some, e3, Option.bind_some, b1.2.2.1.1, isB_jv h8]
    rfl
  · have e5 : ∀ w : Int32, st μ4 307 (jv 8) w = _ := fun w => l307 (i := 8) (by omega) w
    unfold sh_X12_setRight sh_X12_setRight_17 sh_X12_change
    simp only [jv_lit]
    rw [pt_eq, Option.bind_some]
    rcases hr with rfl | rfl
    · rw [if_pos (show jv 0 = jv 0 from rfl), e4, Option.bind_some, mbl8 m4, Option.bind_some, e5, Option.bind_some, Option.bind_some]
      rcases h8 with e | e
      · rw [e, if_neg (show ¬ jv 0 = jv 1 by decide)]
      · rw [e, if_pos (show jv 1 = jv 1 from rfl)]
    · rw [if_neg (show ¬ jv 1 = jv 0 by decide), e4, Option.bind_some, mbl8 m4, Option.bind_some, e5, Option.bind_some, Option.bind_some]
      rcases h8 with e | e
      · rw [e, if_neg (show ¬ jv 0 = jv 1 by decide)]
      · rw [e, if_pos (show jv 1 = jv 1 from rfl)]
theorem q_undoCount {μ : Mm} (h : ST μ I O R N fr) : Qn μ (sh_X11_undoCount μ) (sh_X12_undoCount μ) := by
  obtain ⟨u, nx, _, _, h8, _, h47, _⟩ := h.2.2.2.2
  unfold sh_X11_undoCount sh_X12_undoCount
  rw [pt_eq, Option.bind_some, sI_1, if_neg (by omega), h8, h47]
  exact ⟨_, _, rfl, rfl, Fm.rf.sI (by omega)⟩
theorem un33 {u : Nat} (hu : u ≤ 5) : ∀ (k f i : Nat) (μ : Mm), i + k = 18701 → k < f → μ.1 306 47 = jv u → ∃ μ1, sh_X12_undo_33 n f (jv i) μ = some (jv u, μ1) ∧ (∀ x, x < 18701 → μ1.1 307 x = if i ≤ x then μ.1 329 (18701 * u + x) else μ.1 307 x) ∧ Fm (fun k _ => k = 307) μ μ1 := by
  have l1 : ln 307 = 18701 := rfl
  have l2 : ln 329 = 112206 := rfl
  intro k
  induction k with
  | zero =>
    intro f i μ hi hf h47
    obtain ⟨f, rfl⟩ : ∃ g, f = g + 1 := ⟨f - 1, by omega⟩
    rw [sh_X12_undo_33, if_pos (by rw [jv_lit (nat_lit 18701), jv_le] <;> omega), h47]
    exact ⟨μ, rfl, fun x hx => by rw [if_neg (by omega)], Fm.rf⟩
  | succ k ih =>
    intro f i μ hi hf h47
    obtain ⟨f, rfl⟩ : ∃ g, f = g + 1 := ⟨f - 1, by omega⟩
    rw [sh_X12_undo_33, if_neg (by rw [jv_lit (nat_lit 18701), jv_le] <;> omega)]
    simp only [jv_lit]
    rw [h47, jv_mul, jv_add, ld_jv (by omega) (by omega), Option.bind_some, st_jv (by omega) (by omega), Option.bind_some, Int.toNat_natCast, jv_add, show (i : Int) + 1 = ((i + 1 : Nat) : Int) by omega, show (18701 * (u : Int) + i).toNat = 18701 * u + i by omega]
    have f0 : Fm (fun k _ => k = 307) μ (sI μ 307 i (μ.1 329 (18701 * u + i))) := Fm.rf.sI rfl
    obtain ⟨μ1, e1, a2, a3⟩ := ih f (i + 1) (sI μ 307 i (μ.1 329 (18701 * u + i))) (by omega) (by omega) (by rw [sI_1, if_neg (by omega), h47])
    refine ⟨μ1, e1, fun x hx => ?_, f0.tr a3 (fun _ _ y => y)⟩
    have e329 : ∀ y, (sI μ 307 i (μ.1 329 (18701 * u + i))).1 329 y = μ.1 329 y := fun y => by rw [sI_1, if_neg (by omega)]
    rw [a2 x hx, e329, sI_1]
    by_cases z : x = i
    · rw [if_neg (by omega), if_pos ⟨rfl, z⟩, if_pos (by omega), z]
    · by_cases y : i + 1 ≤ x
      · rw [if_pos y, if_pos (by omega)]
      · rw [if_neg y, if_neg (fun q => z q.2), if_neg (by omega)]
theorem q_undo (hn : 120000 ≤ n) {μ : Mm} (h : ST μ I O R N fr) : Qs [0] μ I O (sh_X11_undo n μ) (sh_X12_undo n) := by
  obtain ⟨hs, hL, h22, hio, u, nx, hu, hnx, h8, h7, h47, hpast⟩ := id h
  unfold sh_X11_undo sh_X11_undo_65
  simp only [jv_lit]
  rw [h8, h7]
  by_cases z : u = 0
  · subst z
    rw [if_neg (by decide)]
    refine ⟨.inl 0, μ, jv 0, sI μ 306 0 (jv 1), I, O, R, N, fr, rfl, ?_, ⟨0, rfl, by rw [sI_1, if_pos ⟨rfl, rfl⟩]; rfl⟩, h.th _⟩
    unfold sh_X12_undo sh_X12_undo_13
    rw [h47, if_pos (by decide), jv0, pas0, Option.bind_some, if_pos (show jv 0 = jv 0 from rfl)]
  · obtain ⟨R2, N2, fr2, hS⟩ := hpast (u - 1) (by omega)
    have hsl : slot nx u (u - 1) = 144 + 27 * ((nx + 5) % 6) := by
      show 144 + 27 * ((nx + 6 - u + (u - 1)) % 6) = _
      rw [show nx + 6 - u + (u - 1) = nx + 5 by omega]
    rw [hsl] at hS
    have hlt : (nx + 5) % 6 < 6 := Nat.mod_lt _ (by omega)
    have ev : ((nx : Int) + 6 - 1) % 6 = (((nx + 5) % 6 : Nat) : Int) := by omega
    rw [if_pos (by rw [jv_lt] <;> omega), jv_add, jv_sub, rm_jv (by omega) (by omega) (by omega) (by omega), Option.bind_some, pt_eq, Option.bind_some, ev]
    have e8 : (sI μ 0 7 (jv (((nx + 5) % 6 : Nat) : Int))).1 0 8 = jv u := by rw [sI_1, if_neg (by omega), h8]
    rw [e8, jv_sub, pt_eq, Option.bind_some]
    have e7 : (sI (sI μ 0 7 (jv (((nx + 5) % 6 : Nat) : Int))) 0 8 (jv ((u : Int) - 1))).1 0 7 = jv (((nx + 5) % 6 : Nat) : Int) := by rw [sI_1, if_neg (by omega), sI_1, if_pos ⟨rfl, rfl⟩]
    have e88 : (sI (sI μ 0 7 (jv (((nx + 5) % 6 : Nat) : Int))) 0 8 (jv ((u : Int) - 1))).1 0 8 = jv ((u : Int) - 1) := by rw [sI_1, if_pos ⟨rfl, rfl⟩]
    have f1 : Fm (fun k j => k = 0 ∧ (j = 7 ∨ j = 8)) μ (sI (sI μ 0 7 (jv (((nx + 5) % 6 : Nat) : Int))) 0 8 (jv ((u : Int) - 1))) := (Fm.rf.sI (by omega)).sI (by omega)
    rw [e7, ea37 hlt, Option.bind_some]
    generalize (sI (sI μ 0 7 (jv (((nx + 5) % 6 : Nat) : Int))) 0 8 (jv ((u : Int) - 1))) = μ1 at *
    have hS1 := hS.fw (Fw.of (Q := fun _ => False) f1) (fun k j a b y => by omega) (fun _ _ _ y => y)
    obtain ⟨μ2, e2, s2, f2⟩ := st6 (t := 10) (a := 144 + 27 * ((nx + 5) % 6)) (by omega) ⟨⟨rfl, rfl, rfl, rfl, rfl, rfl⟩, ⟨rfl, rfl, rfl, rfl, rfl, rfl⟩⟩ hS1
    obtain ⟨μ3, e3, f3, L3⟩ := layA (n := n) (t := 38) (kb := 11) (by omega) s2.1 (by omega) hL.1 (by omega) s2.2.1
    have F13 : Fw (fun k j => k = 0 ∧ (j = 7 ∨ j = 8) ∨ 10 ≤ k ∧ k ≤ 36 ∨ 38 ≤ k ∧ k ≤ 79) (fun k => 10 ≤ k ∧ k ≤ 36) μ μ3 := ((Fw.of (P := fun k j => k = 0 ∧ (j = 7 ∨ j = 8) ∨ 10 ≤ k ∧ k ≤ 36 ∨ 38 ≤ k ∧ k ≤ 79) (Q := fun k => 10 ≤ k ∧ k ≤ 36) (f1.mono (fun k j y => by omega))).tr f2 (fun k j y => by omega) (fun k y => by omega)).tr (Fw.of (Q := fun _ => False) f3) (fun k j y => by omega) (fun _ y => y.elim)
    have f4 : Fm (fun k j => k = 306 ∧ (j = 0 ∨ j = 47)) μ3 (sI (sI μ3 306 0 (jv 0)) 306 47 (jv ((u - 1 : Nat) : Int))) := (Fm.rf.sI (by omega)).sI (by omega)
    obtain ⟨μ5, e5, a5, f5⟩ := un33 (n := n) (u := u - 1) (by omega) 18701 n 0 (sI (sI μ3 306 0 (jv 0)) 306 47 (jv ((u - 1 : Nat) : Int))) (by omega) (by omega) (by rw [sI_1, if_pos ⟨rfl, rfl⟩])
    have e5' : sh_X12_undo_33 n n (0 : Int32) (sI (sI μ3 306 0 (jv 0)) 306 47 (jv ((u - 1 : Nat) : Int))) = _ := e5
    have F35 : Fm (fun k j => k = 306 ∧ (j = 0 ∨ j = 47) ∨ k = 307) μ3 μ5 := (f4.mono (fun k j y => Or.inl y)).tr f5 (fun k j y => Or.inr y)
    have F : Fw (fun k j => k = 0 ∧ (j = 7 ∨ j = 8) ∨ 10 ≤ k ∧ k ≤ 36 ∨ 38 ≤ k ∧ k ≤ 79 ∨ k = 306 ∧ (j = 0 ∨ j = 47) ∨ k = 307) (fun k => 10 ≤ k ∧ k ≤ 36) μ μ5 := (F13.mono (fun k j y => by omega) (fun _ y => y)).tr (Fw.of (Q := fun _ => False) F35) (fun k j y => by omega) (fun _ y => y.elim)
    have h3 : μ3.1 0 8 = jv ((u : Int) - 1) := by rw [f3.at _ _ (by omega), f2.1 _ _ (by omega), e88]
    have h37 : μ3.1 0 7 = jv (((nx + 5) % 6 : Nat) : Int) := by rw [f3.at _ _ (by omega), f2.1 _ _ (by omega), e7]
    have hcast : ((u : Int) - 1) = ((u - 1 : Nat) : Int) := by omega
    refine ⟨.inr (jv ((u : Int) - 1)), μ3, jv ((u - 1 : Nat) : Int), μ5, I, O, R2, N2, fr2, ?_, ?_, ⟨?_, by rw [hcast]⟩, ?_, L3.kp F35 (fun q j a b y => by omega), by rw [F.2.2]; exact h22, hio.fw F (fun k j y => by omega), u - 1, (nx + 5) % 6, by omega, hlt, ?_, ?_, ?_, fun j hj => ?_⟩
    · rw [e2, Option.bind_some, e3, Option.bind_some, h3]
      rfl
    · unfold sh_X12_undo sh_X12_undo_13
      have h347 : μ3.1 306 47 = jv u := by rw [F13.1 _ _ (by omega), h47]
      have h347' : (sI μ3 306 0 (jv 0)).1 306 47 = jv u := by rw [sI_1, if_neg (by omega), h347]
      simp only [jv_lit]
      rw [h347, if_neg (by rw [jv_le] <;> omega), pas1, Option.bind_some, if_neg (show ¬ jv 1 = jv 0 by decide), h347', jv_sub, hcast, pt_eq, Option.bind_some]
      exact e5'
    · rw [f5.at _ _ (by omega), sI_1, if_neg (by omega), sI_1, if_pos ⟨rfl, rfl⟩]
    · refine ((s2.fw (Fw.of (Q := fun _ => False) f3) (fun k j a b y => by omega) (fun _ _ _ y => y)).fw (Fw.of (Q := fun _ => False) F35) (fun k j a b y => by omega) (fun _ _ _ y => y)).cg (fun i hi => ?_)
      show μ5.1 307 i = μ.1 329 (18701 * (u - 1) + i)
      rw [a5 i hi, if_pos (Nat.zero_le _), f4.at _ _ (by omega), F13.1 _ _ (by omega)]
    · rw [F35.at _ _ (by omega), h3, hcast]
    · rw [F35.at _ _ (by omega), h37]
    · rw [f5.at _ _ (by omega), sI_1, if_pos ⟨rfl, rfl⟩]
    · obtain ⟨R3, N3, fr3, h9⟩ := hpast j (by omega)
      have es : slot ((nx + 5) % 6) (u - 1) j = slot nx u j := by
        show 144 + 27 * (((nx + 5) % 6 + 6 - (u - 1) + j) % 6) = 144 + 27 * ((nx + 6 - u + j) % 6)
        omega
      have hb : 144 ≤ slot nx u j ∧ slot nx u j + 26 ≤ 305 := by
        show 144 ≤ 144 + 27 * ((nx + 6 - u + j) % 6) ∧ 144 + 27 * ((nx + 6 - u + j) % 6) + 26 ≤ 305
        omega
      rw [es]
      refine ⟨R3, N3, fr3, (h9.fw F (fun k i a b y => by omega) (fun k a b y => by omega)).cg (fun i hi => ?_)⟩
      show μ5.1 329 (18701 * j + i) = μ.1 329 (18701 * j + i)
      rw [F.1 _ _ (by omega)]
end ED2
