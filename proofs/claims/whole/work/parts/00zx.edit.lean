/-! THE STATE of both sides, and changes of one cell of the book -/
def ST (μ : Mm) (I O : List Int) (R : Nat → Int) (N fr : Nat) : Prop := SNR 10 μ (μ.1 307) R N fr ∧ LY 38 μ R N fr ∧ μ.2.2 0 = 307 ∧ EA μ I O ∧ UN μ
theorem EA.fw {μ μ' : Mm} {I O : List Int} {P : Nat → Nat → Prop} {Q : Nat → Prop} (h : EA μ I O) (hf : Fw P Q μ μ') (hp : ∀ k j, P k j → ¬ (1 ≤ k ∧ k ≤ 4) ∧ ¬ (k = 0 ∧ (j = 3 ∨ j = 4)) ∧ ¬ (k = 306 ∧ (j = 5 ∨ j = 11 ∨ j = 12 ∨ j = 49)) ∧ k ≠ 309 ∧ k ≠ 330) : EA μ' I O := by
  obtain ⟨⟨a1, a2, a3⟩, ⟨b1, b2, b3, b4⟩, ⟨c1, c2, c3⟩, ⟨d1, d2⟩, e1, e2⟩ := h
  have g : ∀ k j, ((1 ≤ k ∧ k ≤ 4) ∨ (k = 0 ∧ (j = 3 ∨ j = 4)) ∨ (k = 306 ∧ (j = 5 ∨ j = 11 ∨ j = 12 ∨ j = 49)) ∨ k = 309 ∨ k = 330) → μ'.1 k j = μ.1 k j := fun k j q => hf.1 k j (fun y => by have := hp k j y; omega)
  refine ⟨⟨a1, by rw [g _ _ (by omega), a2], fun i hi => by rw [g _ _ (by omega), a3 i hi]⟩, ⟨b1, b2, by rw [g _ _ (by omega), b3], fun i hi => by rw [g _ _ (by omega), b4 i hi]⟩, ⟨c1, by rw [g _ _ (by omega), c2], fun i hi => by rw [g _ _ (by omega), c3 i hi]⟩, ⟨by rw [g _ _ (by omega), d1], fun i hi => by rw [g _ _ (by omega), d2 i hi]⟩, ?_, ?_⟩
  · rw [g _ _ (by omega), g _ _ (by omega), e1]
  · rw [g _ _ (by omega), g _ _ (by omega), e2]
section EDT
variable {n : Nat} {R : Nat → Int} {N fr : Nat} {I O : List Int}
theorem ST.qs {μ : Mm} (h : ST μ I O R N fr) : QS μ R N fr := ⟨h.1.1, h.1.2.1, h.2.1, Or.inl rfl, h.2.2.1, h.1.2.2.1⟩
/-- calls that change nothing but what they work with -/
theorem ST.ke {μ μ' : Mm} {I' O' : List Int} (h : ST μ I O R N fr) (hf : Fw PE QV μ μ') (he : EA μ' I' O') : ST μ' I' O' R N fr := by
  refine ⟨(h.1.fw hf (fun k j a b y => by omega) (fun k a b y => by omega)).cg (fun i _ => hf.1 _ _ (by omega)), h.2.1.fw hf (fun q j a b y => by omega), by rw [hf.2.2]; exact h.2.2.1, he, h.2.2.2.2.fw hf (fun k j y => by omega) (fun k y => by omega)⟩
theorem ST.kv {μ μ' : Mm} (h : ST μ I O R N fr) (hf : Fw PV QV μ μ') : ST μ' I O R N fr := h.ke (hf.mono PV_E (fun _ y => y)) (h.2.2.2.1.kv hf (fun _ _ y => y))
theorem ST.kq {μ μ' : Mm} (h : ST μ I O R N fr) (hf : Fm PQ μ μ') : ST μ' I O R N fr := h.kv (Fw.of (hf.mono (fun k j y => Or.inl y)))
abbrev okC (c : Nat) : Prop := c < 2460 ∧ c ≠ 10 ∧ c ≠ 11 ∧ ∀ s, c ≠ frm s ∧ c ≠ lin5 s
abbrev PBk : Nat → Nat → Prop := fun k j => k = 11 ∧ j ≠ 0 ∨ 12 ≤ k ∧ k ≤ 22
theorem edit1 (hn : 120000 ≤ n) {μ : Mm} (h : ST μ I O R N fr) {c : Nat} {v : Int} (hc : okC c) (hw' : WB 500 (bup R c v) N fr) : ∃ μ1, sh_X11_keepForUndo μ = some μ1 ∧ CB 11 μ1 R N fr ∧ ∀ μ2, Fm PBk μ1 μ2 → CB 11 μ2 (bup R c v) N fr → ∃ μ3 μ4, sh_X1_layAnew n 38 11 μ2 = some μ3 ∧ MB 307 μ3 R ∧ sh_X12_remember n (sI μ3 306 0 (jv 0)) = some μ4 ∧ MB 307 μ4 R ∧ ST (sI μ4 307 c (jv v)) I O (bup R c v) N fr ∧ (sI μ4 307 c (jv v)).1 306 0 = jv 0 := by
  obtain ⟨hs, hL, h22, hio, hun⟩ := id h
  obtain ⟨u, nx, hunr⟩ := hun
  obtain ⟨hu, hnx, h8, h7, h47, hpast⟩ := id hunr
  obtain ⟨μ1, e1, s1, a7, a8, f1⟩ := kfu (nx := nx) (u := u) hs hu hnx h8 h7
  refine ⟨μ1, e1, hs.2.1.fw f1 (fun q j a b y => by omega) (fun q a b y => by omega), fun μ2 f2 b2 => ?_⟩
  obtain ⟨μ3, e3, f3, L3⟩ := layA (n := n) (t := 38) (kb := 11) (by omega) hw' (by omega) hL.1 (by omega) b2
  have m0 : MB 307 μ R := h.qs.2.2.2
  have m3 : MB 307 μ3 R := ((m0.fw f1 (fun i _ => by omega)).fr f2 (fun i _ => by omega)).fr f3 (fun i _ => by omega)
  have f4 : Fm (fun k j => k = 306 ∧ j = 0) μ3 (sI μ3 306 0 (jv 0)) := Fm.rf.sI ⟨rfl, rfl⟩
  obtain ⟨μ4, e4, u4, f5⟩ := keep2 (n := n) hn (ν := sI μ3 306 0 (jv 0)) hunr hs e1 (fun k j q1 q2 => by rw [f4.at _ _ (by omega), f3.at _ _ (by omega), f2.at _ _ (by omega)]) (fun k j q => by rw [f4.1, f3.1, f2.1]) (by rw [f4.1, f3.1, f2.1])
  have m4 : MB 307 μ4 R := m3.r00.fr f5 (fun i _ => by omega)
  have f6 : Fm (fun k j => k = 307 ∧ j = c) μ4 (sI μ4 307 c (jv v)) := Fm.rf.sI ⟨rfl, rfl⟩
  have f36 : Fm (fun k j => k = 306 ∧ (j = 0 ∨ j = 47) ∨ k = 329 ∨ k = 307 ∧ j = c) μ3 (sI μ4 307 c (jv v)) := ((f4.mono (fun k j y => by omega)).tr f5 (fun k j y => by omega)).tr f6 (fun k j y => by omega)
  have F : Fw (fun k j => k = 0 ∧ (j = 7 ∨ j = 8) ∨ 144 ≤ k ∧ k ≤ 305 ∨ k = 11 ∧ j ≠ 0 ∨ 12 ≤ k ∧ k ≤ 22 ∨ 38 ≤ k ∧ k ≤ 79 ∨ k = 306 ∧ (j = 0 ∨ j = 47) ∨ k = 329 ∨ k = 307 ∧ j = c) (fun k => 144 ≤ k ∧ k ≤ 305) μ (sI μ4 307 c (jv v)) := (((f1.mono (fun k j y => by omega) (fun k y => by omega)).tr (Fw.of (Q := fun _ => False) f2) (fun k j y => by omega) (fun _ y => y.elim)).tr (Fw.of (Q := fun _ => False) f3) (fun k j y => by omega) (fun _ y => y.elim)).tr (Fw.of (Q := fun _ => False) f36) (fun k j y => by omega) (fun _ y => y.elim)
  refine ⟨μ3, μ4, e3, m3, e4, m4, ⟨⟨hw', (b2.fr f3 (fun q j a b y => by omega)).fr f36 (fun q j a b y => by omega), (m4.up hc.1).2.2, ?_⟩, L3.kp f36 (fun q j a b y => by omega), ?_, hio.fw F (fun k j y => by omega), u4.fw (Fw.of (Q := fun _ => False) f6) (fun k j y => by omega) (fun _ y => y.elim)⟩, ?_⟩
  · obtain ⟨⟨p1, p2⟩, Rp, Np, frp, p3, p4, p5, p6⟩ := hs.2.2.2
    have e10 : bup R c v 10 = R 10 := bup_ne (by omega)
    have e11 : bup R c v 11 = R 11 := bup_ne (by omega)
    refine ⟨⟨by rw [F.1 _ _ (by omega), e10]; exact p1, by rw [e10]; exact p2⟩, Rp, Np, frp, p3, p4.fw F (fun q j a b y => by omega) (fun q a b y => by omega), fun q => ?_, fun s hs2 => ?_⟩
    · rw [e10] at q
      obtain ⟨g1, g2, g3⟩ := p5 q
      exact ⟨by rw [e11]; exact g1, fun k hk => by rw [F.1 _ _ (by omega)]; exact g2 k hk, fun i hi => by rw [F.1 _ _ (by omega)]; exact g3 i hi⟩
    · have d1 : bup R c v (frm s) = R (frm s) := bup_ne (fun q => (hc.2.2.2 s).1 q.symm)
      have d2 : bup R c v (lin5 s) = R (lin5 s) := bup_ne (fun q => (hc.2.2.2 s).2 q.symm)
      rw [d1, d2, e10, F.1 _ _ (by omega)]
      exact p6 s hs2
  · rw [F.2.2]
    exact h22
  · rw [f6.at _ _ (by omega), f5.at _ _ (by omega), sI_1, if_pos ⟨rfl, rfl⟩]
/-- cells before the sections -/
theorem hd_ne {i : Nat} (hi : i < 12) (v : Int) : (∀ s, lev (bup R i v) s = lev R s) ∧ (∀ s, lng (bup R i v) s = lng R s) ∧ (∀ s, prt (bup R i v) s = prt R s) ∧ (∀ s, wct (bup R i v) s = wct R s) ∧ ∀ s w p, lt (bup R i v) s w p = lt R s w p := by
  refine ⟨fun s => ?_, fun s => ?_, fun s => ?_, fun s => ?_, fun s w p => ?_⟩
  · show bup R i v (12 + 102 * s + 0) = R (12 + 102 * s + 0)
    exact bup_ne (by omega)
  · show bup R i v (12 + 102 * s + 1) = R (12 + 102 * s + 1)
    exact bup_ne (by omega)
  · show bup R i v (12 + 102 * s + 2) = R (12 + 102 * s + 2)
    exact bup_ne (by omega)
  · show bup R i v (12 + 102 * s + 3) = R (12 + 102 * s + 3)
    exact bup_ne (by omega)
  · show bup R i v (12 + 102 * s + (6 + (12 * w + p))) = R (12 + 102 * s + (6 + (12 * w + p)))
    exact bup_ne (by omega)
theorem CB.hd {k : Nat} {μ : Mm} (hb : CB k μ R N fr) {i : Nat} (hi : i < 8) (v : Int) : sh_X5_put (k + 1) (jv i) (jv v) μ = some (sI μ (k + 2) i (jv v)) ∧ CB k (sI μ (k + 2) i (jv v)) (bup R i v) N fr := by
  obtain ⟨g1, g2, g3, g4, g5⟩ := hd_ne (R := R) (i := i) (by omega) v
  have o1 : ln (k + 1 + 1) = 8 := hb.1.1
  refine ⟨by rw [p5_in (by omega) (by omega), Int.toNat_natCast], hb.1, fun j hj => ?_, ⟨?_, ?_, ?_⟩, fun j hj => ?_⟩
  · rw [sI_1]
    by_cases z : j = i
    · rw [if_pos ⟨rfl, z⟩]
      congr 1
      exact (if_pos z).symm
    · rw [if_neg (fun q => z q.2), hb.2.1 j hj, bup_ne z]
  · rw [sI_1, if_neg (by omega), hb.2.2.1.1, bup_ne (by omega)]
  · rw [sI_1, if_neg (by omega), hb.2.2.1.2.1]
  · rw [sI_1, if_neg (by omega), hb.2.2.1.2.2]
  · obtain ⟨q1, q2, q3, q4⟩ := hb.2.2.2 j hj
    refine ⟨by rw [sI_1, if_neg (by omega), q1, g1], by rw [sI_1, if_neg (by omega), q2, g2], by rw [sI_1, if_neg (by omega), q3, g4], fun w hww => ?_⟩
    rw [g4] at hww
    rw [sI_2, q4 w hww]
    exact (pk_cg (fun p _ => g5 j w p)).symm
theorem WB.hd {K : Int} (hw : WB K R N fr) {i : Nat} {v : Int} (hi : i = 0 ∧ 20 ≤ v ∧ v ≤ 120 ∨ i = 7 ∧ 1 ≤ v ∧ v ≤ 9 ∨ i = 8 ∧ (v = 0 ∨ v = 1)) : WB K (bup R i v) N fr := by
  obtain ⟨g1, g2, g3, g4, g5⟩ := hd_ne (R := R) (i := i) (by omega) v
  have e : ∀ j, j ≠ i → bup R i v j = R j := fun j hj => bup_ne hj
  have eo : bup R i v i = v := if_pos rfl
  obtain ⟨a0, a1, a2, a3, a4, a5, a6, a7, a8, a9, a10⟩ := hw
  refine ⟨by rw [e 9 (by omega)]; exact a0, ?_, by rw [e 1 (by omega)]; exact a2, by rw [e 2 (by omega)]; exact a3, by rw [e 3 (by omega)]; exact a4, by rw [e 4 (by omega)]; exact a5, by rw [e 5 (by omega)]; exact a6, by rw [e 6 (by omega)]; exact a7, ?_, ?_, fun j hj => ?_⟩
  · by_cases z : 0 = i
    · rw [← z] at eo ⊢
      rw [eo]
      omega
    · rw [e 0 z]
      exact a1
  · by_cases z : 7 = i
    · rw [← z] at eo ⊢
      rw [eo]
      omega
    · rw [e 7 z]
      exact a8
  · by_cases z : 8 = i
    · rw [← z] at eo ⊢
      rw [eo]
      omega
    · rw [e 8 z]
      exact a9
  · obtain ⟨b1, b2, b3, b4, b5, b6⟩ := a10 j hj
    refine ⟨by rw [g3]; exact b1, by rw [g1]; exact b2, by rw [g2]; exact b3, by rw [g4]; exact b4, fun w hww => ?_, by rw [g1, g1]; exact b6⟩
    rw [g4] at hww
    obtain ⟨c1, c2⟩ := b5 w hww
    exact ⟨okL_cg (fun p _ => g5 j w p) c1, by rw [g5]; exact c2⟩
/-- a call that may change the book -/
def Qs (m : List Nat) (μ : Mm) (I O : List Int) (c : Option ((Nat × Mm) ⊕ (Int32 × Mm))) (d : Mm → Option (Int32 × Mm)) : Prop := ∃ x μ1 v μ2 I' O' R' N' fr', c = some (Sum.elim (fun e => .inl (e, μ1)) (fun r => .inr (r, μ1)) x) ∧ d μ1 = some (v, μ2) ∧ Ag m x v (μ2.1 306 0) ∧ ST μ2 I' O' R' N' fr'
theorem ST.th {μ : Mm} (h : ST μ I O R N fr) (v : Int32) : ST (sI μ 306 0 v) I O R N fr := h.kq (Fm.rf.sI (by omega))
theorem q_setLength (hn : 120000 ≤ n) {μ : Mm} (h : ST μ I O R N fr) (a b : Int32) : Qs [2, 1] μ I O (sh_X11_setLength n a b μ) (sh_X12_setLength n a b) := by
  have hq := h.qs
  have hw := hq.1
  have hN := hw.1
  obtain ⟨z, h1, h2, rfl⟩ := jv_ex a
  obtain ⟨y, h3, h4, rfl⟩ := jv_ex b
  have eM : ∀ ν : Mm, MB 307 ν R → sh_X12_setLength n (jv z) (jv y) ν = if 0 ≤ z ∧ z < N then (if 0 ≤ y ∧ y ≤ 500 then (sh_X12_remember n (sI ν 306 0 (jv 0))).bind fun r4 => (sh_X12_of (jv z) (jv 1) r4).bind fun r5 => (sh_X12_set (jv z) (jv 1) (jv y) r4).bind fun r6 => some (r5, r6) else some (jv 0, sI ν 306 0 (jv 2))) else some (jv 0, sI ν 306 0 (jv 1)) := by
    intro ν hν
    unfold sh_X12_setLength
    rw [isS hν hw ⟨h1, h2⟩, Option.bind_some, li0, li500, in_b ⟨h3, h4⟩ (by unfold i32; omega) (by unfold i32; omega), Option.bind_some, pas2, Option.bind_some]
    simp only [jv_lit]
    by_cases hz : 0 ≤ z ∧ z < N
    · by_cases hy : 0 ≤ y ∧ y ≤ 500
      · rw [if_pos (⟨hz, hy⟩ : (0 ≤ z ∧ z < N) ∧ 0 ≤ y ∧ y ≤ 500), if_neg (show ¬ jv 1 = jv 0 by decide), if_pos hz, if_pos hz, if_pos hy, if_pos hy]
      · rw [if_neg (fun q : (0 ≤ z ∧ z < N) ∧ 0 ≤ y ∧ y ≤ 500 => hy q.2), if_pos (show jv 0 = jv 0 from rfl), if_pos hz, if_pos hz, if_neg hy, if_neg hy]
    · rw [if_neg (fun q : (0 ≤ z ∧ z < N) ∧ 0 ≤ y ∧ y ≤ 500 => hz q.1), if_pos (show jv 0 = jv 0 from rfl), if_neg hz, if_neg hz]
  unfold sh_X11_setLength
  rw [ckS hq ⟨h1, h2⟩, Option.bind_some, ckLen ⟨h3, h4⟩, Option.bind_some]
  by_cases hz : 0 ≤ z ∧ z < N
  · obtain ⟨s, rfl⟩ : ∃ s : Nat, z = s := ⟨z.toNat, by omega⟩
    have hs : s < N := by omega
    rw [if_pos hz, Sum.elim_inr]
    by_cases hy : 0 ≤ y ∧ y ≤ 500
    · rw [if_pos hy, Sum.elim_inr]
      obtain ⟨μ1, e1, b1, K⟩ := edit1 (n := n) hn h (c := 12 + 102 * s + 1) (v := y) ⟨by omega, by omega, by omega, fun s' => ⟨by show 12 + 102 * s + 1 ≠ 12 + 102 * s' + 4; omega, by show 12 + 102 * s + 1 ≠ 12 + 102 * s' + 5; omega⟩⟩ (hw.len (Int.le_refl 500) hy)
      obtain ⟨μ2, e2, b2, f2⟩ := b1.len hw hs (v := y)
      obtain ⟨μ3, μ4, e3, m3, e4, m4, hST, th⟩ := K μ2 (f2.mono (fun k j y => by omega)) b2
      refine ⟨.inr (jv (lng R s)), μ3, jv (lng R s), _, I, O, _, N, fr, ?_, ?_, ⟨th, rfl⟩, hST⟩
      · rw [e1, Option.bind_some, show (16 : Nat) = 11 + 5 from rfl, b1.lg hw hs, Option.bind_some, e2, Option.bind_some, e3]
        rfl
      · rw [eM μ3 m3, if_pos hz, if_pos hy, e4, Option.bind_some, m4.oN (by omega), Option.bind_some, seM m4 (by omega)]
        rfl
    · rw [if_neg hy]
      exact ⟨.inl 1, μ, jv 0, sI μ 306 0 (jv 2), I, O, R, N, fr, rfl, by rw [eM μ hq.2.2.2, if_pos hz, if_neg hy], ⟨1, rfl, by rw [sI_1, if_pos ⟨rfl, rfl⟩]; rfl⟩, h.th _⟩
  · rw [if_neg hz]
    exact ⟨.inl 2, μ, jv 0, sI μ 306 0 (jv 1), I, O, R, N, fr, rfl, by rw [eM μ hq.2.2.2, if_neg hz], ⟨0, rfl, by rw [sI_1, if_pos ⟨rfl, rfl⟩]; rfl⟩, h.th _⟩
end EDT
