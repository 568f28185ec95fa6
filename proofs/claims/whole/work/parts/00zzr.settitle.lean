/-! ANOTHER TITLE of a section, by both -/
theorem EA.inp2 {μ μ' : Mm} {I I' O : List Int} (h : EA μ I O) (h1 : Tx 1 μ' I') (h2 : Ix μ' I') (hs : ∀ k j, (k = 3 ∨ k = 4 ∨ k = 306 ∧ (j = 49 ∨ j = 11 ∨ j = 12) ∨ k = 330 ∨ k = 0 ∧ (j = 3 ∨ j = 4)) → μ'.1 k j = μ.1 k j) : EA μ' I' O := by
  obtain ⟨_, _, ⟨c1, c2, c3⟩, ⟨d1, d2⟩, e1, e2⟩ := h
  refine ⟨h1, h2, ⟨c1, by rw [hs _ _ (by omega), c2], fun i hi => by rw [hs _ _ (by omega), c3 i hi]⟩, ⟨by rw [hs _ _ (by omega), d1], fun i hi => by rw [hs _ _ (by omega), d2 i hi]⟩, ?_, ?_⟩
  · rw [hs _ _ (by omega), hs _ _ (by omega), e1]
  · rw [hs _ _ (by omega), hs _ _ (by omega), e2]
section STT
variable {n : Nat} {R : Nat → Int} {N fr : Nat} {I O : List Int}
theorem ST.sr {μ : Mm} (h : ST μ I O R N fr) : ST (sR μ 1 1) I O R N fr := by
  obtain ⟨h1, h2, h3, h4, h5⟩ := h
  exact ⟨h1, h2, h3, h4, h5⟩
/-- the latest proof stays, its sections moved -/
theorem PR.mv {μ μ' : Mm} {B B' : Nat → Int32} {R' : Nat → Int} {N' : Nat} (h : PR 10 μ B R N) (h10 : R' 10 = R 10) (h11 : R' 11 = R 11) (hB : ∀ i, 2460 ≤ i → B' i = B i) (h2 : μ'.1 10 2 = μ.1 10 2) (hc : ∀ k j, 24 ≤ k → k ≤ 36 → μ'.1 k j = μ.1 k j) (hc2 : ∀ k j, 24 ≤ k → k ≤ 36 → μ'.2.1 k j = μ.2.1 k j) (ho : ∀ s, s < N' → (R' (frm s) = -1 ∧ μ'.1 23 s = jv (-1)) ∨ ∃ s0, s0 < N ∧ R' (frm s) = R (frm s0) ∧ R' (lin5 s) = R (lin5 s0) ∧ μ'.1 23 s = μ.1 23 s0) : PR 10 μ' B' R' N' := by
  obtain ⟨⟨p1, p2⟩, Rp, Np, frp, p3, p4, p5, p6⟩ := h
  have F : Fw (fun k _ => ¬ (24 ≤ k ∧ k ≤ 36)) (fun k => ¬ (24 ≤ k ∧ k ≤ 36)) μ (μ'.1, μ'.2.1, μ.2.2) := ⟨fun k j q => hc k j (by omega) (by omega), fun k j q => hc2 k j (by omega) (by omega), rfl⟩
  have p4' : CB 24 (μ'.1, μ'.2.1, μ.2.2) Rp Np frp := p4.fw F (fun q j a b y => y ⟨a, b⟩) (fun q a b y => y ⟨a, b⟩)
  refine ⟨⟨by rw [h2, h10]; exact p1, by rw [h10]; exact p2⟩, Rp, Np, frp, p3, p4', fun q => ?_, fun s hs => ?_⟩
  · rw [h10] at q
    obtain ⟨g1, g2, g3⟩ := p5 q
    exact ⟨by rw [h11]; exact g1, fun k hk => by rw [hB _ (by omega)]; exact g2 k hk, fun i hi => by rw [hB _ (by omega)]; exact g3 i hi⟩
  · rcases ho s hs with a | ⟨s0, a1, a2, a3, a4⟩
    · exact Or.inl a
    · rw [h10, a2, a3]
      rcases p6 s0 a1 with ⟨b1, b2⟩ | ⟨b1, o, b2, b3, b4⟩
      · exact Or.inl ⟨b1, a4.trans b2⟩
      · exact Or.inr ⟨b1, o, b2, a4.trans b3, b4⟩
/-- words of a title -/
def okW (I : List Int) (p x : Nat) : Prop := (1 ≤ x ∧ x ≤ 8) ∧ ∀ w, w < x → okL (wdL I p w) ∧ wdL I p w 0 ≠ 0
theorem okW.of {p x : Nat} (hp : p ≤ I.length) (h : tiS I p = .inr x) : okW I p x := by
  obtain ⟨a1, a2, a3, a4, a5⟩ := tiG_sp 10 0 (by omega) h
  exact ⟨⟨a3, a2⟩, fun w hw => wd_ok hp (a5 w (Nat.zero_le _) hw).1⟩
theorem ti_f (s : Nat) {p : Nat} {k : Nat} (hk : k ≤ 8) : (∀ j, lev (tiR R s I p k) j = lev R j) ∧ (∀ j, lng (tiR R s I p k) j = lng R j) ∧ (∀ j, prt (tiR R s I p k) j = prt R j) ∧ (∀ j, j ≠ s → wct (tiR R s I p k) j = wct R j) ∧ (∀ j, j ≠ s → ∀ w q, w < 8 → q < 12 → lt (tiR R s I p k) j w q = lt R j w q) ∧ (∀ c, c < 12 → tiR R s I p k c = R c) ∧ ∀ j, tiR R s I p k (frm j) = R (frm j) ∧ tiR R s I p k (lin5 j) = R (lin5 j) := by
  refine ⟨fun j => ?_, fun j => ?_, fun j => ?_, fun j hj => ?_, fun j hj w q hw hq => ?_, fun c hc => tiR_ne (by omega) k hk (by omega), fun j => ⟨?_, ?_⟩⟩
  · show tiR R s I p k (12 + 102 * j + 0) = R (12 + 102 * j + 0)
    exact tiR_ne (by omega) k hk (by omega)
  · show tiR R s I p k (12 + 102 * j + 1) = R (12 + 102 * j + 1)
    exact tiR_ne (by omega) k hk (by omega)
  · show tiR R s I p k (12 + 102 * j + 2) = R (12 + 102 * j + 2)
    exact tiR_ne (by omega) k hk (by omega)
  · show tiR R s I p k (12 + 102 * j + 3) = R (12 + 102 * j + 3)
    exact tiR_ne (by omega) k hk (by omega)
  · show tiR R s I p k (12 + 102 * j + (6 + (12 * w + q))) = R (12 + 102 * j + (6 + (12 * w + q)))
    exact tiR_ne (by omega) k hk (by omega)
  · show tiR R s I p k (12 + 102 * j + 4) = R (12 + 102 * j + 4)
    exact tiR_ne (by omega) k hk (by omega)
  · show tiR R s I p k (12 + 102 * j + 5) = R (12 + 102 * j + 5)
    exact tiR_ne (by omega) k hk (by omega)
theorem WB.ti (hw : WB 500 R N fr) {s p x : Nat} (hx : okW I p x) : WB 500 (tiR R s I p x) N fr := by
  obtain ⟨g1, g2, g3, g4, g5, g6, _⟩ := ti_f (R := R) (I := I) s (p := p) hx.1.2
  have g7 := tiR_w (R := R) (s := s) (I := I) (p := p) x hx.1.2
  obtain ⟨a0, a1, a2, a3, a4, a5, a6, a7, a8, a9, a10⟩ := hw
  refine ⟨by rw [g6 9 (by omega)]; exact a0, by rw [g6 0 (by omega)]; exact a1, by rw [g6 1 (by omega)]; exact a2, by rw [g6 2 (by omega)]; exact a3, by rw [g6 3 (by omega)]; exact a4, by rw [g6 4 (by omega)]; exact a5, by rw [g6 5 (by omega)]; exact a6, by rw [g6 6 (by omega)]; exact a7, by rw [g6 7 (by omega)]; exact a8, by rw [g6 8 (by omega)]; exact a9, fun j hj => ?_⟩
  obtain ⟨b1, b2, b3, b4, b5, b6⟩ := a10 j hj
  have h1 := hx.1
  by_cases z : j = s
  · subst z
    refine ⟨by rw [g3]; exact b1, by rw [g1]; exact b2, by rw [g2]; exact b3, by rw [g7]; omega, fun w hww => ?_, by rw [g1, g1]; exact b6⟩
    rw [g7] at hww
    obtain ⟨c1, c2⟩ := hx.2 w (by omega)
    exact ⟨okL_cg (fun q hq => tiR_l hq x hx.1.2 (by omega)) c1, by rw [tiR_l (by omega) x hx.1.2 (by omega)]; exact c2⟩
  · refine ⟨by rw [g3]; exact b1, by rw [g1]; exact b2, by rw [g2]; exact b3, by rw [g4 j z]; exact b4, fun w hww => ?_, by rw [g1, g1]; exact b6⟩
    rw [g4 j z] at hww
    obtain ⟨c1, c2⟩ := b5 w hww
    have hw8 : w < 8 := by omega
    exact ⟨okL_cg (fun q hq => g5 j z w q hw8 hq) c1, by rw [g5 j z w 0 hw8 (by omega)]; exact c2⟩
/-! the class puts a title into a book -/
theorem en12 {k s x : Nat} (hk : ln (k + 10) = 192) (hk7 : k + 10 ≠ 7) (hs : s < 24) (hx : x ≤ 8) : ∀ (m f i : Nat) (μ : Mm), i + m = x → m < f → ∃ μ1, sh_X0_entitle_12 n k (jv s) 6 (jv x) f (jv i) μ = some μ1 ∧ (∀ w, i ≤ w → w < x → μ1.2.1 (k + 10) (8 * s + w) = μ.2.1 7 w) ∧ (∀ c, ¬ (8 * s + i ≤ c ∧ c < 8 * s + x) → μ1.2.1 (k + 10) c = μ.2.1 (k + 10) c) ∧ Fw (fun _ _ => False) (fun q => q = k + 10) μ μ1 := by
  have l7 : ln (6 + 1) = 8 := rfl
  have lk : ln (k + 9 + 1) = 192 := hk
  intro m
  induction m with
  | zero =>
    intro f i μ hi hf
    obtain ⟨f, rfl⟩ : ∃ g, f = g + 1 := ⟨f - 1, by omega⟩
    rw [sh_X0_entitle_12, if_pos (by rw [jv_le] <;> omega)]
    exact ⟨μ, rfl, fun w a b => by omega, fun _ _ => rfl, Fw.rf⟩
  | succ m ih =>
    intro f i μ hi hf
    obtain ⟨f, rfl⟩ : ∃ g, f = g + 1 := ⟨f - 1, by omega⟩
    have f0 : Fw (fun _ _ => False) (fun q => q = k + 10) μ (sJ μ (k + 10) (8 * s + i) (μ.2.1 7 i)) := ⟨fun _ _ _ => rfl, fun a b q => by rw [sJ_21, if_neg (fun w => q w.1)], rfl⟩
    obtain ⟨μ1, e1, a1, a2, a3⟩ := ih f (i + 1) (sJ μ (k + 10) (8 * s + i) (μ.2.1 7 i)) (by omega) (by omega)
    refine ⟨μ1, ?_, fun w h1 h2 => ?_, fun c hc => ?_, f0.tr a3 (fun _ _ q => q) (fun _ q => q)⟩
    · rw [sh_X0_entitle_12, if_neg (by rw [jv_le] <;> omega), a9_in (by omega) (by omega), Option.bind_some, Int.toNat_natCast]
      simp only [jv_lit]
      rw [jv_mul, jv_add, p9_in (by omega) (by omega), Option.bind_some, jv_add, show ((s : Int) * 8 + (i : Int)).toNat = 8 * s + i by omega, show (i : Int) + 1 = ((i + 1 : Nat) : Int) by omega]
      exact e1
    · by_cases z : w = i
      · rw [a2 _ (by omega), sJ_21, z, if_pos ⟨rfl, rfl⟩]
      · rw [a1 w (by omega) h2, sJ_21, if_neg (fun q => hk7 q.1.symm)]
    · rw [a2 c (by omega), sJ_21, if_neg (fun q => hc ⟨by omega, by omega⟩)]
theorem enC (hn : 20 ≤ n) {k s x : Nat} (hk : ln (k + 10) = 192) (hk8 : ln (k + 8) = 24) (hk7 : k + 10 ≠ 7) (hs : s < 24) (hx : x ≤ 8) {μ : Mm} : ∃ μ1, sh_X0_entitle n k (jv s) 6 (jv x) μ = some μ1 ∧ μ1.1 (k + 8) s = jv x ∧ (∀ w, w < x → μ1.2.1 (k + 10) (8 * s + w) = μ.2.1 7 w) ∧ (∀ c, ¬ (8 * s ≤ c ∧ c < 8 * s + 8) → μ1.2.1 (k + 10) c = μ.2.1 (k + 10) c) ∧ Fw (fun q j => q = k + 8 ∧ j = s) (fun q => q = k + 10) μ μ1 := by
  have l8 : ln (k + 7 + 1) = 24 := hk8
  obtain ⟨μ1, e1, a1, a2, a3⟩ := en12 (n := n) hk hk7 hs hx x n 0 (sI μ (k + 8) s (jv x)) (by omega) (by omega)
  have e1' : sh_X0_entitle_12 n k (jv s) 6 (jv x) n (0 : Int32) (sI μ (k + 8) s (jv x)) = _ := e1
  have f0 : Fm (fun q j => q = k + 8 ∧ j = s) μ (sI μ (k + 8) s (jv x)) := Fm.rf.sI ⟨rfl, rfl⟩
  refine ⟨μ1, ?_, by rw [a3.1 _ _ (fun q => q), sI_1, if_pos ⟨rfl, rfl⟩], fun w hw => by rw [a1 w (Nat.zero_le _) hw, sI_2], fun c hc => by rw [a2 c (by omega), sI_2], (Fw.of (Q := fun q => q = k + 10) f0).tr a3 (fun _ _ q => q.elim) (fun _ q => q)⟩
  unfold sh_X0_entitle
  rw [p5_in (by omega) (by omega), Option.bind_some, Int.toNat_natCast]
  exact e1'
theorem CB.ttl {k : Nat} (hn : 20 ≤ n) (hk7 : k + 10 ≠ 7) {μ : Mm} (hw : WB 500 R N fr) (hb : CB k μ R N fr) {s p x : Nat} (hs : s < N) (hx : okW I p x) (ht : ∀ w, w < x → μ.2.1 7 w = pk (wdL I p w)) : ∃ μ1, sh_X0_entitle n k (jv s) 6 (jv x) μ = some μ1 ∧ CB k μ1 (tiR R s I p x) N fr ∧ Fw (fun q j => q = k + 8 ∧ j = s) (fun q => q = k + 10) μ μ1 := by
  obtain ⟨o1, o2, o3, o4, o5, o6⟩ := hb.1
  have hN := hw.1
  obtain ⟨g1, g2, g3, g4, g5, g6, _⟩ := ti_f (R := R) (I := I) s (p := p) hx.1.2
  have g7 := tiR_w (R := R) (s := s) (I := I) (p := p) x hx.1.2
  obtain ⟨μ1, e1, a1, a2, a3, f1⟩ := enC (n := n) hn o5 o4 hk7 (s := s) (by omega) hx.1.2 (μ := μ)
  refine ⟨μ1, e1, ⟨hb.1, fun i hi => ?_, ⟨?_, ?_, ?_⟩, fun j hj => ?_⟩, f1⟩
  · rw [f1.1 _ _ (by omega), hb.2.1 i hi, g6 i (by omega)]
  · rw [f1.1 _ _ (by omega), hb.2.2.1.1, g6 8 (by omega)]
  · rw [f1.1 _ _ (by omega), hb.2.2.1.2.1]
  · rw [f1.1 _ _ (by omega), hb.2.2.1.2.2]
  · obtain ⟨q1, q2, q3, q4⟩ := hb.2.2.2 j hj
    refine ⟨by rw [f1.1 _ _ (by omega), q1, g1], by rw [f1.1 _ _ (by omega), q2, g2], ?_, fun w hww => ?_⟩
    · by_cases z : j = s
      · rw [z, a1, g7]
      · rw [f1.1 _ _ (by omega), q3, g4 j z]
    · by_cases z : j = s
      · subst z
        rw [g7] at hww
        rw [a2 w (by omega), ht w (by omega)]
        exact (pk_cg (fun q hq => tiR_l hq x hx.1.2 (by omega))).symm
      · rw [g4 j z] at hww
        have hwc := (hw.sec hj).2.2.2.1
        rw [a3 _ (by omega), q4 w hww]
        exact (pk_cg (fun q hq => g5 j z w q (by omega) hq)).symm
theorem tiV_1 (h : tiV I (tiS I 0) ≠ 0) : ∃ x, tiS I 0 = .inr x ∧ tk I (ps I 0 x) = 0 ∧ tiV I (tiS I 0) = 1 := by
  cases hs : tiS I 0 with
  | inl e => rw [hs] at h; exact absurd rfl h
  | inr x =>
    rw [hs] at h
    by_cases z : tk I (ps I 0 x) = 0
    · exact ⟨x, rfl, z, if_pos z⟩
    · exact absurd (if_neg z) h
theorem tiV_b : tiV I (tiS I 0) = 0 ∨ tiV I (tiS I 0) = 1 := by
  by_cases z : tiV I (tiS I 0) = 0
  · exact Or.inl z
  · obtain ⟨_, _, _, h⟩ := tiV_1 z
    exact Or.inr h
theorem q_setTitle (hn : 120000 ≤ n) {μ : Mm} (h : ST μ I O R N fr) (a : Int32) : Qs [2, 1] μ I O (sh_X11_setTitle n a μ) (sh_X12_setTitle n a) := by
  have hq := h.qs
  have hw := hq.1
  have hN := hw.1
  have l1 : ln 1 = 0 := rfl
  obtain ⟨z, h1, h2, rfl⟩ := jv_ex a
  have hio := h.2.2.2.1
  -- the model's answer where it changes nothing
  have eM : ∀ ν : Mm, ST ν I O R N fr → ∃ ν1, ST ν1 I O R N fr ∧ Ix ν1 I ∧ Fm PSi ν ν1 ∧ sh_X12_setTitle n (jv z) ν = (if (0 ≤ z ∧ z < N) ∧ tiV I (tiS I 0) = 1 then (sh_X12_remember n (sI ν1 306 0 (jv 0))).bind fun r4 => (sh_X12_of (jv z) (jv 3) r4).bind fun r5 => (sh_X12_takeTitle n (jv z) r4).bind fun r6 => some (r5, r6) else some (jv 0, sI ν1 306 0 (jv (if 0 ≤ z ∧ z < N then 2 else 1)))) := by
    intro ν hν
    obtain ⟨ν1, e1, f1⟩ := ittM (n := n) (by omega) hν.2.2.2.1.2.1
    have s1 : ST ν1 I O R N fr := hν.kv (Fw.of (f1.mono (fun k j y => by omega)))
    refine ⟨ν1, s1, s1.2.2.2.1.2.1, f1, ?_⟩
    have et : jv (tiV I (tiS I 0)) = jv (if tiV I (tiS I 0) = 1 then 1 else 0) := by
      rcases tiV_b (I := I) with y | y
      · rw [y]; rfl
      · rw [y]; rfl
    unfold sh_X12_setTitle
    rw [isS hν.qs.2.2.2 hw ⟨h1, h2⟩, Option.bind_some, e1, Option.bind_some, et, pas2, Option.bind_some]
    simp only [jv_lit]
    by_cases y : 0 ≤ z ∧ z < N
    · by_cases x : tiV I (tiS I 0) = 1
      · rw [if_pos (⟨y, x⟩ : (0 ≤ z ∧ z < N) ∧ tiV I (tiS I 0) = 1), if_neg (show ¬ jv 1 = jv 0 by decide), if_pos y, if_pos x, if_pos (⟨y, x⟩ : (0 ≤ z ∧ z < N) ∧ tiV I (tiS I 0) = 1)]
      · rw [if_neg (fun q : (0 ≤ z ∧ z < N) ∧ tiV I (tiS I 0) = 1 => x q.2), if_pos (show jv 0 = jv 0 from rfl), if_pos y, if_neg x, if_neg (fun q : (0 ≤ z ∧ z < N) ∧ tiV I (tiS I 0) = 1 => x q.2), if_pos y]
    · rw [if_neg (fun q : (0 ≤ z ∧ z < N) ∧ tiV I (tiS I 0) = 1 => y q.1), if_pos (show jv 0 = jv 0 from rfl), if_neg y, if_neg (fun q : (0 ≤ z ∧ z < N) ∧ tiV I (tiS I 0) = 1 => y q.1), if_neg y]
  unfold sh_X11_setTitle
  rw [ckS hq ⟨h1, h2⟩, Option.bind_some]
  by_cases hz : 0 ≤ z ∧ z < N
  · obtain ⟨s, rfl⟩ : ∃ s : Nat, z = s := ⟨z.toNat, by omega⟩
    have hs : s < N := by omega
    obtain ⟨μ1, e1, f1, t1⟩ := rtC (n := n) (by omega) hio.1 hio.2.1.2.1
    have h1' : ST μ1 I O R N fr := h.sr.kv (f1.mono (fun k j y => by omega) (fun k y => by omega))
    rw [if_pos hz, Sum.elim_inr]
    unfold sh_X11_checkTitle
    rw [e1, Option.bind_some]
    by_cases hv : tiV I (tiS I 0) = 0
    · obtain ⟨ν1, s1, _, _, e2⟩ := eM μ1 h1'
      rw [hv, if_pos (show jv 0 = (0 : Int32) from rfl), Option.bind_some, Sum.elim_inl]
      exact ⟨.inl 1, μ1, jv 0, sI ν1 306 0 (jv 2), I, O, R, N, fr, rfl, by rw [e2, if_neg (fun q => by rw [hv] at q; exact absurd q.2 (by decide)), if_pos hz], ⟨1, rfl, by rw [sI_1, if_pos ⟨rfl, rfl⟩]; rfl⟩, s1.th _⟩
    · obtain ⟨x, hx, hx0, hv1⟩ := tiV_1 hv
      have ht := t1 x hx hx0
      have hok := okW.of (Nat.zero_le _) hx
      have hw' := hw.ti (I := I) (s := s) (p := 0) hok
      obtain ⟨g1, g2, g3, g4, g5, g6, g7⟩ := ti_f (R := R) (I := I) s (p := 0) hok.1.2
      obtain ⟨hsn, hL, h22, hio1, hun⟩ := id h1'
      obtain ⟨u, nx, hunr⟩ := hun
      obtain ⟨hu, hnx, h8, h7, h47, hpast⟩ := id hunr
      obtain ⟨μ2, e2, s2, a7, a8, f2⟩ := kfu (nx := nx) (u := u) hsn hu hnx h8 h7
      have c2 : CB 11 μ2 R N fr := hsn.2.1.fw f2 (fun q j a b y => by omega) (fun q a b y => by omega)
      have e53 : μ2.1 5 3 = jv x := by rw [f2.1 _ _ (by omega)]; exact ht.1
      obtain ⟨μ3, e3, c3, f3⟩ := CB.ttl (n := n) (k := 11) (by omega) (by omega) hw c2 hs hok (fun w hww => by rw [f2.2.1 _ _ (by omega)]; exact ht.2 w hww)
      have f4 : Fm (fun k j => k = 1 ∧ j = 1) μ3 (sI μ3 1 1 (jv 0)) := Fm.rf.sI ⟨rfl, rfl⟩
      obtain ⟨μ5, e5, f5, L5⟩ := layA (n := n) (t := 38) (kb := 11) (by omega) hw' (by omega) hL.1 (by omega) (c3.fr f4 (fun q j a b y => by omega))
      have F15 : Fw (fun k j => k = 0 ∧ (j = 7 ∨ j = 8) ∨ 144 ≤ k ∧ k ≤ 305 ∨ k = 19 ∨ k = 1 ∧ j = 1 ∨ 38 ≤ k ∧ k ≤ 79) (fun k => 144 ≤ k ∧ k ≤ 305 ∨ k = 21) μ1 μ5 := (((f2.mono (fun k j y => by omega) (fun k y => by omega)).tr f3 (fun k j y => by omega) (fun k y => by omega)).tr (Fw.of (Q := fun _ => False) f4) (fun k j y => by omega) (fun _ y => y.elim)).tr (Fw.of (Q := fun _ => False) f5) (fun k j y => by omega) (fun _ y => y.elim)
      have m5 : MB 307 μ5 R := h1'.qs.2.2.2.fw F15 (fun i _ => by omega)
      have i5 : Ix μ5 I := ⟨hio1.2.1.1, hio1.2.1.2.1, by rw [F15.1 _ _ (by omega)]; exact hio1.2.1.2.2.1, fun i hi => by rw [F15.1 _ _ (by omega)]; exact hio1.2.1.2.2.2 i hi⟩
      obtain ⟨μ6, e6, f6⟩ := ittM (n := n) (by omega) i5
      have i6 := i5.kp f6 (by omega) (fun j => by omega)
      have f7 : Fm (fun k j => k = 306 ∧ j = 0) μ6 (sI μ6 306 0 (jv 0)) := Fm.rf.sI ⟨rfl, rfl⟩
      obtain ⟨ν1, d1, u1, q1⟩ := keep2 (n := n) hn (ν := sI μ6 306 0 (jv 0)) hunr hsn e2 (fun k j y1 y2 => by rw [f7.at _ _ (by omega), f6.at _ _ (by omega), f5.at _ _ (by omega), f4.at _ _ (by omega), f3.1 _ _ (by omega)]) (fun k j y => by rw [f7.1, f6.1, f5.1, f4.1, f3.2.1 _ _ (by omega)]) (by rw [f7.1, f6.1, f5.1, f4.1, f3.2.2])
      have m6 : MB 307 ν1 R := ((m5.fr f6 (fun i _ => by omega)).fr f7 (fun i _ => by omega)).fr q1 (fun i _ => by omega)
      have i7 : Ix ν1 I := (i6.kp f7 (by omega) (fun j => by omega)).kp q1 (by omega) (fun j => by omega)
      obtain ⟨ν2, d2, m7, a9, q2⟩ := taT (n := n) (by omega) (s := s) (by omega) hx hx0 i7 m6
      have G57 : Fm (fun k j => k = 306 ∧ (j = 0 ∨ j = 47 ∨ 5 ≤ j ∧ j ≤ 10) ∨ k = 329 ∨ k = 307 ∧ j < 2460) μ5 ν2 := (((f6.mono (fun k j y => by omega)).tr f7 (fun k j y => by omega)).tr q1 (fun k j y => by omega)).tr q2 (fun k j y => by omega)
      have F : Fw (fun k j => k = 0 ∧ (j = 7 ∨ j = 8) ∨ 144 ≤ k ∧ k ≤ 305 ∨ k = 19 ∨ k = 1 ∧ j = 1 ∨ 38 ≤ k ∧ k ≤ 79 ∨ k = 306 ∧ (j = 0 ∨ j = 47 ∨ 5 ≤ j ∧ j ≤ 10) ∨ k = 329 ∨ k = 307 ∧ j < 2460) (fun k => 144 ≤ k ∧ k ≤ 305 ∨ k = 21) μ1 ν2 := (F15.mono (fun k j y => by omega) (fun _ y => y)).tr (Fw.of (Q := fun _ => False) G57) (fun k j y => by omega) (fun _ y => y.elim)
      have c5 : CB 11 ν2 (tiR R s I 0 x) N fr := ((c3.fr f4 (fun q j a b y => by omega)).fr f5 (fun q j a b y => by omega)).fr G57 (fun q j a b y => by omega)
      have e1z : ν2.1 1 1 = jv 0 := by rw [G57.at _ _ (by omega), f5.at _ _ (by omega), sI_1, if_pos ⟨rfl, rfl⟩]
      rw [hv1, if_neg one_ne, Option.bind_some, Sum.elim_inr]
      refine ⟨.inr (jv (wct R s)), μ5, jv (wct R s), ν2, [], O, _, N, fr, ?_, ?_, ⟨?_, rfl⟩, ⟨hw', c5, m7.2.2, ?_⟩, L5.kp G57 (fun q j a b y => by omega), by rw [F.2.2]; exact h22, hio1.inp2 ⟨Nat.zero_le _, e1z, fun i hi => absurd hi (by show ¬ i < 0; omega)⟩ ⟨Nat.zero_le _, fun i hi => absurd hi (by show ¬ i < 0; omega), a9, fun i hi => absurd hi (by show ¬ i < 0; omega)⟩ (fun k j y => F.1 _ _ (by omega)), u1.fw (Fw.of (Q := fun _ => False) q2) (fun k j y => by omega) (fun _ y => y.elim)⟩
      · rw [e2, Option.bind_some, show (18 : Nat) = 11 + 7 from rfl, c2.wc hw hs, Option.bind_some, e53, e3, Option.bind_some]
        unfold sh_X8_cut
        rw [jv_lit (nat_lit 0), pt_eq, Option.bind_some, Option.bind_some, e5]
        rfl
      · unfold sh_X12_setTitle
        have ep : sh_X12_passes2 (jv 1) (jv 1) μ6 = some (jv 1, sI μ6 306 0 (jv 0)) := rfl
        rw [isS m5 hw ⟨h1, h2⟩, Option.bind_some, if_pos hz, e6, Option.bind_some, hv1, ep, Option.bind_some, if_neg one_ne, d1, Option.bind_some, jv_lit (nat_lit 3), m6.oW (by omega), Option.bind_some, d2]
        rfl
      · rw [q2.at _ _ (by omega), q1.at _ _ (by omega), sI_1, if_pos ⟨rfl, rfl⟩]
      · exact hsn.2.2.2.mv (g6 10 (by omega)) (g6 11 (by omega)) (fun i hi => F.1 _ _ (by omega)) (F.1 _ _ (by omega)) (fun k j a b => F.1 _ _ (by omega)) (fun k j a b => F.2.1 _ _ (by omega)) (fun j hj => Or.inr ⟨j, hj, (g7 j).1, (g7 j).2, F.1 _ _ (by omega)⟩)
  · obtain ⟨ν1, s1, _, _, e2⟩ := eM μ h
    rw [if_neg hz]
    exact ⟨.inl 2, μ, jv 0, sI ν1 306 0 (jv 1), I, O, R, N, fr, rfl, by rw [e2, if_neg (fun q => hz q.1), if_neg hz], ⟨0, rfl, by rw [sI_1, if_pos ⟨rfl, rfl⟩]; rfl⟩, s1.th _⟩
end STT
