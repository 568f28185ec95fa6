/-! STATEMENTS of a text, read by the class at μ and by the model at ν -/
abbrev PJc : Nat → Nat → Prop := fun k _ => k = 5 ∨ 85 ≤ k ∧ k ≤ 97
abbrev QJc : Nat → Prop := fun k => k = 7 ∨ k = 95
abbrev PJm : Nat → Nat → Prop := fun k j => k = 306 ∧ 7 ≤ j ∧ j ≤ 15 ∨ k = 308 ∧ j < 2460
def JF (μ ν : Mm) (sty rgt man : Int) : Prop := ((sty = 0 ∨ sty = 1) ∧ (rgt = 0 ∨ rgt = 1) ∧ (man = 0 ∨ man = 1)) ∧ (μ.1 5 9 = jv sty ∧ μ.1 5 10 = jv rgt ∧ μ.1 5 11 = jv man) ∧ (ν.1 306 14 = jv sty ∧ ν.1 306 15 = jv rgt ∧ ν.1 306 13 = jv man)
def J (I : List Int) (μ ν : Mm) (p : Nat) (sty rgt man : Int) (R : Nat → Int) (N fr : Nat) : Prop := TC μ I p ∧ (GD ν ∧ TM ν I p) ∧ JF μ ν sty rgt man ∧ WB 500 R N fr ∧ CB 85 μ R N fr ∧ MB 308 ν R ∧ (man = 0 → fr = N) ∧ (∀ s, s < N → μ.1 97 s = jv (-1)) ∧ (∀ s, s < N → R (frm s) = -1) ∧ R 10 = 0 ∧ FC μ 0 (-1)
/-- both failed alike -/
def JB (μ ν : Mm) : Prop := ∃ c z, FC μ c z ∧ BD ν c z
def JO (I : List Int) (μ ν : Mm) (p : Nat) (c : Option (Int32 × Mm)) (d : Option Mm) : Prop := ∃ v μ1 ν1, c = some (v, μ1) ∧ Fw PJc QJc μ μ1 ∧ d = some ν1 ∧ Fm PJm ν ν1 ∧ ((v = 0 ∧ JB μ1 ν1) ∨ (v = 1 ∧ ∃ p' sty rgt man R N fr, p < p' ∧ J I μ1 ν1 p' sty rgt man R N fr))
section STM
variable {n : Nat} {I : List Int} {p : Nat} {sty rgt man : Int} {R : Nat → Int} {N fr : Nat}
theorem JO.pre {μ ν μ0 ν0 : Mm} {p0 : Nat} {c : Option (Int32 × Mm)} {d : Option Mm} (h : JO I μ ν p c d) (hf : Fw PJc QJc μ0 μ) (hg : Fm PJm ν0 ν) (hp : p0 ≤ p) : JO I μ0 ν0 p0 c d := by
  obtain ⟨v, μ1, ν1, e1, f1, e2, f2, h⟩ := h
  refine ⟨v, μ1, ν1, e1, hf.tr f1 (fun _ _ y => y) (fun _ y => y), e2, hg.tr f2 (fun _ _ y => y), h.elim Or.inl (fun q => Or.inr ⟨q.1, ?_⟩)⟩
  obtain ⟨p', a1, a2, a3, a4, a5, a6, a7, a8⟩ := q.2
  exact ⟨p', a1, a2, a3, a4, a5, a6, by omega, a8⟩
/-- the class's answer once more held as a truth value -/
theorem JO.isB {μ ν : Mm} {c : Option (Int32 × Mm)} {d : Option Mm} (h : JO I μ ν p c d) : JO I μ ν p (c.bind fun r => (isB r.1).bind fun v => some (v, r.2)) (d.bind fun r => some r) := by
  obtain ⟨v, μ1, ν1, e1, f1, e2, f2, h⟩ := h
  rw [e1, e2, Option.bind_some, Option.bind_some]
  refine ⟨v, μ1, ν1, ?_, f1, rfl, f2, h⟩
  rcases h with ⟨rfl, _⟩ | ⟨rfl, _⟩
  · rw [isB0]; rfl
  · rw [isB1]; rfl
theorem JF.kp {μ ν μ' ν' : Mm} {P P' : Nat → Nat → Prop} {Q : Nat → Prop} (h : JF μ ν sty rgt man) (hf : Fw P Q μ μ') (hg : Fm P' ν ν') (hp : ¬ P 5 9 ∧ ¬ P 5 10 ∧ ¬ P 5 11) (hq : ¬ P' 306 13 ∧ ¬ P' 306 14 ∧ ¬ P' 306 15) : JF μ' ν' sty rgt man := ⟨h.1, ⟨by rw [hf.1 _ _ hp.1]; exact h.2.1.1, by rw [hf.1 _ _ hp.2.1]; exact h.2.1.2.1, by rw [hf.1 _ _ hp.2.2]; exact h.2.1.2.2⟩, ⟨by rw [hg.at _ _ hq.2.1]; exact h.2.2.1, by rw [hg.at _ _ hq.2.2]; exact h.2.2.2.1, by rw [hg.at _ _ hq.1]; exact h.2.2.2.2⟩⟩
/-- both at the statement's end -/
theorem sm2 (hn : 1200 ≤ n) {μ ν : Mm} (h : J I μ ν p sty rgt man R N fr) : JO I μ ν p (sh_X4_semicolon n μ) (sh_X12_semicolon n ν) := by
  obtain ⟨hc, ⟨hg, hm⟩, hf, hw, hb, hmb, h1, h2, h3, h4, h5⟩ := h
  obtain ⟨v, μ1, e1, f1, a1, a2⟩ := seC hn hc
  obtain ⟨ν1, d1, g1, b1, b2⟩ := smM hn hg hm
  refine ⟨v, μ1, ν1, e1, Fw.of (f1.mono (fun k j y => by omega)), d1, g1.mono (fun k j y => by omega), ?_⟩
  cases hs : semS I p with
  | inl e => exact Or.inl ⟨(a1 e hs).1, e.1, e.2, (a1 e hs).2, b1 e hs⟩
  | inr q =>
    have hpq : p < q := by
      have hb := tb_b hc.1.2.2.2
      have ht := te_b hc.1.2.2.2
      unfold semS at hs
      by_cases z : tk I p = 3 ∧ gi I (tb I p) = 59
      · rw [if_pos z] at hs
        obtain rfl := Sum.inr.inj hs
        have := ht.2.2.2.1 (by omega)
        omega
      · rw [if_neg z] at hs
        exact nomatch hs
    refine Or.inr ⟨(a2 q hs).1, q, sty, rgt, man, R, N, fr, hpq, (a2 q hs).2.1, b2 q hs, hf.kp (Fw.of (Q := fun _ => False) f1) g1 ⟨by omega, by omega, by omega⟩ ⟨by omega, by omega, by omega⟩, hw, hb.fr f1 (fun q j a b y => by omega), hmb.fr g1 (fun i _ => by omega), h1, fun s hs => by rw [f1.at _ _ (by omega)]; exact h2 s hs, h3, h4, (a2 q hs).2.2.1.trans h5.1, (a2 q hs).2.2.2.trans h5.2⟩
/-! settings -/
theorem WB.hdg {K : Int} (hw : WB K R N fr) {i : Nat} {v : Int} (hi : 3 ≤ i ∧ i ≤ 6 ∧ 0 ≤ v ∧ v ≤ 9) : WB K (bup R i v) N fr := by
  obtain ⟨g1, g2, g3, g4, g5⟩ := hd_ne (R := R) (i := i) (by omega) v
  have e : ∀ j, j ≠ i → bup R i v j = R j := fun j hj => bup_ne hj
  have eo : bup R i v i = v := if_pos rfl
  obtain ⟨a0, a1, a2, a3, a4, a5, a6, a7, a8, a9, a10⟩ := hw
  refine ⟨by rw [e 9 (by omega)]; exact a0, by rw [e 0 (by omega)]; exact a1, by rw [e 1 (by omega)]; exact a2, by rw [e 2 (by omega)]; exact a3, ?_, ?_, ?_, ?_, by rw [e 7 (by omega)]; exact a8, by rw [e 8 (by omega)]; exact a9, fun j hj => ?_⟩
  · by_cases z : 3 = i
    · rw [← z] at eo ⊢; rw [eo]; omega
    · rw [e 3 z]; exact a4
  · by_cases z : 4 = i
    · rw [← z] at eo ⊢; rw [eo]; omega
    · rw [e 4 z]; exact a5
  · by_cases z : 5 = i
    · rw [← z] at eo ⊢; rw [eo]; omega
    · rw [e 5 z]; exact a6
  · by_cases z : 6 = i
    · rw [← z] at eo ⊢; rw [eo]; omega
    · rw [e 6 z]; exact a7
  · obtain ⟨b1, b2, b3, b4, b5, b6⟩ := a10 j hj
    refine ⟨by rw [g3]; exact b1, by rw [g1]; exact b2, by rw [g2]; exact b3, by rw [g4]; exact b4, fun w hww => ?_, by rw [g1, g1]; exact b6⟩
    rw [g4] at hww
    obtain ⟨c1, c2⟩ := b5 w hww
    exact ⟨okL_cg (fun p _ => g5 j w p) c1, by rw [g5]; exact c2⟩
theorem CB.hdf {k : Nat} {μ μ1 : Mm} (hb : CB k μ R N fr) {i : Nat} (hi : i < 8) {v : Int} {P : Nat → Nat → Prop} (hf : Fm P μ μ1) (hP : ∀ q j, k ≤ q → q ≤ k + 12 → P q j → q = k + 2 ∧ j = i) (hv : μ1.1 (k + 2) i = jv v) : CB k μ1 (bup R i v) N fr := by
  obtain ⟨_, c⟩ := hb.hd hi v
  refine c.fr (P := fun q j => ¬ (k ≤ q ∧ q ≤ k + 12)) ⟨by rw [hf.1]; rfl, fun q j hq => ?_⟩ (fun q j a b y => y ⟨a, b⟩)
  rw [sI_1]
  by_cases z : q = k + 2 ∧ j = i
  · rw [if_pos z, z.1, z.2, hv]
  · rw [if_neg z, hf.at _ _ (fun y => z (hP q j (by omega) (by omega) y))]
/-- a number of the style, read by both -/
theorem nb2 (hn : 1200 ≤ n) {μ ν : Mm} (h : J I μ ν p sty rgt man R N fr) {w i : Nat} {lo hi : Int} (hlo : 0 ≤ lo ∧ lo ≤ 99999) (hhi : 0 ≤ hi ∧ hi ≤ 99998) (hi8 : i < 8) (hW : ∀ v, lo ≤ v → v ≤ hi → WB 500 (bup R i v) N fr) : ∃ v μ1 ν1, sh_X4_number n w (jv lo) (jv hi) 86 (jv i) μ = some (v, μ1) ∧ Fw PJc QJc μ μ1 ∧ ((sh_X12_numberBehind n w (jv lo) (jv hi) ν).bind fun r => st r.2 308 (jv i) r.1) = some ν1 ∧ Fm PJm ν ν1 ∧ ν1.2.2 0 = 308 ∧ ((v = 0 ∧ JB μ1 ν1) ∨ (v = 1 ∧ ∃ q x, p < q ∧ J I μ1 ν1 q sty rgt man (bup R i x) N fr)) := by
  obtain ⟨hc, ⟨hg, hm⟩, hf, hw, hb, hmb, h1, h2, h3, h4, h5⟩ := h
  have l87 : ln (86 + 1) = 8 := rfl
  have l308 : ln 308 = 2460 := rfl
  obtain ⟨v, μ1, e1, f1, a1, a2⟩ := nuC hn hc (w := w) (a := 86) (i := i) hlo hhi (by omega) (by omega)
  obtain ⟨x, ν1, d1, g1, b1, b2⟩ := nbM hn hg hm (w := w) hlo hhi
  have g2 : Fm (fun k j => k = 308 ∧ j = i) ν1 (sI ν1 308 i (jv x)) := Fm.rf.sI ⟨rfl, rfl⟩
  have G : Fm PJm ν (sI ν1 308 i (jv x)) := (g1.mono (fun k j y => by omega)).tr g2 (fun k j y => by omega)
  refine ⟨v, μ1, sI ν1 308 i (jv x), e1, Fw.of (f1.mono (fun k j y => by omega)), ?_, G, by rw [G.1]; exact hmb.2.1, ?_⟩
  · rw [d1, Option.bind_some, st_jv (by omega) (by omega), Int.toNat_natCast]
  · cases hs : numS I p w lo hi with
    | inl e => exact Or.inl ⟨(a1 e hs).1, e.1, e.2, (a1 e hs).2, (b1 e hs).1.kp g2 ⟨by omega, by omega⟩⟩
    | inr q =>
      obtain ⟨c1, c2, c3⟩ := b2 q hs
      obtain ⟨k1, k2, k3, k4⟩ := a2 q hs
      have hq : p < q.2 ∧ lo ≤ q.1 ∧ q.1 ≤ hi := by
        have hb := tb_b hc.1.2.2.2
        have ht := te_b hc.1.2.2.2
        rw [numS_nu] at hs
        by_cases z : isW2 I p w
        · rw [if_pos z] at hs
          unfold nuS at hs
          have ht2 := te_b ht.2.1
          have hb2 := tb_b ht.2.1
          by_cases y : tk I (te I p) = 2
          · rw [if_pos y] at hs
            by_cases u : lo ≤ tvC I (te I p) ∧ tvC I (te I p) ≤ hi
            · rw [if_pos u] at hs
              obtain rfl := Sum.inr.inj hs
              have := ht2.2.2.2.1 (by omega)
              exact ⟨by show p < te I (te I p); omega, u⟩
            · rw [if_neg u] at hs
              exact nomatch hs
          · rw [if_neg y] at hs
            exact nomatch hs
        · rw [if_neg z] at hs
          exact nomatch hs
      subst c3
      refine Or.inr ⟨k1, q.2, q.1, hq.1, k2, ⟨c1.kp g2 ⟨by omega, by omega⟩, c2.kp g2 (fun k j y => by omega)⟩, hf.kp (Fw.of (Q := fun _ => False) f1) ((g1.mono (fun k j y => by omega) : Fm (fun k j => PTk k j ∨ k = 308 ∧ j = i) ν ν1).tr g2 (fun k j y => by omega)) ⟨by omega, by omega, by omega⟩ ⟨by omega, by omega, by omega⟩, hW _ hq.2.1 hq.2.2, hb.hdf hi8 f1 (fun q j a b y => by omega) k3, (hmb.fr g1 (fun i _ => by omega)).up (by omega), h1, fun s hs => by rw [f1.at _ _ (by omega)]; exact h2 s hs, fun s hs => by rw [bup_ne (by show 12 + 102 * s + 4 ≠ i; omega)]; exact h3 s hs, by rw [bup_ne (by omega)]; exact h4, k4.1.trans h5.1, k4.2.trans h5.2⟩
/-- the model goes on after a failure -/
theorem BD.ns {ν : Mm} {c z : Int} (hb : BD ν c z) (hn : 1 ≤ n) {w i : Nat} (hi : i < 2460) (lo hi2 : Int32) : ((sh_X12_numberBehind n w lo hi2 ν).bind fun r => st r.2 308 (jv i) r.1) = some (sI ν 308 i lo) ∧ BD (sI ν 308 i lo) c z ∧ Fm PJm ν (sI ν 308 i lo) ∧ (sI ν 308 i lo).2.2 0 = ν.2.2 0 := by
  have l308 : ln 308 = 2460 := rfl
  have g2 : Fm (fun k j => k = 308 ∧ j = i) ν (sI ν 308 i lo) := Fm.rf.sI ⟨rfl, rfl⟩
  refine ⟨?_, hb.kp g2 ⟨by omega, by omega⟩, g2.mono (fun k j y => by omega), by rw [g2.1]⟩
  rw [hb.nb hn, Option.bind_some, st_jv (by omega) (by omega), Int.toNat_natCast]
theorem bnd2 {α β : Type} (o : Option α) (f : α → Option β) (g : β → Option Mm) : (o.bind fun r => (f r).bind g) = (o.bind f).bind g := by
  cases o <;> rfl
/-- the model's style behind a statement that failed, from each of its numbers -/
theorem sty_b (hn : 1 ≤ n) {ν : Mm} {c z : Int} (hb : BD ν c z) (h22 : ν.2.2 0 = 308) : (∃ ν1, ((sh_X12_numberBehind n 9 (1 : Int32) (9 : Int32) ν).bind fun r16 => (st r16.2 (ν.2.2 0) (7 : Int32) r16.1).bind fun μ17 => some μ17) = some ν1 ∧ BD ν1 c z ∧ Fm PJm ν ν1) := by
  obtain ⟨e1, b1, f1, _⟩ := hb.ns (n := n) hn (w := 9) (i := 7) (by omega) (1 : Int32) (9 : Int32)
  rw [h22, bnd2]
  have e1' : ((sh_X12_numberBehind n 9 (1 : Int32) (9 : Int32) ν).bind fun r => st r.2 308 (7 : Int32) r.1) = _ := e1
  rw [e1']
  exact ⟨_, rfl, b1, f1⟩
theorem sty_b6 (hn : 1 ≤ n) {ν : Mm} {c z : Int} (hb : BD ν c z) (h22 : ν.2.2 0 = 308) : (∃ ν1, ((sh_X12_numberBehind n 8 (0 : Int32) (9 : Int32) ν).bind fun r13 => (st r13.2 (ν.2.2 0) (6 : Int32) r13.1).bind fun μ14 => (sh_X12_numberBehind n 9 (1 : Int32) (9 : Int32) μ14).bind fun r16 => (st r16.2 (μ14.2.2 0) (7 : Int32) r16.1).bind fun μ17 => some μ17) = some ν1 ∧ BD ν1 c z ∧ Fm PJm ν ν1) := by
  obtain ⟨e1, b1, f1, h1⟩ := hb.ns (n := n) hn (w := 8) (i := 6) (by omega) (0 : Int32) (9 : Int32)
  obtain ⟨ν2, e2, b2, f2⟩ := sty_b hn b1 (h1.trans h22)
  rw [h22, bnd2]
  have e1' : ((sh_X12_numberBehind n 8 (0 : Int32) (9 : Int32) ν).bind fun r => st r.2 308 (6 : Int32) r.1) = _ := e1
  rw [e1']
  exact ⟨ν2, e2, b2, f1.tr f2 (fun _ _ y => y)⟩
theorem sty_b5 (hn : 1 ≤ n) {ν : Mm} {c z : Int} (hb : BD ν c z) (h22 : ν.2.2 0 = 308) : (∃ ν1, ((sh_X12_numberBehind n 7 (0 : Int32) (9 : Int32) ν).bind fun r10 => (st r10.2 (ν.2.2 0) (5 : Int32) r10.1).bind fun μ11 => (sh_X12_numberBehind n 8 (0 : Int32) (9 : Int32) μ11).bind fun r13 => (st r13.2 (μ11.2.2 0) (6 : Int32) r13.1).bind fun μ14 => (sh_X12_numberBehind n 9 (1 : Int32) (9 : Int32) μ14).bind fun r16 => (st r16.2 (μ14.2.2 0) (7 : Int32) r16.1).bind fun μ17 => some μ17) = some ν1 ∧ BD ν1 c z ∧ Fm PJm ν ν1) := by
  obtain ⟨e1, b1, f1, h1⟩ := hb.ns (n := n) hn (w := 7) (i := 5) (by omega) (0 : Int32) (9 : Int32)
  obtain ⟨ν2, e2, b2, f2⟩ := sty_b6 hn b1 (h1.trans h22)
  rw [h22, bnd2]
  have e1' : ((sh_X12_numberBehind n 7 (0 : Int32) (9 : Int32) ν).bind fun r => st r.2 308 (5 : Int32) r.1) = _ := e1
  rw [e1']
  exact ⟨ν2, e2, b2, f1.tr f2 (fun _ _ y => y)⟩
theorem sty_b4 (hn : 1 ≤ n) {ν : Mm} {c z : Int} (hb : BD ν c z) (h22 : ν.2.2 0 = 308) : (∃ ν1, ((sh_X12_numberBehind n 6 (0 : Int32) (9 : Int32) ν).bind fun r7 => (st r7.2 (ν.2.2 0) (4 : Int32) r7.1).bind fun μ8 => (sh_X12_numberBehind n 7 (0 : Int32) (9 : Int32) μ8).bind fun r10 => (st r10.2 (μ8.2.2 0) (5 : Int32) r10.1).bind fun μ11 => (sh_X12_numberBehind n 8 (0 : Int32) (9 : Int32) μ11).bind fun r13 => (st r13.2 (μ11.2.2 0) (6 : Int32) r13.1).bind fun μ14 => (sh_X12_numberBehind n 9 (1 : Int32) (9 : Int32) μ14).bind fun r16 => (st r16.2 (μ14.2.2 0) (7 : Int32) r16.1).bind fun μ17 => some μ17) = some ν1 ∧ BD ν1 c z ∧ Fm PJm ν ν1) := by
  obtain ⟨e1, b1, f1, h1⟩ := hb.ns (n := n) hn (w := 6) (i := 4) (by omega) (0 : Int32) (9 : Int32)
  obtain ⟨ν2, e2, b2, f2⟩ := sty_b5 hn b1 (h1.trans h22)
  rw [h22, bnd2]
  have e1' : ((sh_X12_numberBehind n 6 (0 : Int32) (9 : Int32) ν).bind fun r => st r.2 308 (4 : Int32) r.1) = _ := e1
  rw [e1']
  exact ⟨ν2, e2, b2, f1.tr f2 (fun _ _ y => y)⟩
theorem sty_b3 (hn : 1 ≤ n) {ν : Mm} {c z : Int} (hb : BD ν c z) (h22 : ν.2.2 0 = 308) : (∃ ν1, ((sh_X12_numberBehind n 5 (0 : Int32) (9 : Int32) ν).bind fun r4 => (st r4.2 (ν.2.2 0) (3 : Int32) r4.1).bind fun μ5 => (sh_X12_numberBehind n 6 (0 : Int32) (9 : Int32) μ5).bind fun r7 => (st r7.2 (μ5.2.2 0) (4 : Int32) r7.1).bind fun μ8 => (sh_X12_numberBehind n 7 (0 : Int32) (9 : Int32) μ8).bind fun r10 => (st r10.2 (μ8.2.2 0) (5 : Int32) r10.1).bind fun μ11 => (sh_X12_numberBehind n 8 (0 : Int32) (9 : Int32) μ11).bind fun r13 => (st r13.2 (μ11.2.2 0) (6 : Int32) r13.1).bind fun μ14 => (sh_X12_numberBehind n 9 (1 : Int32) (9 : Int32) μ14).bind fun r16 => (st r16.2 (μ14.2.2 0) (7 : Int32) r16.1).bind fun μ17 => some μ17) = some ν1 ∧ BD ν1 c z ∧ Fm PJm ν ν1) := by
  obtain ⟨e1, b1, f1, h1⟩ := hb.ns (n := n) hn (w := 5) (i := 3) (by omega) (0 : Int32) (9 : Int32)
  obtain ⟨ν2, e2, b2, f2⟩ := sty_b4 hn b1 (h1.trans h22)
  rw [h22, bnd2]
  have e1' : ((sh_X12_numberBehind n 5 (0 : Int32) (9 : Int32) ν).bind fun r => st r.2 308 (3 : Int32) r.1) = _ := e1
  rw [e1']
  exact ⟨ν2, e2, b2, f1.tr f2 (fun _ _ y => y)⟩
/-- both failed: what the class answers and the model's end -/
theorem JO.bad {μ ν μ1 ν1 : Mm} {c : Option (Int32 × Mm)} {d : Option Mm} (hc : c = some (0, μ1)) (hf : Fw PJc QJc μ μ1) (hd : d = some ν1) (hg : Fm PJm ν ν1) (h : JB μ1 ν1) : JO I μ ν p c d := ⟨0, μ1, ν1, hc, hf, hd, hg, Or.inl ⟨rfl, h⟩⟩
theorem bok {α β : Type} {o : Option α} {a : α} {f : α → Option β} (h : o = some a) : o.bind f = f a := by rw [h]; rfl
theorem sty2 (hn : 1200 ≤ n) {μ ν : Mm} (h : J I μ ν p sty rgt man R N fr) : JO I μ ν p (sh_X4_styleStatement n 85 μ) ((sh_X12_parseStyle n ν).bind fun r13 => (sh_X12_semicolon n r13).bind fun r14 => some r14) := by
  obtain ⟨hc, ⟨hg, hm⟩, hf, hw, hb, hmb, h1, h2, h3, h4, h5⟩ := id h
  unfold sh_X4_styleStatement sh_X12_parseStyle
  rw [hf.2.1.1, hf.2.2.1]
  by_cases z : sty = 0
  · rw [z, if_pos zro, if_pos zro]
    unfold sh_X12_parseStyle_12
    have p1 : pz μ 5 9 (1 : Int32) = some (sI μ 5 9 (jv 1)) := pz_jv (Or.inr rfl)
    have p2 : pz ν 306 14 (1 : Int32) = some (sI ν 306 14 (jv 1)) := pz_jv (Or.inr rfl)
    have f0 : Fm (fun k j => k = 5 ∧ j = 9) μ (sI μ 5 9 (jv 1)) := Fm.rf.sI ⟨rfl, rfl⟩
    have g0 : Fm (fun k j => k = 306 ∧ j = 14) ν (sI ν 306 14 (jv 1)) := Fm.rf.sI ⟨rfl, rfl⟩
    obtain ⟨μ2, e2, c2, f2⟩ := (hc.kp f0 (fun k j y => by omega)).nx hn
    obtain ⟨ν2, d2, k2, m2, g2⟩ := (hg.kp g0 ⟨by omega, by omega⟩).go hn (hm.kp g0 (fun k j y => by omega))
    rw [p1, Option.bind_some, e2, Option.bind_some, p2, Option.bind_some, d2, Option.bind_some]
    have F2 : Fm (fun k j => k = 5 ∧ (j = 9 ∨ 5 ≤ j ∧ j ≤ 8)) μ μ2 := (f0.mono (fun k j y => by omega)).tr f2 (fun k j y => by omega)
    have G2 : Fm (fun k j => k = 306 ∧ (j = 14 ∨ 7 ≤ j ∧ j ≤ 10)) ν ν2 := (g0.mono (fun k j y => by omega)).tr g2 (fun k j y => by omega)
    have j2 : J I μ2 ν2 (te I p) 1 rgt man R N fr := by
      refine ⟨c2, ⟨k2, m2⟩, ⟨⟨Or.inr rfl, hf.1.2⟩, ⟨?_, ?_, ?_⟩, ?_, ?_, ?_⟩, hw, hb.fr F2 (fun q j a b y => by omega), hmb.fr G2 (fun i _ => by omega), h1, fun s hs => by rw [F2.at _ _ (by omega)]; exact h2 s hs, h3, h4, by rw [F2.at _ _ (by omega)]; exact h5.1, by rw [F2.at _ _ (by omega)]; exact h5.2⟩
      · rw [f2.at _ _ (by omega), sI_1, if_pos ⟨rfl, rfl⟩]
      · rw [F2.at _ _ (by omega)]; exact hf.2.1.2.1
      · rw [F2.at _ _ (by omega)]; exact hf.2.1.2.2
      · rw [g2.at _ _ (by omega), sI_1, if_pos ⟨rfl, rfl⟩]
      · rw [G2.at _ _ (by omega)]; exact hf.2.2.2.1
      · rw [G2.at _ _ (by omega)]; exact hf.2.2.2.2
    have hpe : p ≤ te I p := by
      have := tb_b hc.1.2.2.2
      have := te_b hc.1.2.2.2
      omega
    refine JO.pre (p := te I p) (μ := μ2) (ν := ν2) ?_ (Fw.of (F2.mono (fun k j y => by omega))) (G2.mono (fun k j y => by omega)) hpe
    clear f0 g0 p1 p2 e2 d2 f2 g2 F2 G2 c2 k2 m2 h hc hg hm hf hb hmb h2 h3 h4 h5
    rw [j2.2.2.2.2.2.1.2.1]
    -- the five numbers
    obtain ⟨v3, μ3, ν3, e3, f3, d3, g3, r3, o3⟩ := nb2 hn j2 (w := 5) (i := 3) (lo := 0) (hi := 9) (by omega) (by omega) (by omega) (fun v a b => hw.hdg (by omega))
    have e3' : sh_X4_number n 5 (0 : Int32) (9 : Int32) (85 + 1) (3 : Int32) μ2 = some (v3, μ3) := e3
    have d3' : ((sh_X12_numberBehind n 5 (0 : Int32) (9 : Int32) ν2).bind fun r => st r.2 308 (3 : Int32) r.1) = some ν3 := d3
    rw [e3', Option.bind_some, bnd2 (sh_X12_numberBehind n 5 (0 : Int32) (9 : Int32) ν2) (fun r => st r.2 308 (3 : Int32) r.1), d3', Option.bind_some]
    rcases o3 with ⟨w3, b3⟩ | ⟨w3, q3, x3, hp3, j3⟩
    · rw [w3, if_pos rfl]
      obtain ⟨c, y, hF, hB⟩ := b3
      obtain ⟨ν9, d9, b9, g9⟩ := sty_b4 (n := n) (by omega) hB r3
      rw [d9, Option.bind_some, b9.se]
      exact JO.bad rfl f3 rfl (g3.tr g9 (fun _ _ y => y)) ⟨c, y, hF, b9⟩
    rw [w3, if_neg (show ¬ (1 : Int32) = 0 by decide)]
    refine JO.pre (p := q3) (μ := μ3) (ν := ν3) ?_ f3 g3 (by omega)
    have hw3 := j3.2.2.2.1
    clear e3 d3 e3' d3' f3 g3 j2 hp3
    rw [r3]
    obtain ⟨v4, μ4, ν4, e4, f4, d4, g4, r4, o4⟩ := nb2 hn j3 (w := 6) (i := 4) (lo := 0) (hi := 9) (by omega) (by omega) (by omega) (fun v a b => hw3.hdg (by omega))
    have e4' : sh_X4_number n 6 (0 : Int32) (9 : Int32) (85 + 1) (4 : Int32) μ3 = some (v4, μ4) := e4
    have d4' : ((sh_X12_numberBehind n 6 (0 : Int32) (9 : Int32) ν3).bind fun r => st r.2 308 (4 : Int32) r.1) = some ν4 := d4
    rw [e4', Option.bind_some, bnd2 (sh_X12_numberBehind n 6 (0 : Int32) (9 : Int32) ν3) (fun r => st r.2 308 (4 : Int32) r.1), d4', Option.bind_some]
    rcases o4 with ⟨w4, b4⟩ | ⟨w4, q4, x4, hp4, j4⟩
    · rw [w4, if_pos rfl]
      obtain ⟨c, y, hF, hB⟩ := b4
      obtain ⟨ν9, d9, b9, g9⟩ := sty_b5 (n := n) (by omega) hB r4
      rw [d9, Option.bind_some, b9.se]
      exact JO.bad rfl f4 rfl (g4.tr g9 (fun _ _ y => y)) ⟨c, y, hF, b9⟩
    rw [w4, if_neg (show ¬ (1 : Int32) = 0 by decide)]
    refine JO.pre (p := q4) (μ := μ4) (ν := ν4) ?_ f4 g4 (by omega)
    have hw4 := j4.2.2.2.1
    clear e4 d4 e4' d4' f4 g4 j3 hp4
    rw [r4]
    obtain ⟨v5, μ5, ν5, e5, f5, d5, g5, r5, o5⟩ := nb2 hn j4 (w := 7) (i := 5) (lo := 0) (hi := 9) (by omega) (by omega) (by omega) (fun v a b => hw4.hdg (by omega))
    have e5' : sh_X4_number n 7 (0 : Int32) (9 : Int32) (85 + 1) (5 : Int32) μ4 = some (v5, μ5) := e5
    have d5' : ((sh_X12_numberBehind n 7 (0 : Int32) (9 : Int32) ν4).bind fun r => st r.2 308 (5 : Int32) r.1) = some ν5 := d5
    rw [e5', Option.bind_some, bnd2 (sh_X12_numberBehind n 7 (0 : Int32) (9 : Int32) ν4) (fun r => st r.2 308 (5 : Int32) r.1), d5', Option.bind_some]
    rcases o5 with ⟨w5, b5⟩ | ⟨w5, q5, x5, hp5, j5⟩
    · rw [w5, if_pos rfl]
      obtain ⟨c, y, hF, hB⟩ := b5
      obtain ⟨ν9, d9, b9, g9⟩ := sty_b6 (n := n) (by omega) hB r5
      rw [d9, Option.bind_some, b9.se]
      exact JO.bad rfl f5 rfl (g5.tr g9 (fun _ _ y => y)) ⟨c, y, hF, b9⟩
    rw [w5, if_neg (show ¬ (1 : Int32) = 0 by decide)]
    refine JO.pre (p := q5) (μ := μ5) (ν := ν5) ?_ f5 g5 (by omega)
    have hw5 := j5.2.2.2.1
    clear e5 d5 e5' d5' f5 g5 j4 hp5
    rw [r5]
    obtain ⟨v6, μ6, ν6, e6, f6, d6, g6, r6, o6⟩ := nb2 hn j5 (w := 8) (i := 6) (lo := 0) (hi := 9) (by omega) (by omega) (by omega) (fun v a b => hw5.hdg (by omega))
    have e6' : sh_X4_number n 8 (0 : Int32) (9 : Int32) (85 + 1) (6 : Int32) μ5 = some (v6, μ6) := e6
    have d6' : ((sh_X12_numberBehind n 8 (0 : Int32) (9 : Int32) ν5).bind fun r => st r.2 308 (6 : Int32) r.1) = some ν6 := d6
    rw [e6', Option.bind_some, bnd2 (sh_X12_numberBehind n 8 (0 : Int32) (9 : Int32) ν5) (fun r => st r.2 308 (6 : Int32) r.1), d6', Option.bind_some]
    rcases o6 with ⟨w6, b6⟩ | ⟨w6, q6, x6, hp6, j6⟩
    · rw [w6, if_pos rfl]
      obtain ⟨c, y, hF, hB⟩ := b6
      obtain ⟨ν9, d9, b9, g9⟩ := sty_b (n := n) (by omega) hB r6
      rw [d9, Option.bind_some, b9.se]
      exact JO.bad rfl f6 rfl (g6.tr g9 (fun _ _ y => y)) ⟨c, y, hF, b9⟩
    rw [w6, if_neg (show ¬ (1 : Int32) = 0 by decide)]
    refine JO.pre (p := q6) (μ := μ6) (ν := ν6) ?_ f6 g6 (by omega)
    have hw6 := j6.2.2.2.1
    clear e6 d6 e6' d6' f6 g6 j5 hp6
    rw [r6]
    obtain ⟨v7, μ7, ν7, e7, f7, d7, g7, r7, o7⟩ := nb2 hn j6 (w := 9) (i := 7) (lo := 1) (hi := 9) (by omega) (by omega) (by omega) (fun v a b => hw6.hd (by omega))
    have e7' : sh_X4_number n 9 (1 : Int32) (9 : Int32) (85 + 1) (7 : Int32) μ6 = some (v7, μ7) := e7
    have d7' : ((sh_X12_numberBehind n 9 (1 : Int32) (9 : Int32) ν6).bind fun r => st r.2 308 (7 : Int32) r.1) = some ν7 := d7
    rw [e7', Option.bind_some, bnd2 (sh_X12_numberBehind n 9 (1 : Int32) (9 : Int32) ν6) (fun r => st r.2 308 (7 : Int32) r.1), d7', Option.bind_some, Option.bind_some]
    rcases o7 with ⟨w7, b7⟩ | ⟨w7, q7, x7, hp7, j7⟩
    · rw [w7, if_pos rfl]
      obtain ⟨c, y, hF, hB⟩ := b7
      rw [hB.se]
      exact JO.bad rfl f7 rfl g7 ⟨c, y, hF, hB⟩
    rw [w7, if_neg (show ¬ (1 : Int32) = 0 by decide)]
    refine JO.pre (p := q7) (μ := μ7) (ν := ν7) ?_ f7 g7 (by omega)
    obtain ⟨v8, μ8, ν8, e8, f8, d8, g8, o8⟩ := sm2 hn j7
    rw [e8, d8, Option.bind_some, Option.bind_some]
    refine ⟨v8, μ8, ν8, ?_, f8, rfl, g8, o8⟩
    rcases o8 with ⟨w8, _⟩ | ⟨w8, _⟩
    · rw [w8, if_pos rfl]
    · rw [w8, if_neg (show ¬ (1 : Int32) = 0 by decide)]
  · have z1 : sty = 1 := hf.1.1.resolve_left z
    rw [z1, if_neg one_ne, if_neg one_ne]
    obtain ⟨μ1, e1, a1, f1⟩ := faC hc.2.2.1 3
    obtain ⟨ν1, d1, b1, g1⟩ := hg.er hm.2.2.1 (c := 3) (by omega)
    have e1' : sh_X4_fail (3 : Int32) μ = _ := e1
    have d1' : sh_X12_errs (3 : Int32) ν = _ := d1
    have g2 : Fm (fun k j => k = 306 ∧ j = 14) ν1 (sI ν1 306 14 (jv 1)) := Fm.rf.sI ⟨rfl, rfl⟩
    have p2 : pz ν1 306 14 (1 : Int32) = some (sI ν1 306 14 (jv 1)) := pz_jv (Or.inr rfl)
    have b2 := b1.kp g2 ⟨by omega, by omega⟩
    have r2 : (sI ν1 306 14 (jv 1)).2.2 0 = 308 := by rw [g2.1, g1.1]; exact hmb.2.1
    obtain ⟨ν9, d9, b9, g9⟩ := sty_b3 (n := n) (by omega) b2 r2
    rw [e1', Option.bind_some, isB0, Option.bind_some, d1', Option.bind_some]
    unfold sh_X12_parseStyle_12
    rw [p2, Option.bind_some, b2.go, Option.bind_some, d9, Option.bind_some, b9.se]
    exact JO.bad rfl (Fw.of (f1.mono (fun k j y => by omega))) rfl (((g1.mono (fun k j y => by omega)).tr g2 (fun k j y => by omega)).tr g9 (fun _ _ y => y)) ⟨3, _, a1, b9⟩
/-! right and main -/
theorem rgt2 (hn : 1200 ≤ n) {μ ν : Mm} (h : J I μ ν p sty rgt man R N fr) (hk : tk I p ≠ 0) : JO I μ ν p (sh_X4_rightStatement n 85 μ) ((sh_X12_parseOnce n (1 : Int32) ν).bind fun r11 => (sh_X12_semicolon n r11).bind fun r12 => some r12) := by
  obtain ⟨hc, ⟨hg, hm⟩, hf, hw, hb, hmb, h1, h2, h3, h4, h5⟩ := id h
  have l308 : ln 308 = 2460 := rfl
  have hman := hf.1.2.2
  -- what the model does once it has told
  have e26 : ∀ ν1 : Mm, ν1.1 306 13 = jv man → ν1.2.2 0 = 308 → ∃ ν2, sh_X12_parseOnce_26 n (1 : Int32) ν1 = (sh_X12_goOn n ν2).bind (fun r6 => some r6) ∧ ν2.1 306 13 = jv man ∧ ν2.1 306 15 = jv 1 ∧ ν2.1 308 8 = jv 1 ∧ Fm (fun k j => k = 306 ∧ (j = 13 ∨ j = 15) ∨ k = 308 ∧ j = 8) ν1 ν2 := by
    intro ν1 h13 h22
    have f0 : Fm (fun k j => k = 306 ∧ (j = 13 ∨ j = 15) ∨ k = 308 ∧ j = 8) ν1 (sI (sI (sI ν1 306 15 (jv 1)) 306 13 (jv man)) 308 8 (jv 1)) := ((Fm.rf.sI (by omega)).sI (by omega)).sI (by omega)
    have hp : pz ν1 306 15 (1 : Int32) = some (sI ν1 306 15 (jv 1)) := pz_jv (Or.inr rfl)
    have h13' : (sI ν1 306 15 (jv 1)).1 306 13 = jv man := by rw [sI_1, if_neg (by omega), h13]
    have e63 : sh_X12_parseOnce_63 n (1 : Int32) (jv man) (sI ν1 306 15 (jv 1)) = (sh_X12_goOn n (sI (sI (sI ν1 306 15 (jv 1)) 306 13 (jv man)) 308 8 (jv 1))).bind (fun r6 => some r6) := by
      unfold sh_X12_parseOnce_63
      have h22' : (sI (sI ν1 306 15 (jv 1)) 306 13 (jv man)).2.2 0 = 308 := h22
      rw [pz_jv hman, Option.bind_some, if_neg (show ¬ (1 : Int32) = 0 by decide), h22', jv_lit (nat_lit 8), st_jv (by omega) (by omega), Option.bind_some]
      rfl
    have e43 : sh_X12_parseOnce_43 n (1 : Int32) (1 : Int32) ν1 = sh_X12_parseOnce_63 n (1 : Int32) (jv man) (sI ν1 306 15 (jv 1)) := by
      unfold sh_X12_parseOnce_43 sh_X12_parseOnce_58
      rw [hp, Option.bind_some, h13']
      rcases hman with rfl | rfl
      · rw [if_pos zro, if_neg (show ¬ (1 : Int32) = 0 by decide)]; rfl
      · rw [if_neg one_ne]; rfl
    refine ⟨_, ?_, by rw [sI_1, if_neg (by omega), sI_1, if_pos ⟨rfl, rfl⟩], by rw [sI_1, if_neg (by omega), sI_1, if_neg (by omega), sI_1, if_pos ⟨rfl, rfl⟩], by rw [sI_1, if_pos ⟨rfl, rfl⟩], f0⟩
    unfold sh_X12_parseOnce_26 sh_X12_parseOnce_38
    rw [if_neg (show ¬ (1 : Int32) = 0 by decide), ite_self, e43, e63]
  unfold sh_X4_rightStatement sh_X12_parseOnce
  rw [hf.2.1.2.1, if_neg (show ¬ (1 : Int32) = 0 by decide), hf.2.2.2.1]
  by_cases z : rgt = 0
  · rw [z, if_pos zro, if_pos zro]
    obtain ⟨ν2, d2, k1, k2, k3, g2⟩ := e26 ν hf.2.2.2.2 hmb.2.1
    have p1 : pz μ 5 10 (1 : Int32) = some (sI μ 5 10 (jv 1)) := pz_jv (Or.inr rfl)
    have p2 : pz (sI μ 5 10 (jv 1)) 85 1 (1 : Int32) = some (sI (sI μ 5 10 (jv 1)) 85 1 (jv 1)) := pz_jv (Or.inr rfl)
    have f0 : Fm (fun k j => k = 5 ∧ j = 10) μ (sI μ 5 10 (jv 1)) := Fm.rf.sI ⟨rfl, rfl⟩
    have f1 : Fm (fun k j => k = 85 ∧ j = 1) (sI μ 5 10 (jv 1)) (sI (sI μ 5 10 (jv 1)) 85 1 (jv 1)) := Fm.rf.sI ⟨rfl, rfl⟩
    obtain ⟨μ3, e3, c3, f3⟩ := ((hc.kp f0 (fun k j y => by omega)).kp f1 (fun k j y => by omega)).nx hn
    obtain ⟨ν3, d3, k4, m3, g3⟩ := (hg.kp g2 ⟨by omega, by omega⟩).go hn (hm.kp g2 (fun k j y => by omega))
    have F3 : Fm (fun k j => k = 5 ∧ (j = 10 ∨ 5 ≤ j ∧ j ≤ 8) ∨ k = 85 ∧ j = 1) μ μ3 := ((f0.mono (fun k j y => by omega)).tr f1 (fun k j y => by omega)).tr f3 (fun k j y => by omega)
    have G3 : Fm (fun k j => k = 306 ∧ (j = 13 ∨ j = 15 ∨ 7 ≤ j ∧ j ≤ 10) ∨ k = 308 ∧ j = 8) ν ν3 := (g2.mono (fun k j y => by omega)).tr g3 (fun k j y => by omega)
    have v851 : μ3.1 85 1 = jv 1 := by rw [f3.at _ _ (by omega), sI_1, if_pos ⟨rfl, rfl⟩]
    have c85 : CB 85 μ3 (bup R 8 1) N fr := by
      obtain ⟨y1, y2, y3, y4, y5⟩ := hd_ne (R := R) (i := 8) (by omega) 1
      refine ⟨hb.1, fun j hj => ?_, ⟨v851, ?_, ?_⟩, fun j hj => ?_⟩
      · rw [F3.at _ _ (by omega), hb.2.1 j hj, bup_ne (by omega)]
      · rw [F3.at _ _ (by omega), hb.2.2.1.2.1]
      · rw [F3.at _ _ (by omega), hb.2.2.1.2.2]
      · obtain ⟨q1, q2, q3, q4⟩ := hb.2.2.2 j hj
        refine ⟨by rw [F3.at _ _ (by omega), q1, y1], by rw [F3.at _ _ (by omega), q2, y2], by rw [F3.at _ _ (by omega), q3, y4], fun w hww => ?_⟩
        rw [y4] at hww
        rw [F3.1, q4 w hww]
        exact (pk_cg (fun p _ => y5 j w p)).symm
    have m8 : MB 308 ν3 (bup R 8 1) := ⟨Or.inr rfl, by rw [G3.1]; exact hmb.2.1, fun i hi => by
      by_cases y : i = 8
      · rw [y, g3.at _ _ (by omega), k3]
        rfl
      · rw [G3.at _ _ (by omega), hmb.2.2 i hi, bup_ne y]⟩
    have j3 : J I μ3 ν3 (te I p) sty 1 man (bup R 8 1) N fr := by
      refine ⟨c3, ⟨k4, m3⟩, ⟨⟨hf.1.1, Or.inr rfl, hf.1.2.2⟩, ⟨?_, ?_, ?_⟩, ?_, ?_, ?_⟩, hw.hd (Or.inr (Or.inr ⟨rfl, Or.inr rfl⟩)), c85, m8, h1, fun s hs => by rw [F3.at _ _ (by omega)]; exact h2 s hs, fun s hs => by rw [bup_ne (by show 12 + 102 * s + 4 ≠ 8; omega)]; exact h3 s hs, by rw [bup_ne (by omega)]; exact h4, by rw [F3.at _ _ (by omega)]; exact h5.1, by rw [F3.at _ _ (by omega)]; exact h5.2⟩
      · rw [F3.at _ _ (by omega)]; exact hf.2.1.1
      · rw [f3.at _ _ (by omega), f1.at _ _ (by omega), sI_1, if_pos ⟨rfl, rfl⟩]
      · rw [F3.at _ _ (by omega)]; exact hf.2.1.2.2
      · rw [G3.at _ _ (by omega)]; exact hf.2.2.1
      · rw [g3.at _ _ (by omega)]; exact k2
      · rw [g3.at _ _ (by omega)]; exact k1
    have hpe : p ≤ te I p := by
      have := tb_b hc.1.2.2.2
      have := te_b hc.1.2.2.2
      omega
    have key := (sm2 hn j3).isB.pre (μ0 := μ) (ν0 := ν) (Fw.of (F3.mono (fun k j y => by omega))) (G3.mono (fun k j y => by omega)) hpe
    rw [p1, Option.bind_some, p2, Option.bind_some, e3, Option.bind_some, d2, d3, Option.bind_some, Option.bind_some]
    exact key
  · have z1 : rgt = 1 := hf.1.2.1.resolve_left z
    rw [z1, if_neg one_ne, if_neg one_ne]
    obtain ⟨μ1, e1, a1, f1⟩ := faC hc.2.2.1 3
    obtain ⟨ν1, d1, b1, g1⟩ := hg.er hm.2.2.1 (c := 3) (by omega)
    have e1' : sh_X4_fail (3 : Int32) μ = _ := e1
    have d1' : sh_X12_errs (3 : Int32) ν = _ := d1
    obtain ⟨ν2, d2, k1, k2, k3, g2⟩ := e26 ν1 (by rw [g1.at _ _ (by omega)]; exact hf.2.2.2.2) (by rw [g1.1]; exact hmb.2.1)
    have b2 := b1.kp g2 ⟨by omega, by omega⟩
    rw [e1', Option.bind_some, isB0, Option.bind_some]
    unfold sh_X12_parseOnce_21
    rw [d1', Option.bind_some, d2, b2.go, Option.bind_some, Option.bind_some, b2.se]
    exact JO.bad rfl (Fw.of (f1.mono (fun k j y => by omega))) rfl ((g1.mono (fun k j y => by omega)).tr g2 (fun k j y => by omega)) ⟨3, _, a1, b2⟩
theorem man2 (hn : 1200 ≤ n) {μ ν : Mm} (h : J I μ ν p sty rgt man R N fr) : JO I μ ν p (sh_X4_mainStatement n μ) ((sh_X12_parseOnce n (0 : Int32) ν).bind fun r9 => (sh_X12_semicolon n r9).bind fun r10 => some r10) := by
  obtain ⟨hc, ⟨hg, hm⟩, hf, hw, hb, hmb, h1, h2, h3, h4, h5⟩ := id h
  have hrgt := hf.1.2.1
  have e26 : ∀ ν1 : Mm, ν1.1 306 15 = jv rgt → ∃ ν2, sh_X12_parseOnce_26 n (0 : Int32) ν1 = (sh_X12_goOn n ν2).bind (fun r6 => some r6) ∧ ν2.1 306 13 = jv 1 ∧ ν2.1 306 15 = jv rgt ∧ Fm (fun k j => k = 306 ∧ (j = 13 ∨ j = 15)) ν1 ν2 := by
    intro ν1 h15
    have f0 : Fm (fun k j => k = 306 ∧ (j = 13 ∨ j = 15)) ν1 (sI (sI ν1 306 15 (jv rgt)) 306 13 (jv 1)) := (Fm.rf.sI (by omega)).sI (by omega)
    have hp : pz (sI ν1 306 15 (jv rgt)) 306 13 (1 : Int32) = some (sI (sI ν1 306 15 (jv rgt)) 306 13 (jv 1)) := pz_jv (Or.inr rfl)
    have e63 : sh_X12_parseOnce_58 n (0 : Int32) (sI ν1 306 15 (jv rgt)) = (sh_X12_goOn n (sI (sI ν1 306 15 (jv rgt)) 306 13 (jv 1))).bind (fun r6 => some r6) := by
      unfold sh_X12_parseOnce_58 sh_X12_parseOnce_63
      rw [hp, Option.bind_some, if_pos rfl]
    have e43 : sh_X12_parseOnce_43 n (0 : Int32) (jv rgt) ν1 = sh_X12_parseOnce_58 n (0 : Int32) (sI ν1 306 15 (jv rgt)) := by
      unfold sh_X12_parseOnce_43
      rw [pz_jv hrgt, Option.bind_some, if_pos (show (0 : Int32) = 0 from rfl), ite_self]
    refine ⟨_, ?_, by rw [sI_1, if_pos ⟨rfl, rfl⟩], by rw [sI_1, if_neg (by omega), sI_1, if_pos ⟨rfl, rfl⟩], f0⟩
    unfold sh_X12_parseOnce_26 sh_X12_parseOnce_38
    rw [h15]
    rcases hrgt with rfl | rfl
    · rw [if_pos zro, if_pos rfl, ← e63, ← e43]; rfl
    · rw [if_neg one_ne, ← e63, ← e43]; rfl
  unfold sh_X4_mainStatement sh_X12_parseOnce
  rw [hf.2.1.2.2, if_pos rfl, hf.2.2.2.2]
  by_cases z : man = 0
  · rw [z, if_pos zro, if_pos zro]
    obtain ⟨ν2, d2, k1, k2, g2⟩ := e26 ν hf.2.2.2.1
    have p1 : pz μ 5 11 (1 : Int32) = some (sI μ 5 11 (jv 1)) := pz_jv (Or.inr rfl)
    have f0 : Fm (fun k j => k = 5 ∧ j = 11) μ (sI μ 5 11 (jv 1)) := Fm.rf.sI ⟨rfl, rfl⟩
    obtain ⟨μ3, e3, c3, f3⟩ := (hc.kp f0 (fun k j y => by omega)).nx hn
    obtain ⟨ν3, d3, k4, m3, g3⟩ := (hg.kp g2 ⟨by omega, by omega⟩).go hn (hm.kp g2 (fun k j y => by omega))
    have F3 : Fm (fun k j => k = 5 ∧ (j = 11 ∨ 5 ≤ j ∧ j ≤ 8)) μ μ3 := (f0.mono (fun k j y => by omega)).tr f3 (fun k j y => by omega)
    have G3 : Fm (fun k j => k = 306 ∧ (j = 13 ∨ j = 15 ∨ 7 ≤ j ∧ j ≤ 10)) ν ν3 := (g2.mono (fun k j y => by omega)).tr g3 (fun k j y => by omega)
    have j3 : J I μ3 ν3 (te I p) sty rgt 1 R N fr := by
      refine ⟨c3, ⟨k4, m3⟩, ⟨⟨hf.1.1, hf.1.2.1, Or.inr rfl⟩, ⟨?_, ?_, ?_⟩, ?_, ?_, ?_⟩, hw, hb.fr F3 (fun q j a b y => by omega), hmb.fr G3 (fun i _ => by omega), fun q => by omega, fun s hs => by rw [F3.at _ _ (by omega)]; exact h2 s hs, h3, h4, by rw [F3.at _ _ (by omega)]; exact h5.1, by rw [F3.at _ _ (by omega)]; exact h5.2⟩
      · rw [F3.at _ _ (by omega)]; exact hf.2.1.1
      · rw [F3.at _ _ (by omega)]; exact hf.2.1.2.1
      · rw [f3.at _ _ (by omega), sI_1, if_pos ⟨rfl, rfl⟩]
      · rw [G3.at _ _ (by omega)]; exact hf.2.2.1
      · rw [g3.at _ _ (by omega)]; exact k2
      · rw [g3.at _ _ (by omega)]; exact k1
    have hpe : p ≤ te I p := by
      have := tb_b hc.1.2.2.2
      have := te_b hc.1.2.2.2
      omega
    have key := (sm2 hn j3).isB.pre (μ0 := μ) (ν0 := ν) (Fw.of (F3.mono (fun k j y => by omega))) (G3.mono (fun k j y => by omega)) hpe
    rw [p1, Option.bind_some, e3, Option.bind_some, d2, d3, Option.bind_some, Option.bind_some]
    exact key
  · have z1 : man = 1 := hf.1.2.2.resolve_left z
    rw [z1, if_neg one_ne, if_neg one_ne]
    obtain ⟨μ1, e1, a1, f1⟩ := faC hc.2.2.1 3
    obtain ⟨ν1, d1, b1, g1⟩ := hg.er hm.2.2.1 (c := 3) (by omega)
    have e1' : sh_X4_fail (3 : Int32) μ = _ := e1
    have d1' : sh_X12_errs (3 : Int32) ν = _ := d1
    obtain ⟨ν2, d2, k1, k2, g2⟩ := e26 ν1 (by rw [g1.at _ _ (by omega)]; exact hf.2.2.2.1)
    have b2 := b1.kp g2 ⟨by omega, by omega⟩
    rw [e1', Option.bind_some, isB0, Option.bind_some]
    unfold sh_X12_parseOnce_21
    rw [d1', Option.bind_some, d2, b2.go, Option.bind_some, Option.bind_some, b2.se]
    exact JO.bad rfl (Fw.of (f1.mono (fun k j y => by omega))) rfl ((g1.mono (fun k j y => by omega)).tr g2 (fun k j y => by omega)) ⟨3, _, a1, b2⟩
end STM
