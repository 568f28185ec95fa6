/-! A TEXT read whole, by both -/
theorem isBz {μ1 : Mm} : ((isB (0, μ1).1).bind fun v => some (v, (0, μ1).2)) = (some (0, μ1) : Option (Int32 × Mm)) := by rw [show (0, μ1).1 = (0 : Int32) from rfl, isB0]; rfl
theorem isBo {μ1 : Mm} : ((isB (1, μ1).1).bind fun v => some (v, (1, μ1).2)) = (some (1, μ1) : Option (Int32 × Mm)) := by rw [show (1, μ1).1 = (1 : Int32) from rfl, isB1]; rfl
section LOD
variable {n : Nat} {I O : List Int} {p : Nat} {sty rgt man : Int} {R : Nat → Int} {N fr : Nat}
theorem jo_cB {μ ν : Mm} {c : Option (Int32 × Mm)} {d : Option Mm} (h : JO I μ ν p c d) : JO I μ ν p (c.bind fun r => (isB r.1).bind fun v => some (v, r.2)) d := by
  obtain ⟨v, μ1, ν1, e1, f1, e2, f2, h⟩ := h
  rw [e1, Option.bind_some]
  refine ⟨v, μ1, ν1, ?_, f1, e2, f2, h⟩
  rcases h with ⟨rfl, _⟩ | ⟨rfl, _⟩
  · exact isBz
  · exact isBo
theorem stmt2 (hn : 1200 ≤ n) {μ ν : Mm} (h : J I μ ν p sty rgt man R N fr) (hk : tk I p ≠ 0) : JO I μ ν p (sh_X4_statement n 85 μ) (sh_X12_parseStatement n ν) := by
  obtain ⟨hc, ⟨hg, hm⟩, _⟩ := id h
  unfold sh_X4_statement sh_X12_parseStatement
  rw [iaC hn hc 4, Option.bind_some, itM hn hg hm 4, Option.bind_some]
  by_cases z4 : isW2 I p 4
  · rw [if_pos z4, if_neg one_ne, if_neg one_ne]
    exact jo_cB (sty2 hn h)
  rw [if_neg z4, if_pos zro, if_pos zro, iaC hn hc 10, Option.bind_some, itM hn hg hm 10, Option.bind_some]
  by_cases z10 : isW2 I p 10
  · rw [if_pos z10, if_neg one_ne, if_neg one_ne]
    exact jo_cB (rgt2 hn h hk)
  rw [if_neg z10, if_pos zro, if_pos zro, iaC hn hc 11, Option.bind_some, itM hn hg hm 11, Option.bind_some]
  by_cases z11 : isW2 I p 11
  · rw [if_pos z11, if_neg one_ne, if_neg one_ne]
    exact jo_cB (man2 hn h)
  rw [if_neg z11, if_pos zro, if_pos zro, iaC hn hc 12, Option.bind_some, itM hn hg hm 12, Option.bind_some]
  by_cases z12 : isW2 I p 12
  · rw [if_pos z12, if_neg one_ne, if_neg one_ne]
    exact jo_cB (sec2 hn h z12)
  obtain ⟨μ1, e1, a1, f1⟩ := faC hc.2.2.1 1
  obtain ⟨ν1, d1, b1, g1⟩ := hg.er hm.2.2.1 (c := 1) (by omega)
  have e1' : sh_X4_fail (1 : Int32) μ = _ := e1
  have d1' : sh_X12_errs (1 : Int32) ν = _ := d1
  rw [if_neg z12, if_pos zro, if_pos zro, e1', Option.bind_some, isB0, Option.bind_some, d1', Option.bind_some, b1.se]
  exact JO.bad rfl (Fw.of (f1.mono (fun k j y => by omega))) rfl (g1.mono (fun k j y => by omega)) ⟨1, _, a1, b1⟩
theorem lpJ (hn : 1200 ≤ n) : ∀ (m f g x3 p : Nat) (sty rgt man : Int) (R : Nat → Int) (N fr : Nat) (μ ν : Mm), I.length - p ≤ m → x3 ≤ p → m + 1 < f → m + 1 < g → J I μ ν p sty rgt man R N fr → ∃ v μ1 ν1, sh_X4_readBook_36 n 1 85 f (jv x3) μ = some (v, μ1) ∧ Fw PJc QJc μ μ1 ∧ sh_X12_load_146 n g ν = sh_X12_load_167 n ν1 ∧ Fm PJm ν ν1 ∧ ((v = 0 ∧ JB μ1 ν1) ∨ (v = 1 ∧ ∃ p' sty rgt man R N fr, J I μ1 ν1 p' sty rgt man R N fr)) := by
  intro m
  induction m with
  | zero =>
    intro f g x3 p sty rgt man R N fr μ ν hm hx hf hg h
    obtain ⟨f, rfl⟩ : ∃ r, f = r + 1 := ⟨f - 1, by omega⟩
    obtain ⟨g, rfl⟩ : ∃ r, g = r + 1 := ⟨g - 1, by omega⟩
    obtain ⟨hc, ⟨hgd, hmm⟩, _⟩ := id h
    have hl := hc.len
    have hk0 : tk I p = 0 := by
      have := tb_b hc.1.2.2.2
      have := tk_b hc.1.2.2.2
      omega
    refine ⟨1, μ, ν, ?_, Fw.rf, ?_, Fm.rf, Or.inr ⟨rfl, p, sty, rgt, man, R, N, fr, h⟩⟩
    · rw [sh_X4_readBook_36]
      unfold sh_X8_length
      rw [Option.bind_some, hc.1.1.2.1, hc.2.1, hk0, if_pos zro]
      exact ite_self _
    · rw [sh_X12_load_146, hgd.g, Option.bind_some, if_neg (show ¬ (1 : Int32) = 0 by decide), hmm.2.1, hk0, if_pos zro]
  | succ m ih =>
    intro f g x3 p sty rgt man R N fr μ ν hm hx hf hg h
    obtain ⟨f, rfl⟩ : ∃ r, f = r + 1 := ⟨f - 1, by omega⟩
    obtain ⟨g, rfl⟩ : ∃ r, g = r + 1 := ⟨g - 1, by omega⟩
    obtain ⟨hc, ⟨hgd, hmm⟩, _⟩ := id h
    have hl := hc.len
    have hkb := tk_b hc.1.2.2.2
    have htb := tb_b hc.1.2.2.2
    by_cases hk0 : tk I p = 0
    · refine ⟨1, μ, ν, ?_, Fw.rf, ?_, Fm.rf, Or.inr ⟨rfl, p, sty, rgt, man, R, N, fr, h⟩⟩
      · rw [sh_X4_readBook_36]
        unfold sh_X8_length
        rw [Option.bind_some, hc.1.1.2.1, hc.2.1, hk0, if_pos zro]
        exact ite_self _
      · rw [sh_X12_load_146, hgd.g, Option.bind_some, if_neg (show ¬ (1 : Int32) = 0 by decide), hmm.2.1, hk0, if_pos zro]
    · obtain ⟨v, μ1, ν1, e1, f1, d1, g1, o1⟩ := stmt2 hn h hk0
      rw [sh_X4_readBook_36]
      unfold sh_X8_length
      rw [Option.bind_some, hc.1.1.2.1, if_neg (show ¬ jv (I.length : Int) ≤ jv (x3 : Int) by rw [jv_le] <;> omega), hc.2.1, if_neg (show ¬ jv (tk I p) = (0 : Int32) by rw [jv_lit (nat_lit 0), jv_eq] <;> omega), e1, Option.bind_some, sh_X12_load_146, hgd.g, Option.bind_some, if_neg (show ¬ (1 : Int32) = 0 by decide), hmm.2.1, if_neg (show ¬ jv (tk I p) = (0 : Int32) by rw [jv_lit (nat_lit 0), jv_eq] <;> omega), d1, Option.bind_some]
      rcases o1 with ⟨w, c, z, hF, hB⟩ | ⟨w, p', s', r', m', R', N', fr', hpp, j1⟩
      · obtain ⟨g, rfl⟩ : ∃ r, g = r + 1 := ⟨g - 1, by omega⟩
        rw [w, if_pos rfl]
        refine ⟨0, μ1, ν1, rfl, f1, ?_, g1, Or.inl ⟨rfl, c, z, hF, hB⟩⟩
        rw [sh_X12_load_146, hB.g, Option.bind_some, if_pos rfl]
      · obtain ⟨v2, μ2, ν2, e2, f2, d2, g2, o2⟩ := ih f g (x3 + 1) p' s' r' m' R' N' fr' μ1 ν1 (by omega) (by omega) (by omega) (by omega) j1
        rw [w, if_neg (show ¬ (1 : Int32) = 0 by decide), jv_lit (nat_lit 1), jv_add, show (x3 : Int) + 1 = ((x3 + 1 : Nat) : Int) by omega]
        exact ⟨v2, μ2, ν2, e2, f1.tr f2 (fun _ _ y => y) (fun _ y => y), d2, g1.tr g2 (fun _ _ y => y), o2⟩
/-- a number of the first statement, read by both -/
theorem nb0 (hn : 1200 ≤ n) {μ ν : Mm} {Q : Nat → Int} (hc : TC μ I p) (hg : GD ν) (hm : TM ν I p) (hmb : MB 308 ν Q) {w i : Nat} {lo hi : Int} (hlo : 0 ≤ lo ∧ lo ≤ 99999) (hhi : 0 ≤ hi ∧ hi ≤ 99998) (hi8 : i < 8) : ∃ v μ1 ν1, sh_X4_number n w (jv lo) (jv hi) 86 (jv i) μ = some (v, μ1) ∧ Fm (fun k j => PF5 k j ∨ k = 87 ∧ j = i) μ μ1 ∧ ((sh_X12_numberBehind n w (jv lo) (jv hi) ν).bind fun r => st r.2 308 (jv i) r.1) = some ν1 ∧ Fm (fun k j => PTk k j ∨ k = 308 ∧ j = i) ν ν1 ∧ ((v = 0 ∧ JB μ1 ν1) ∨ (v = 1 ∧ ∃ q x, (lo ≤ x ∧ x ≤ hi) ∧ TC μ1 I q ∧ μ1.1 87 i = jv x ∧ NF μ μ1 ∧ GD ν1 ∧ TM ν1 I q ∧ MB 308 ν1 (bup Q i x))) := by
  have l87 : ln (86 + 1) = 8 := rfl
  have l308 : ln 308 = 2460 := rfl
  obtain ⟨v, μ1, e1, f1, a1, a2⟩ := nuC hn hc (w := w) (a := 86) (i := i) hlo hhi (by omega) (by omega)
  obtain ⟨x, ν1, d1, g1, b1, b2⟩ := nbM hn hg hm (w := w) hlo hhi
  have g2 : Fm (fun k j => k = 308 ∧ j = i) ν1 (sI ν1 308 i (jv x)) := Fm.rf.sI ⟨rfl, rfl⟩
  refine ⟨v, μ1, sI ν1 308 i (jv x), e1, f1, ?_, (g1.mono (fun k j y => Or.inl y)).tr g2 (fun k j y => Or.inr y), ?_⟩
  · rw [d1, Option.bind_some, st_jv (by omega) (by omega), Int.toNat_natCast]
  · cases hs : numS I p w lo hi with
    | inl e => exact Or.inl ⟨(a1 e hs).1, e.1, e.2, (a1 e hs).2, (b1 e hs).1.kp g2 ⟨by omega, by omega⟩⟩
    | inr q =>
      obtain ⟨c1, c2, c3⟩ := b2 q hs
      obtain ⟨k1, k2, k3, k4⟩ := a2 q hs
      have hq : lo ≤ q.1 ∧ q.1 ≤ hi := by
        rw [numS_nu] at hs
        by_cases z : isW2 I p w
        · rw [if_pos z] at hs
          unfold nuS at hs
          by_cases y : tk I (te I p) = 2
          · rw [if_pos y] at hs
            by_cases u : lo ≤ tvC I (te I p) ∧ tvC I (te I p) ≤ hi
            · rw [if_pos u] at hs
              obtain rfl := Sum.inr.inj hs
              exact u
            · rw [if_neg u] at hs
              exact nomatch hs
          · rw [if_neg y] at hs
            exact nomatch hs
        · rw [if_neg z] at hs
          exact nomatch hs
      subst c3
      exact Or.inr ⟨k1, q.2, q.1, hq, k2, k3, k4, c1.kp g2 ⟨by omega, by omega⟩, c2.kp g2 (fun k j y => by omega), (hmb.fr g1 (fun i _ => by omega)).up (by omega)⟩
theorem bnd3 {α β : Type} (o : Option α) (f : α → Option β) (g : β → Option (Int32 × Mm)) : (o.bind fun r => (f r).bind g) = (o.bind f).bind g := by
  cases o <;> rfl
/-- the model's draft as it begins -/
def Z0 : Nat → Int := fun i => if i = 3 then 2 else if i = 4 then 3 else if i = 5 then 1 else if i = 6 then 2 else if i = 7 then 3 else 0
theorem Z0_WB {a b c : Int} (ha : 20 ≤ a ∧ a ≤ 120) (hb : 2 ≤ b ∧ b ≤ 60) (hc : 5 ≤ c ∧ c ≤ 99) : WB 500 (bup (bup (bup Z0 0 a) 1 b) 2 c) 0 0 := by
  refine ⟨⟨rfl, by omega, by omega⟩, ha, hb, hc, (show (0 : Int) ≤ 2 ∧ (2 : Int) ≤ 9 by decide), (show (0 : Int) ≤ 3 ∧ (3 : Int) ≤ 9 by decide), (show (0 : Int) ≤ 1 ∧ (1 : Int) ≤ 9 by decide), (show (0 : Int) ≤ 2 ∧ (2 : Int) ≤ 9 by decide), (show (1 : Int) ≤ 3 ∧ (3 : Int) ≤ 9 by decide), Or.inl rfl, fun s hs => absurd hs (by omega)⟩
theorem bk2 (hn : 1200 ≤ n) {μ ν : Mm} (hc : TC μ I 0) (hg : GD ν) (hm : TM ν I 0) (hmb : MB 308 ν Z0) (hf : JF μ ν 0 0 0) (ok : okB 85) (h87 : ∀ i, 3 ≤ i → i < 8 → μ.1 87 i = jv (Z0 i)) (h85 : μ.1 85 1 = jv 0 ∧ μ.1 85 2 = jv 0 ∧ μ.1 85 3 = jv 0) (h5 : FC μ 0 (-1)) : ∃ v μ1 ν1, sh_X4_bookStatement n 85 μ = some (v, μ1) ∧ Fw PJc QJc μ μ1 ∧ (∀ K : Mm → Option (Int32 × Mm), ((sh_X12_word n 0 ν).bind fun r13 => (sh_X12_numberBehind n 1 (20 : Int32) (120 : Int32) r13).bind fun r15 => (st r15.2 (r13.2.2 0) (0 : Int32) r15.1).bind fun μ16 => (sh_X12_numberBehind n 2 (2 : Int32) (60 : Int32) μ16).bind fun r18 => (st r18.2 (μ16.2.2 0) (1 : Int32) r18.1).bind fun μ19 => (sh_X12_numberBehind n 3 (5 : Int32) (99 : Int32) μ19).bind fun r21 => (st r21.2 (μ19.2.2 0) (2 : Int32) r21.1).bind fun μ22 => (sh_X12_semicolon n μ22).bind fun r23 => K r23) = K ν1) ∧ Fm PJm ν ν1 ∧ ((v = 0 ∧ JB μ1 ν1) ∨ (v = 1 ∧ ∃ p' sty rgt man R N fr, J I μ1 ν1 p' sty rgt man R N fr)) := by
  -- the model behind a failure
  have bad2 : ∀ (ν1 : Mm) (c z : Int) (K : Mm → Option (Int32 × Mm)), BD ν1 c z → ν1.2.2 0 = 308 → ∃ ν2, ((sh_X12_numberBehind n 3 (5 : Int32) (99 : Int32) ν1).bind fun r21 => (st r21.2 (ν1.2.2 0) (2 : Int32) r21.1).bind fun μ22 => (sh_X12_semicolon n μ22).bind fun r23 => K r23) = K ν2 ∧ BD ν2 c z ∧ Fm PJm ν1 ν2 ∧ ν2 = sI ν1 308 2 (5 : Int32) := by
    intro ν1 c z K hb h22
    obtain ⟨e1, b1, f1, h1⟩ := hb.ns (n := n) (by omega) (w := 3) (i := 2) (by omega) (5 : Int32) (99 : Int32)
    have e1' : ((sh_X12_numberBehind n 3 (5 : Int32) (99 : Int32) ν1).bind fun r => st r.2 308 (2 : Int32) r.1) = _ := e1
    rw [h22, bnd3 (sh_X12_numberBehind n 3 (5 : Int32) (99 : Int32) ν1) (fun r => st r.2 308 (2 : Int32) r.1), e1', Option.bind_some, b1.se]
    exact ⟨_, rfl, b1, f1, rfl⟩
  have bad1 : ∀ (ν1 : Mm) (c z : Int) (K : Mm → Option (Int32 × Mm)), BD ν1 c z → ν1.2.2 0 = 308 → ∃ ν2, ((sh_X12_numberBehind n 2 (2 : Int32) (60 : Int32) ν1).bind fun r18 => (st r18.2 (ν1.2.2 0) (1 : Int32) r18.1).bind fun μ19 => (sh_X12_numberBehind n 3 (5 : Int32) (99 : Int32) μ19).bind fun r21 => (st r21.2 (μ19.2.2 0) (2 : Int32) r21.1).bind fun μ22 => (sh_X12_semicolon n μ22).bind fun r23 => K r23) = K ν2 ∧ BD ν2 c z ∧ Fm PJm ν1 ν2 ∧ ν2 = sI (sI ν1 308 1 (2 : Int32)) 308 2 (5 : Int32) := by
    intro ν1 c z K hb h22
    obtain ⟨e1, b1, f1, h1⟩ := hb.ns (n := n) (by omega) (w := 2) (i := 1) (by omega) (2 : Int32) (60 : Int32)
    have e1' : ((sh_X12_numberBehind n 2 (2 : Int32) (60 : Int32) ν1).bind fun r => st r.2 308 (1 : Int32) r.1) = _ := e1
    obtain ⟨ν2, e2, b2, f2, r2⟩ := bad2 _ c z K b1 (h1.trans h22)
    rw [h22, bnd3 (sh_X12_numberBehind n 2 (2 : Int32) (60 : Int32) ν1) (fun r => st r.2 308 (1 : Int32) r.1), e1', Option.bind_some]
    exact ⟨ν2, e2, b2, f1.tr f2 (fun _ _ y => y), r2⟩
  have bad0 : ∀ (ν1 : Mm) (c z : Int) (K : Mm → Option (Int32 × Mm)), BD ν1 c z → ν1.2.2 0 = 308 → ∃ ν2, ((sh_X12_numberBehind n 1 (20 : Int32) (120 : Int32) ν1).bind fun r15 => (st r15.2 (ν1.2.2 0) (0 : Int32) r15.1).bind fun μ16 => (sh_X12_numberBehind n 2 (2 : Int32) (60 : Int32) μ16).bind fun r18 => (st r18.2 (μ16.2.2 0) (1 : Int32) r18.1).bind fun μ19 => (sh_X12_numberBehind n 3 (5 : Int32) (99 : Int32) μ19).bind fun r21 => (st r21.2 (μ19.2.2 0) (2 : Int32) r21.1).bind fun μ22 => (sh_X12_semicolon n μ22).bind fun r23 => K r23) = K ν2 ∧ BD ν2 c z ∧ Fm PJm ν1 ν2 ∧ ν2 = sI (sI (sI ν1 308 0 (20 : Int32)) 308 1 (2 : Int32)) 308 2 (5 : Int32) := by
    intro ν1 c z K hb h22
    obtain ⟨e1, b1, f1, h1⟩ := hb.ns (n := n) (by omega) (w := 1) (i := 0) (by omega) (20 : Int32) (120 : Int32)
    have e1' : ((sh_X12_numberBehind n 1 (20 : Int32) (120 : Int32) ν1).bind fun r => st r.2 308 (0 : Int32) r.1) = _ := e1
    obtain ⟨ν2, e2, b2, f2, r2⟩ := bad1 _ c z K b1 (h1.trans h22)
    rw [h22, bnd3 (sh_X12_numberBehind n 1 (20 : Int32) (120 : Int32) ν1) (fun r => st r.2 308 (0 : Int32) r.1), e1', Option.bind_some]
    exact ⟨ν2, e2, b2, f1.tr f2 (fun _ _ y => y), r2⟩
  have h22 : ν.2.2 0 = 308 := hmb.2.1
  obtain ⟨ν1, d1, g1, y1, n1⟩ := woM hn hg hm 0
  have r1 : ν1.2.2 0 = 308 := by rw [g1.1]; exact h22
  unfold sh_X4_bookStatement
  rw [iaC hn hc 0, Option.bind_some]
  by_cases z0 : isW2 I 0 0
  · obtain ⟨k1, m1⟩ := y1 z0
    obtain ⟨μ2, e2, c2, f2⟩ := hc.nx hn
    have mb1 : MB 308 ν1 Z0 := hmb.fr g1 (fun i _ => by omega)
    rw [if_pos z0, if_neg one_ne, e2, Option.bind_some]
    obtain ⟨v3, μ3, ν3, e3, f3, d3, g3, o3⟩ := nb0 hn c2 k1 m1 mb1 (w := 1) (i := 0) (lo := 20) (hi := 120) (by omega) (by omega) (by omega)
    have e3' : sh_X4_number n 1 (20 : Int32) (120 : Int32) (85 + 1) (0 : Int32) μ2 = some (v3, μ3) := e3
    have d3' : ((sh_X12_numberBehind n 1 (20 : Int32) (120 : Int32) ν1).bind fun r => st r.2 308 (0 : Int32) r.1) = some ν3 := d3
    have r3 : ν3.2.2 0 = 308 := by rw [g3.1]; exact r1
    have G3 : Fm PJm ν ν3 := (g1.mono (fun k j y => by omega)).tr g3 (fun k j y => by omega)
    have F3 : Fm (fun k j => PF5 k j ∨ k = 87) μ μ3 := (f2.mono (fun k j y => by omega)).tr f3 (fun k j y => by omega)
    have K1 : ∀ K : Mm → Option (Int32 × Mm), ((sh_X12_word n 0 ν).bind fun r13 => (sh_X12_numberBehind n 1 (20 : Int32) (120 : Int32) r13).bind fun r15 => (st r15.2 (r13.2.2 0) (0 : Int32) r15.1).bind fun μ16 => (sh_X12_numberBehind n 2 (2 : Int32) (60 : Int32) μ16).bind fun r18 => (st r18.2 (μ16.2.2 0) (1 : Int32) r18.1).bind fun μ19 => (sh_X12_numberBehind n 3 (5 : Int32) (99 : Int32) μ19).bind fun r21 => (st r21.2 (μ19.2.2 0) (2 : Int32) r21.1).bind fun μ22 => (sh_X12_semicolon n μ22).bind fun r23 => K r23) = ((sh_X12_numberBehind n 2 (2 : Int32) (60 : Int32) ν3).bind fun r18 => (st r18.2 (ν3.2.2 0) (1 : Int32) r18.1).bind fun μ19 => (sh_X12_numberBehind n 3 (5 : Int32) (99 : Int32) μ19).bind fun r21 => (st r21.2 (μ19.2.2 0) (2 : Int32) r21.1).bind fun μ22 => (sh_X12_semicolon n μ22).bind fun r23 => K r23) := by
      intro K
      rw [d1, Option.bind_some, r1, bnd3 (sh_X12_numberBehind n 1 (20 : Int32) (120 : Int32) ν1) (fun r => st r.2 308 (0 : Int32) r.1), d3', Option.bind_some]
    rw [e3', Option.bind_some]
    rcases o3 with ⟨w3, c, z, hF, hB⟩ | ⟨w3, q3, x3, hx3, c3, v873, nf3, k3, m3, mb3⟩
    · obtain ⟨ν9, _, b9, g9, rr9⟩ := bad1 ν3 c z (fun _ => none) hB r3
      refine ⟨0, μ3, ν9, ?_, Fw.of (F3.mono (fun k j y => by omega)), fun K => ?_, G3.tr g9 (fun _ _ y => y), Or.inl ⟨rfl, c, z, hF, b9⟩⟩
      · rw [w3, if_pos rfl]
      · rw [K1]
        obtain ⟨ν8, e8, _, _, rr8⟩ := bad1 ν3 c z K hB r3
        rw [e8, rr8, rr9]
    · rw [w3, if_neg (show ¬ (1 : Int32) = 0 by decide)]
      obtain ⟨v4, μ4, ν4, e4, f4, d4, g4, o4⟩ := nb0 hn c3 k3 m3 mb3 (w := 2) (i := 1) (lo := 2) (hi := 60) (by omega) (by omega) (by omega)
      have e4' : sh_X4_number n 2 (2 : Int32) (60 : Int32) (85 + 1) (1 : Int32) μ3 = some (v4, μ4) := e4
      have d4' : ((sh_X12_numberBehind n 2 (2 : Int32) (60 : Int32) ν3).bind fun r => st r.2 308 (1 : Int32) r.1) = some ν4 := d4
      have r4 : ν4.2.2 0 = 308 := by rw [g4.1]; exact r3
      have G4 : Fm PJm ν ν4 := G3.tr g4 (fun k j y => by omega)
      have F4 : Fm (fun k j => PF5 k j ∨ k = 87) μ μ4 := F3.tr f4 (fun k j y => by omega)
      have K2 : ∀ K : Mm → Option (Int32 × Mm), ((sh_X12_numberBehind n 2 (2 : Int32) (60 : Int32) ν3).bind fun r18 => (st r18.2 (ν3.2.2 0) (1 : Int32) r18.1).bind fun μ19 => (sh_X12_numberBehind n 3 (5 : Int32) (99 : Int32) μ19).bind fun r21 => (st r21.2 (μ19.2.2 0) (2 : Int32) r21.1).bind fun μ22 => (sh_X12_semicolon n μ22).bind fun r23 => K r23) = ((sh_X12_numberBehind n 3 (5 : Int32) (99 : Int32) ν4).bind fun r21 => (st r21.2 (ν4.2.2 0) (2 : Int32) r21.1).bind fun μ22 => (sh_X12_semicolon n μ22).bind fun r23 => K r23) := by
        intro K
        rw [r3, bnd3 (sh_X12_numberBehind n 2 (2 : Int32) (60 : Int32) ν3) (fun r => st r.2 308 (1 : Int32) r.1), d4', Option.bind_some]
      rw [e4', Option.bind_some]
      rcases o4 with ⟨w4, c, z, hF, hB⟩ | ⟨w4, q4, x4, hx4, c4, v874, nf4, k4, m4, mb4⟩
      · obtain ⟨ν9, _, b9, g9, rr9⟩ := bad2 ν4 c z (fun _ => none) hB r4
        refine ⟨0, μ4, ν9, ?_, Fw.of (F4.mono (fun k j y => by omega)), fun K => ?_, G4.tr g9 (fun _ _ y => y), Or.inl ⟨rfl, c, z, hF, b9⟩⟩
        · rw [w4, if_pos rfl]
        · rw [K1, K2]
          obtain ⟨ν8, e8, _, _, rr8⟩ := bad2 ν4 c z K hB r4
          rw [e8, rr8, rr9]
      · rw [w4, if_neg (show ¬ (1 : Int32) = 0 by decide)]
        obtain ⟨v5, μ5, ν5, e5, f5, d5, g5, o5⟩ := nb0 hn c4 k4 m4 mb4 (w := 3) (i := 2) (lo := 5) (hi := 99) (by omega) (by omega) (by omega)
        have e5' : sh_X4_number n 3 (5 : Int32) (99 : Int32) (85 + 1) (2 : Int32) μ4 = some (v5, μ5) := e5
        have d5' : ((sh_X12_numberBehind n 3 (5 : Int32) (99 : Int32) ν4).bind fun r => st r.2 308 (2 : Int32) r.1) = some ν5 := d5
        have G5 : Fm PJm ν ν5 := G4.tr g5 (fun k j y => by omega)
        have F5 : Fm (fun k j => PF5 k j ∨ k = 87) μ μ5 := F4.tr f5 (fun k j y => by omega)
        have K3 : ∀ K : Mm → Option (Int32 × Mm), ((sh_X12_numberBehind n 3 (5 : Int32) (99 : Int32) ν4).bind fun r21 => (st r21.2 (ν4.2.2 0) (2 : Int32) r21.1).bind fun μ22 => (sh_X12_semicolon n μ22).bind fun r23 => K r23) = (sh_X12_semicolon n ν5).bind fun r23 => K r23 := by
          intro K
          rw [r4, bnd3 (sh_X12_numberBehind n 3 (5 : Int32) (99 : Int32) ν4) (fun r => st r.2 308 (2 : Int32) r.1), d5', Option.bind_some]
        rw [e5', Option.bind_some]
        rcases o5 with ⟨w5, c, z, hF, hB⟩ | ⟨w5, q5, x5, hx5, c5, v875, nf5, k5, m5, mb5⟩
        · refine ⟨0, μ5, ν5, ?_, Fw.of (F5.mono (fun k j y => by omega)), fun K => ?_, G5, Or.inl ⟨rfl, c, z, hF, hB⟩⟩
          · rw [w5, if_pos rfl]
          · rw [K1, K2, K3, hB.se, Option.bind_some]
        · rw [w5, if_neg (show ¬ (1 : Int32) = 0 by decide)]
          have jf : JF μ5 ν5 0 0 0 := by
            refine ⟨hf.1, ⟨?_, ?_, ?_⟩, ?_, ?_, ?_⟩
            · rw [F5.at _ _ (by omega)]; exact hf.2.1.1
            · rw [F5.at _ _ (by omega)]; exact hf.2.1.2.1
            · rw [F5.at _ _ (by omega)]; exact hf.2.1.2.2
            · rw [g5.at _ _ (by omega), g4.at _ _ (by omega), g3.at _ _ (by omega), g1.at _ _ (by omega)]; exact hf.2.2.1
            · rw [g5.at _ _ (by omega), g4.at _ _ (by omega), g3.at _ _ (by omega), g1.at _ _ (by omega)]; exact hf.2.2.2.1
            · rw [g5.at _ _ (by omega), g4.at _ _ (by omega), g3.at _ _ (by omega), g1.at _ _ (by omega)]; exact hf.2.2.2.2
          have j5 : J I μ5 ν5 q5 0 0 0 (bup (bup (bup Z0 0 x3) 1 x4) 2 x5) 0 0 := by
            refine ⟨c5, ⟨k5, m5⟩, jf, Z0_WB hx3 hx4 hx5, ⟨ok, fun i hi => ?_, ⟨?_, ?_, ?_⟩, fun s hs => absurd hs (by omega)⟩, mb5, fun _ => rfl, fun s hs => absurd hs (by omega), fun s hs => absurd hs (by omega), rfl, ?_, ?_⟩
            · rcases (by omega : i = 0 ∨ i = 1 ∨ i = 2 ∨ 3 ≤ i) with rfl | rfl | rfl | h3
              · rw [f5.at _ _ (by omega), f4.at _ _ (by omega)]; exact v873
              · rw [f5.at _ _ (by omega)]; exact v874
              · exact v875
              · rw [f5.at _ _ (by omega), f4.at _ _ (by omega), f3.at _ _ (by omega), f2.at _ _ (by omega), bup_ne (by omega), bup_ne (by omega), bup_ne (by omega)]
                exact h87 i h3 hi
            · rw [F5.at _ _ (by omega)]; exact h85.1
            · rw [F5.at _ _ (by omega)]; exact h85.2.1
            · rw [F5.at _ _ (by omega)]; exact h85.2.2
            · exact nf5.1.trans (nf4.1.trans (nf3.1.trans ((f2.at _ _ (by omega)).trans h5.1)))
            · exact nf5.2.trans (nf4.2.trans (nf3.2.trans ((f2.at _ _ (by omega)).trans h5.2)))
          obtain ⟨v6, μ6, ν6, e6, f6, d6, g6, o6⟩ := sm2 hn j5
          refine ⟨v6, μ6, ν6, ?_, (Fw.of (F5.mono (fun k j y => by omega))).tr f6 (fun _ _ y => y) (fun _ y => y), fun K => ?_, G5.tr g6 (fun _ _ y => y), ?_⟩
          · rw [e6, Option.bind_some]
            rcases o6 with ⟨w6, _⟩ | ⟨w6, _⟩
            · rw [w6, if_pos rfl]
            · rw [w6, if_neg (show ¬ (1 : Int32) = 0 by decide)]
          · rw [K1, K2, K3, d6, Option.bind_some]
          · rcases o6 with o | ⟨w6, p', s', r', m', R', N', fr', _, j6⟩
            · exact Or.inl o
            · exact Or.inr ⟨w6, p', s', r', m', R', N', fr', j6⟩
  · obtain ⟨μ2, e2, a2, f2⟩ := faC hc.2.2.1 1
    have e2' : sh_X4_fail (1 : Int32) μ = _ := e2
    have b1 := n1 z0
    obtain ⟨ν9, _, b9, g9, rr9⟩ := bad0 ν1 1 _ (fun _ => none) b1 r1
    rw [if_neg z0, if_pos zro, e2', Option.bind_some, isB0]
    refine ⟨0, μ2, ν9, rfl, Fw.of (f2.mono (fun k j y => by omega)), fun K => ?_, (g1.mono (fun k j y => by omega)).tr g9 (fun _ _ y => y), Or.inl ⟨rfl, 1, _, a2, b9⟩⟩
    rw [d1, Option.bind_some]
    obtain ⟨ν8, e8, _, _, rr8⟩ := bad0 ν1 1 _ K b1 r1
    rw [e8, rr8, rr9]
end LOD
