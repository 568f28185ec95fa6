/-! WHICH SECTIONS must be read again, by both -/
abbrev rd (R : Nat → Int) (N : Nat) (Rp : Nat → Int) (Np s : Nat) : Prop := R 10 = 0 ∨ R (frm s) = -1 ∨ R (lin5 s) ≠ ((TB R (tpF R N) N (s + 1)).1 : Int) - (TB R (tpF R N) N s).1 ∨ ¬ alE R N Rp Np (TB R (tpF R N) N s).1 (R (frm s)).toNat ((TB R (tpF R N) N (s + 1)).1 - (TB R (tpF R N) N s).1) 0
abbrev sbit (i : Nat) : Int32 := (1 : Int32) <<< (jv i &&& 31)
def rsI (P : Nat → Prop) [DecidablePred P] : Nat → Nat → Int32 → Int32
  | 0, _, x => x
  | k + 1, i, x => rsI P k (i + 1) (if P i then x ||| sbit i else x)
theorem ng1 : (-1 : Int32) = jv (-1) := by decide
theorem or_z (x : Int32) : x ||| 0 = x := by
  apply Int32.toBitVec_inj.mp
  rw [Int32.toBitVec_or]
  apply BitVec.eq_of_toNat_eq
  rw [BitVec.toNat_or]
  show x.toBitVec.toNat ||| 0 = _
  exact Nat.or_zero _
section RDD
variable {n : Nat} {R Rp : Nat → Int} {N fr Np frp : Nat} {I O : List Int}
/-- where a section came from -/
def OrG (μ : Mm) (R : Nat → Int) (N : Nat) (Rp : Nat → Int) (Np : Nat) : Prop := ∀ s, s < N → (R (frm s) = -1 ∧ μ.1 23 s = jv (-1)) ∨ (R 10 = 1 ∧ ∃ o, o < Np ∧ μ.1 23 s = jv ((o : Nat) : Int) ∧ R (frm s) = (TB Rp (tpF Rp Np) Np o).1 ∧ R (lin5 s) = ((TB Rp (tpF Rp Np) Np (o + 1)).1 : Int) - (TB Rp (tpF Rp Np) Np o).1)
theorem mbr (hn : 16001 ≤ n) (hw : WB 500 R N fr) (hwp : WB 500 Rp Np frp) {s : Nat} (hs : s < N) (h10 : R 10 = 0 ∨ R 10 = 1) {ν : Mm} (hO : OrG ν R N Rp Np) {μ : Mm} (hM : MB 307 μ R) (hY : MY μ R N fr) (hP : R 10 = 1 → NP μ Rp Np) : ∃ μ1, sh_X12_mustBeRead n (jv s) μ = some (jv (if rd R N Rp Np s then 1 else 0), μ1) ∧ Fm PM2 μ μ1 := by
  have h0 := tpF_b hw (by omega)
  have hN := hw.1
  have hNp := hwp.1
  have h0p := tpF_b hwp (by omega)
  have l10 : ld μ 307 (jv 10) = some (jv (R 10)) := mb7 hM 10 (by omega)
  have h4 : sh_X12_of (jv s) (jv 4) μ = some (jv (R (frm s))) := hM.of (s := s) (w := 4) (by omega) (by omega)
  have h5 : sh_X12_of (jv s) (jv 5) μ = some (jv (R (lin5 s))) := hM.of (s := s) (w := 5) (by omega) (by omega)
  have hm := TB_mono hw (by omega) h0 hs
  have hT := TB_n hw (by omega) h0 N (Nat.le_refl _)
  unfold sh_X12_mustBeRead
  rw [ng1]
  simp only [jv_lit]
  rw [l10, Option.bind_some]
  rcases h10 with z | z
  · rw [show jv (R 10) = jv 0 by rw [z], if_pos (show jv 0 = jv 0 from rfl), if_pos (Or.inl z)]
    exact ⟨μ, rfl, Fm.rf⟩
  · rw [show jv (R 10) = jv 1 by rw [z], if_neg (show ¬ jv 1 = jv 0 by decide), h4, Option.bind_some]
    rcases hO s hs with ⟨a, _⟩ | ⟨_, o, ho, _, a, b⟩
    · rw [congrArg jv a, if_pos rfl, if_pos (Or.inr (Or.inl a))]
      exact ⟨μ, rfl, Fm.rf⟩
    · have hmp := TB_mono hwp (by omega) h0p ho
      have hTp := TB_n hwp (by omega) h0p Np (Nat.le_refl _)
      rw [congrArg jv a, if_neg (by rw [jv_eq] <;> omega), h5, Option.bind_some, lnO hw hM hY hs, Option.bind_some, congrArg jv b]
      by_cases y : ((TB Rp (tpF Rp Np) Np (o + 1)).1 : Int) - (TB Rp (tpF Rp Np) Np o).1 = ((TB R (tpF R N) N (s + 1)).1 : Int) - (TB R (tpF R N) N s).1
      · obtain ⟨_, μ1, e1, f1⟩ := mb40 (n := n) hn hw hwp (o := o) hs (c := (TB R (tpF R N) N (s + 1)).1 - (TB R (tpF R N) N s).1) rfl (by omega) a ((TB R (tpF R N) N (s + 1)).1 - (TB R (tpF R N) N s).1) n 0 μ (by omega) (by omega) hM hY (hP z)
        have e1' : sh_X12_mustBeRead_40 n (jv s) n (jv 1) (jv 0) μ = _ := e1
        have et : (R (frm s)).toNat = (TB Rp (tpF Rp Np) Np o).1 := by rw [a, Int.toNat_natCast]
        rw [if_pos (by rw [y]), e1']
        refine ⟨μ1, ?_, f1⟩
        congr 3
        by_cases w : alE R N Rp Np (TB R (tpF R N) N s).1 (TB Rp (tpF Rp Np) Np o).1 ((TB R (tpF R N) N (s + 1)).1 - (TB R (tpF R N) N s).1) 0
        · rw [if_pos w, if_neg]
          rintro (q | q | q | q)
          · omega
          · omega
          · exact q (b.trans y)
          · rw [et] at q
            exact q w
        · rw [if_neg w, if_pos]
          refine Or.inr (Or.inr (Or.inr ?_))
          rw [et]
          exact w
      · rw [if_neg (by rw [jv_eq] <;> omega), if_pos (Or.inr (Or.inr (Or.inl (by rw [b]; exact y))))]
        exact ⟨μ, rfl, Fm.rf⟩
theorem rs8 (hn : 16001 ≤ n) (hw : WB 500 R N fr) (hwp : WB 500 Rp Np frp) (h10 : R 10 = 0 ∨ R 10 = 1) {ν : Mm} (hO : OrG ν R N Rp Np) : ∀ (k f i : Nat) (x : Int32) (μ : Mm), i + k = N → k < f → MB 307 μ R → MY μ R N fr → (R 10 = 1 → NP μ Rp Np) → ∃ μ1, sh_X12_readSet_8 n f x (jv i) μ = some (rsI (rd R N Rp Np) k i x, μ1) ∧ Fm PM2 μ μ1 := by
  have hN := hw.1
  intro k
  induction k with
  | zero =>
    intro f i x μ hi hf hM hY hP
    obtain ⟨f, rfl⟩ : ∃ g, f = g + 1 := ⟨f - 1, by omega⟩
    rw [sh_X12_readSet_8, jv_lit (nat_lit 9), mbl9 hM, Option.bind_some, hN.1, if_pos (by rw [jv_le] <;> omega)]
    exact ⟨μ, rfl, Fm.rf⟩
  | succ k ih =>
    intro f i x μ hi hf hM hY hP
    obtain ⟨f, rfl⟩ : ∃ g, f = g + 1 := ⟨f - 1, by omega⟩
    obtain ⟨μ1, e1, f1⟩ := mbr (n := n) hn hw hwp (s := i) (by omega) h10 hO hM hY hP
    have i1 := fun x => ih f (i + 1) x μ1 (by omega) (by omega) (hM.fr f1 (fun i _ => by omega)) (hY.kp f1 (fun k j y => by omega)) (fun q => ⟨fun k hk => by rw [f1.at _ _ (by omega)]; exact (hP q).1 k hk, fun j hj => by rw [f1.at _ _ (by omega)]; exact (hP q).2 j hj⟩)
    rw [sh_X12_readSet_8, jv_lit (nat_lit 9), mbl9 hM, Option.bind_some, hN.1, if_neg (by rw [jv_le] <;> omega), e1, Option.bind_some, rsI]
    simp only [nm_eq]
    rw [show jv (i : Int) + (1 : Int32) = jv ((i + 1 : Nat) : Int) by rw [jv_lit (nat_lit 1), jv_add]; rfl]
    by_cases y : rd R N Rp Np i
    · rw [if_pos y, if_pos y, if_neg one_ne]
      obtain ⟨μ2, e2, f2⟩ := i1 (x ||| sbit i)
      exact ⟨μ2, e2, f1.tr f2 (fun _ _ y => y)⟩
    · rw [if_neg y, if_neg y, if_pos zro, or_z]
      obtain ⟨μ2, e2, f2⟩ := i1 x
      exact ⟨μ2, e2, f1.tr f2 (fun _ _ y => y)⟩
theorem rdC (hn : 20000 ≤ n) (hw : WB 500 R N fr) (hwp : WB 500 Rp Np frp) (h10 : R 10 = 0 ∨ R 10 = 1) : ∀ (k f i : Nat) (x : Int32) (μ : Mm), i + k = N → k < f → CB 11 μ R N fr → LY 38 μ R N fr → CB 24 μ Rp Np frp → LY 98 μ Rp Np frp → μ.1 10 2 = jv (R 10) → OrG μ R N Rp Np → ∃ μ1, sh_X11_sectionsToRead_4 n f x (jv i) μ = some (rsI (rd R N Rp Np) k i x, μ1) ∧ Fm PTy μ μ1 := by
  have hN := hw.1
  have hNp := hwp.1
  have h0 := tpF_b hw (by omega)
  have h0p := tpF_b hwp (by omega)
  have hTT := TB_n hw (by omega) h0 N (Nat.le_refl _)
  have hTp := TB_n hwp (by omega) h0p Np (Nat.le_refl _)
  have l23 : ln (22 + 1) = 24 := rfl
  intro k
  induction k with
  | zero =>
    intro f i x μ hi hf b1 _ _ _ _ _
    obtain ⟨f, rfl⟩ : ∃ g, f = g + 1 := ⟨f - 1, by omega⟩
    rw [sh_X11_sectionsToRead_4, b1.2.2.1.2.1, if_pos (by rw [jv_le] <;> omega)]
    exact ⟨μ, rfl, Fm.rf⟩
  | succ k ih =>
    intro f i x μ hi hf b1 L1 b2 L2 hd hO
    obtain ⟨f, rfl⟩ : ∃ g, f = g + 1 := ⟨f - 1, by omega⟩
    have hs : i < N := by omega
    have hm := TB_mono hw (by omega) h0 hs
    obtain ⟨μ1, e1, x1, f1⟩ := tys (n := n) (t := 38) (kb := 11) (tx := 140) (by omega) hw (by omega) (by omega) (by omega) (a := (TB R (tpF R N) N i).1) (b := (TB R (tpF R N) N (i + 1)).1) (by omega) (by omega) (cap_ent hw (by omega) hs (by decide)) L1 b1
    have b2' := b2.fr f1 (fun q j a b y => by omega)
    have L2' := L2.kp f1 (fun q j a b y => by omega)
    -- the other text, in both cases
    have key : ∃ μ2 M r5 r6, sh_X5_at 132 (μ.1 23 i) μ1 = some r5 ∧ sh_X7_lineBehind 121 (μ.1 23 i) μ1 = some r6 ∧ sh_X1_typeLines n 98 142 24 r5 r6 μ1 = some μ2 ∧ Tx 142 μ2 M ∧ Fm (PT 142) μ1 μ2 ∧ (∀ c, c < M.length → -128 ≤ M.getD c 0 ∧ M.getD c 0 ≤ 127) ∧ ((R 10 = 0 ∨ μ.1 23 i = jv (-1)) → rd R N Rp Np i) ∧ (R 10 = 1 → ¬ μ.1 23 i = jv (-1) → (rd R N Rp Np i ↔ ¬ lnsT R (tpF R N) N (TB R (tpF R N) N i).1 ((TB R (tpF R N) N (i + 1)).1 - (TB R (tpF R N) N i).1) = M)) := by
      rcases hO i hs with ⟨a, b⟩ | ⟨z, o, ho, b, a, c⟩
      · obtain ⟨μ2, e2, x2, f2⟩ := tys (n := n) (t := 98) (kb := 24) (tx := 142) (by omega) hwp (by omega) (by omega) (by omega) (a := 0) (b := 0) (Nat.le_refl _) (Nat.zero_le _) (fun j hj => absurd hj (by omega)) L2' b2'
        refine ⟨μ2, [], jv 0, jv 0, ?_, ?_, e2, x2, f2, fun c hc => absurd hc (by show ¬ c < 0; omega), fun _ => Or.inr (Or.inl a), fun _ q => absurd b q⟩
        · rw [b, a5_lo (by omega) (by omega)]
        · unfold sh_X7_lineBehind
          rw [b, a5_lo (by omega) (by omega), Option.bind_some, a5_lo (by omega) (by omega), Option.bind_some, jv_add]
          rfl
      · have hmp := TB_mono hwp (by omega) h0p ho
        obtain ⟨μ2, e2, x2, f2⟩ := tys (n := n) (t := 98) (kb := 24) (tx := 142) (by omega) hwp (by omega) (by omega) (by omega) (a := (TB Rp (tpF Rp Np) Np o).1) (b := (TB Rp (tpF Rp Np) Np (o + 1)).1) (by omega) (by omega) (cap_ent hwp (by omega) ho (by decide)) L2' b2'
        have ne : ¬ jv ((o : Nat) : Int) = jv (-1) := by rw [jv_eq] <;> omega
        have et : (R (frm i)).toNat = (TB Rp (tpF Rp Np) Np o).1 := by rw [a, Int.toNat_natCast]
        refine ⟨μ2, _, _, _, by rw [b]; exact (L2'.sec4 hwp ho).1, by rw [b]; exact L2'.lbh hwp ho, e2, x2, f2, (okT_lns hwp _ _ (by omega)).get, fun q => ?_, fun _ _ => ?_⟩
        · rcases q with q | q
          · omega
          · rw [b] at q
            exact absurd q ne
        · have hi2 := lns_iff hw hwp ((TB R (tpF R N) N (i + 1)).1 - (TB R (tpF R N) N i).1) ((TB Rp (tpF Rp Np) Np (o + 1)).1 - (TB Rp (tpF Rp Np) Np o).1) (TB R (tpF R N) N i).1 (TB Rp (tpF Rp Np) Np o).1 (by omega) (by omega)
          rw [hi2]
          constructor
          · rintro (q | q | q | q) ⟨w1, w2⟩
            · omega
            · omega
            · rw [c] at q
              omega
            · rw [et] at q
              exact q (fun j hj _ => w2 j hj)
          · intro q
            by_cases w : R (lin5 i) = ((TB R (tpF R N) N (i + 1)).1 : Int) - (TB R (tpF R N) N i).1
            · refine Or.inr (Or.inr (Or.inr (fun v => q ⟨by omega, fun j hj => ?_⟩)))
              have := v j hj (Nat.zero_le _)
              rw [et] at this
              exact this
            · exact Or.inr (Or.inr (Or.inl w))
    obtain ⟨μ2, M, r5, r6, k1, k2, e2, x2, f2, kr, k3, k4⟩ := key
    have x1' := x1.kp f2 (by omega) (fun j => by omega)
    have hl : (lnsT R (tpF R N) N (TB R (tpF R N) N i).1 ((TB R (tpF R N) N (i + 1)).1 - (TB R (tpF R N) N i).1)).length ≤ 600 := x1.1
    have F : Fm PTy μ μ2 := (f1.mono (fun k j y => by omega)).tr f2 (fun k j y => by omega)
    have ek := lk8 (n := n) hn x1' x2 (by omega) (okT_lns hw _ _ (by omega)).get kr
    have i1 := fun x => ih f (i + 1) x μ2 (by omega) (by omega) (b1.fr F (fun q j a b y => by omega)) (L1.kp F (fun q j a b y => by omega)) (b2.fr F (fun q j a b y => by omega)) (L2.kp F (fun q j a b y => by omega)) (by rw [F.at _ _ (by omega)]; exact hd) (fun s hs => by rw [F.at _ _ (by omega)]; exact hO s hs)
    have e23 : sh_X5_at 22 (jv i) μ = some (μ.1 23 i) := by rw [a5_in (by omega) (by omega), Int.toNat_natCast]
    have ea : jv (i : Int) + (1 : Int32) = jv ((i + 1 : Nat) : Int) := by rw [jv_lit (nat_lit 1), jv_add]; rfl
    have eS : ∀ K : Int32 → Int32 → Mm → Option (Int32 × Mm), sh_X11_sectionsToRead_148 n K x (jv i) μ2 = K (x ||| sbit i) (jv ((i + 1 : Nat) : Int)) μ2 := by
      intro K
      unfold sh_X11_sectionsToRead_148
      rw [nm_eq, ea]
    rw [sh_X11_sectionsToRead_4, b1.2.2.1.2.1, if_neg (by rw [jv_le] <;> omega), e23, Option.bind_some, (L1.sec4 hw hs).1, Option.bind_some, L1.lbh hw hs, Option.bind_some, e1, Option.bind_some, k1, Option.bind_some, k2, Option.bind_some, e2, Option.bind_some, F.at _ _ (by omega), hd, eS, ek, Option.bind_some, ng1, ea, rsI]
    by_cases y : rd R N Rp Np i
    · obtain ⟨μ3, e3, f3⟩ := i1 (x ||| sbit i)
      rw [if_pos y, e3]
      refine ⟨μ3, ?_, F.tr f3 (fun _ _ y => y)⟩
      by_cases q1 : jv (R 10) = 0
      · rw [if_pos q1]
      · rw [if_neg q1]
        by_cases q2 : μ.1 23 i = jv (-1)
        · rw [if_pos q2]
        · have z : R 10 = 1 := h10.resolve_left (fun w => q1 (by rw [w]; exact zro))
          rw [if_neg q2, if_neg ((k4 z q2).mp y), if_pos zro]
    · obtain ⟨μ3, e3, f3⟩ := i1 x
      have q0 : ¬ R 10 = 0 := fun w => y (k3 (Or.inl w))
      have q2 : ¬ μ.1 23 i = jv (-1) := fun w => y (k3 (Or.inr w))
      have z : R 10 = 1 := h10.resolve_left q0
      have hM : lnsT R (tpF R N) N (TB R (tpF R N) N i).1 ((TB R (tpF R N) N (i + 1)).1 - (TB R (tpF R N) N i).1) = M := Classical.byContradiction (fun w => y ((k4 z q2).mpr w))
      rw [if_neg y, show jv (R 10) = jv 1 by rw [z], if_neg one_ne, if_neg q2, if_pos hM, if_neg one_ne, e3]
      exact ⟨μ3, rfl, F.tr f3 (fun _ _ y => y)⟩
/-- the sets of both sides: first the class, then the model on what the class left -/
theorem rdS (hn : 20000 ≤ n) {μ : Mm} (h : ST μ I O R N fr) : ∃ Rp Np frp v μ1, PRf 10 μ (μ.1 307) R N Rp Np frp ∧ (∃ μ0, sh_X1_layAnew n 98 24 μ = some μ0 ∧ sh_X11_sectionsToRead n μ0 = some (v, μ1)) ∧ v = rsI (rd R N Rp Np) N 0 0 ∧ Fm (fun k _ => 98 ≤ k ∧ k ≤ 143) μ μ1 ∧ CB 24 μ1 Rp Np frp ∧ ∀ ν, MB 307 ν R → (R 10 = 1 → NP ν Rp Np) → ∃ ν1, sh_X12_readSet n ν = some (v, ν1) ∧ MY ν1 R N fr ∧ Fm PQ ν ν1 ∧ ν1.1 306 0 = ν.1 306 0 := by
  have hq := h.qs
  have hw := hq.1
  have hN := hw.1
  obtain ⟨⟨p1, p2⟩, Rp, Np, frp, p3, p4, p5, p6⟩ := h.1.2.2.2
  obtain ⟨μ0, e0, f0, L0⟩ := layA (n := n) (t := 98) (kb := 24) (by omega) p3 (by omega) okL98 (by omega) p4
  have hO : OrG μ R N Rp Np := p6
  obtain ⟨μ1, e1, f1⟩ := rdC (n := n) hn hw p3 p2 N n 0 0 μ0 (by omega) (by omega) (hq.2.1.fr f0 (fun q j a b y => by omega)) (hq.2.2.1.kp f0 (fun q j a b y => by omega)) (p4.fr f0 (fun q j a b y => by omega)) L0 (by rw [f0.at _ _ (by omega)]; exact p1) (fun s hs => by rw [f0.at _ _ (by omega)]; exact hO s hs)
  have F : Fm (fun k _ => 98 ≤ k ∧ k ≤ 143) μ μ1 := (f0.mono (fun k j y => by omega)).tr f1 (fun k j y => by omega)
  refine ⟨Rp, Np, frp, _, μ1, ⟨p3, p4, p5, p6⟩, ⟨μ0, e0, e1⟩, rfl, F, p4.fr F (fun q j a b y => by omega), fun ν hν hP => ?_⟩
  obtain ⟨ν0, d0, y0, g0⟩ := layMM (n := n) (by omega) hw (by omega) hν
  obtain ⟨ν1, d1, g1⟩ := rs8 (n := n) (by omega) hw p3 p2 hO N n 0 0 ν0 (by omega) (by omega) (hν.fr g0 (fun i _ => by omega)) y0 (fun q => ⟨fun k hk => by rw [g0.at _ _ (by omega)]; exact (hP q).1 k hk, fun j hj => by rw [g0.at _ _ (by omega)]; exact (hP q).2 j hj⟩)
  refine ⟨ν1, ?_, y0.kp g1 (fun k j y => by omega), (g0.mono PMY_Q).tr g1 (fun k j y => by omega), by rw [g1.at _ _ (by omega), g0.at _ _ (by omega)]⟩
  unfold sh_X12_readSet
  rw [d0, Option.bind_some]
  exact d1
theorem q_toRead (hn : 20000 ≤ n) {μ : Mm} (h : ST μ I O R N fr) : Qw μ (sh_X11_toRead n μ) (sh_X12_toRead n) := by
  obtain ⟨Rp, Np, frp, v, μ1, hp, ⟨μ0, e0, e1⟩, hv, f1, _, K⟩ := rdS (n := n) hn h
  have F : Fw PV QV μ μ1 := Fw.of (f1.mono (fun k j y => by omega))
  have m1 := (h.qs.2.2.2.fw F (fun i _ => by omega)).r00 (v := jv 0)
  obtain ⟨ν1, d1, _, g1, _⟩ := K (sI μ1 306 0 (jv 0)) m1 (fun q => by
    obtain ⟨_, a, b⟩ := hp.2.2.1 q
    exact ⟨fun k hk => by rw [sI_1, if_neg (by omega), f1.at _ _ (by omega)]; exact a k hk, fun j hj => by rw [sI_1, if_neg (by omega), f1.at _ _ (by omega)]; exact b j hj⟩)
  have f0 : Fm PQ μ1 (sI μ1 306 0 (jv 0)) := Fm.rf.sI (by omega)
  refine ⟨v, μ1, ν1, ?_, ?_, F.tr (Fw.of (Q := QV) (f0.tr g1 (fun _ _ y => y))) (fun k j y => Or.inl y) (fun _ y => y)⟩
  · unfold sh_X11_toRead
    rw [e0, Option.bind_some, e1]
    rfl
  · unfold sh_X12_toRead
    simp only [jv_lit]
    rw [pt_eq, Option.bind_some, d1]
    rfl
end RDD
