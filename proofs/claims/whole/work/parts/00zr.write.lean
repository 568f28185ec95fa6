/-! CALLS that write lines -/
section WRL
variable {n : Nat} {R : Nat → Int} {N fr : Nat}
theorem okT_tkT (hw : WB 500 R N fr) {e : Nat} (he : e < N) (a : Nat) : ∀ k : Nat, ((a + k : Nat) : Int) ≤ wct R e → okT (tkT R e a k) := by
  intro k
  induction k with
  | zero => intro _; exact okT.nil
  | succ k ih =>
    intro h
    rw [tkT]
    refine (ih (by omega)).app (okT.app ?_ (okT_tok hw he (by omega)))
    split
    · exact okT.nil
    · exact okT.cons (by omega) okT.nil
theorem okT_ln (hw : WB 500 R N fr) {i : Nat} (hi : i < (TB R (tpF R N) N N).1) : okT (lnT R (tpF R N) N i) := by
  have h0 := tpF_b hw (by omega)
  obtain ⟨e, hE⟩ := LF.ex hw (by omega) h0 hi
  have h8 := hE.2.2.2.2.1
  unfold lnT
  rw [hE.2.1, Int.toNat_natCast]
  refine (okT.rep (by omega)).app ((okT_tkT hw hE.1.1 _ _ (by omega)).app (okT.app ?_ (okT.cons (by omega) okT.nil)))
  unfold endT
  split
  · exact okT.cons (by omega) ((okT.rep (by omega)).app (okT.cons (by omega) (prn_len hw (by omega) hE.1.1 h0.1 h0.2).2))
  · exact okT.nil
theorem okT_lns (hw : WB 500 R N fr) (a : Nat) : ∀ k, a + k ≤ (TB R (tpF R N) N N).1 → okT (lnsT R (tpF R N) N a k) := by
  intro k
  induction k with
  | zero => intro _; exact okT.nil
  | succ k ih =>
    intro h
    exact (ih (by omega)).app (okT_ln hw (by omega))
abbrev PK : Nat → Nat → Prop := fun k j => k = 330 ∨ k = 306 ∧ j = 49
theorem kt2 {L : List Int} (hL : ∀ i, i < L.length → -128 ≤ L.getD i 0 ∧ L.getD i 0 ≤ 127) : ∀ (k f i : Nat) (μ : Mm), i + k = L.length → k < f → Mx μ L → (∀ j, j < i → μ.1 330 j = jv (L.getD j 0)) → ∃ μ1, sh_X12_keepText_2 n f (jv i) μ = some μ1 ∧ μ1.1 306 49 = jv L.length ∧ (∀ j, j < L.length → μ1.1 330 j = jv (L.getD j 0)) ∧ Fm PK μ μ1 := by
  have l1 : ln 310 = 16000 := rfl
  have l2 : ln 330 = 16000 := rfl
  intro k
  induction k with
  | zero =>
    intro f i μ hi hf hx ho
    obtain ⟨f, rfl⟩ : ∃ g, f = g + 1 := ⟨f - 1, by omega⟩
    have hl := hx.1
    rw [sh_X12_keepText_2, hx.2.1, if_pos (by rw [jv_le] <;> omega), pt_eq, Option.bind_some]
    refine ⟨_, rfl, by rw [sI_1, if_pos ⟨rfl, rfl⟩], fun j hj => ?_, Fm.rf.sI (Or.inr ⟨rfl, rfl⟩)⟩
    rw [sI_1, if_neg (by omega), ho j (by omega)]
  | succ k ih =>
    intro f i μ hi hf hx ho
    obtain ⟨f, rfl⟩ : ∃ g, f = g + 1 := ⟨f - 1, by omega⟩
    have hl := hx.1
    have hb := hL i (by omega)
    rw [sh_X12_keepText_2, hx.2.1, if_neg (by rw [jv_le] <;> omega), ld_jv (by omega) (by omega), Option.bind_some, Int.toNat_natCast, hx.2.2 i (by omega), vp_nar_byte, b8 hb.1 hb.2, st_jv (by omega) (by omega), Option.bind_some, Int.toNat_natCast, jv_lit (nat_lit 1), jv_add, show (i : Int) + 1 = ((i + 1 : Nat) : Int) by omega]
    have f0 : Fm PK μ (sI μ 330 i (jv (L.getD i 0))) := Fm.rf.sI (Or.inl rfl)
    obtain ⟨μ1, e1, a1, a2, a3⟩ := ih f (i + 1) (sI μ 330 i (jv (L.getD i 0))) (by omega) (by omega) (hx.kp f0 (by omega) (fun j => by omega)) (fun j hj => by
      rw [sI_1]
      by_cases z : j = i
      · rw [if_pos ⟨rfl, z⟩, z]
      · rw [if_neg (fun q => z q.2), ho j (by omega)])
    exact ⟨μ1, e1, a1, a2, f0.tr a3 (fun _ _ y => y)⟩
theorem kt (hn : 16001 ≤ n) {L : List Int} (hL : okT L) {μ : Mm} (hx : Mx μ L) : ∃ μ1, sh_X12_keepText n μ = some μ1 ∧ μ1.1 306 49 = jv L.length ∧ (∀ j, j < L.length → μ1.1 330 j = jv (L.getD j 0)) ∧ Fm PK μ μ1 := by
  have hl := hx.1
  unfold sh_X12_keepText
  exact kt2 (n := n) hL.get L.length n 0 μ (by omega) (by omega) hx (fun j hj => absurd hj (by omega))
theorem q_writeLine (hn : 16001 ≤ n) {μ : Mm} {I O : List Int} (hq : QS μ R N fr) (hio : EA μ I O) (a : Int32) : ∃ x μ1 v μ2 O', sh_X11_writeLine n a μ = some (Sum.elim (fun e => .inl (e, μ1)) (fun r => .inr (r, μ1)) x) ∧ sh_X12_writeLine n a μ1 = some (v, μ2) ∧ Fw PE QV μ μ2 ∧ Ag [2] x v (μ2.1 306 0) ∧ EA μ2 I O' := by
  have hw := hq.1
  have h0 := tpF_b hw (by omega)
  obtain ⟨z, h1, h2, rfl⟩ := jv_ex a
  unfold sh_X11_writeLine
  rw [ckL hq ⟨h1, h2⟩, Option.bind_some]
  by_cases hz : 0 ≤ z ∧ z < (TB R (tpF R N) N N).1
  · obtain ⟨i, rfl⟩ : ∃ i : Nat, z = i := ⟨z.toNat, by omega⟩
    have hi : i < (TB R (tpF R N) N N).1 := by have := hz.2; omega
    obtain ⟨μ1, e1, x1, f1⟩ := tys (n := n) (t := 38) (kb := 11) (tx := 3) (by omega) hw (by omega) (by omega) (by omega) (a := i) (b := i + 1) (by omega) (by omega) (cap_one hw (by omega) hi (by decide)) hq.2.2.1 hq.2.1
    rw [show i + 1 - i = 0 + 1 by omega] at x1
    have eO : lnsT R (tpF R N) N i (0 + 1) = lnT R (tpF R N) N i := by
      rw [lnsT, lnsT, List.nil_append, Nat.add_zero]
    rw [eO] at x1
    have F1 : Fw PE QV μ μ1 := Fw.of (f1.mono (fun k j y => by omega))
    have q1 := hq.ke F1
    obtain ⟨μ2, e2, m2, y2, f2⟩ := isLn (n := n) hn hw q1.2.2.2 (a := (i : Int)) ⟨h1, h2⟩
    have f3 : Fm (fun k j => k = 306 ∧ (j = 0 ∨ j = 17)) μ2 (sI (sI μ2 306 0 (jv 0)) 306 17 (jv 0)) := (Fm.rf.sI (by omega)).sI (by omega)
    have m3 := m2.fr f3 (fun i _ => by omega)
    have y3 := y2.kp f3 (fun k j y => by omega)
    obtain ⟨μ4, e4, x4, f4⟩ := plL (n := n) hn hw (by omega) h0 hi (μ := sI (sI μ2 306 0 (jv 0)) 306 17 (jv 0)) ⟨m3, y3.1, y3.2.1⟩ Mx0 (by show 0 + 600 ≤ 16000; omega)
    rw [List.nil_append] at x4
    obtain ⟨μ5, e5, a5, b5, f5⟩ := kt (n := n) hn (okT_ln hw hi) x4
    have G : Fm (fun k j => k = 306 ∧ j ≠ 5 ∧ j ≠ 11 ∧ j ≠ 12 ∧ j ≠ 47 ∨ 310 ≤ k ∧ k ≤ 328 ∨ k = 330) μ1 μ5 := (((f2.mono (fun k j y => by omega)).tr f3 (fun k j y => by omega)).tr f4 (fun k j y => by omega)).tr f5 (fun k j y => by omega)
    refine ⟨.inr (jv (lnT R (tpF R N) N i).length), μ1, jv (lnT R (tpF R N) N i).length, μ5, lnT R (tpF R N) N i, ?_, ?_, F1.tr (Fw.of (Q := QV) G) (fun k j y => by omega) (fun _ y => y), ⟨?_, rfl⟩, ?_⟩
    · rw [if_pos hz, Sum.elim_inr, jv_lit (nat_lit 1), jv_add, show (i : Int) + 1 = ((i + 1 : Nat) : Int) by omega, e1, Option.bind_some]
      unfold sh_X8_length
      rw [Option.bind_some, x1.2.1]
      rfl
    · unfold sh_X12_writeLine
      simp only [jv_lit]
      rw [e2, Option.bind_some, if_pos hz, pas1, Option.bind_some, if_neg (show ¬ jv 1 = jv 0 by decide), pt_eq, Option.bind_some, e4, Option.bind_some, e5, Option.bind_some, a5]
    · rw [f5.at _ _ (by omega), f4.at _ _ (by omega), sI_1, if_neg (by omega), sI_1, if_pos ⟨rfl, rfl⟩]
    · refine hio.out (x1.kp G (by omega) (fun j => by omega)) a5 b5 (fun k j q => ?_)
      rw [G.at _ _ (by omega), f1.at _ _ (by omega)]
  · obtain ⟨μ2, e2, m2, y2, f2⟩ := isLn (n := n) hn hw hq.2.2.2 (a := z) ⟨h1, h2⟩
    have F : Fw PV QV μ (sI μ2 306 0 (jv 1)) := (Fw.of (P := PV) (Q := QV) (f2.mono (fun k j y => Or.inl (PMY_Q k j y)))).tr (Fw.of (P := PQ) (Q := QV) (Fm.rf.sI (by omega))) (fun k j y => Or.inl y) (fun _ y => y)
    refine ⟨.inl 2, μ, jv 0, sI μ2 306 0 (jv 1), O, by rw [if_neg hz]; rfl, ?_, F.mono PV_E (fun _ y => y), ⟨0, rfl, by rw [sI_1, if_pos ⟨rfl, rfl⟩]; rfl⟩, hio.kv F (fun _ _ y => y)⟩
    unfold sh_X12_writeLine
    simp only [jv_lit]
    rw [e2, Option.bind_some, if_neg hz, pas0, Option.bind_some, if_pos (show jv 0 = jv 0 from rfl)]
theorem wt16 (hn : 16001 ≤ n) (hw : WB 500 R N fr) : ∀ (k f i : Nat) (μ : Mm), i + k = (TB R (tpF R N) N N).1 → k < f → ML 307 μ R (tpF R N) N fr → Mx μ (lnsT R (tpF R N) N 0 i) → ∃ μ1 μ2, sh_X12_writeTable_16 n f (jv i) μ = (sh_X12_keepText n μ1).bind (fun r4 => some ((r4.1 306 49), r4)) ∧ μ1 = μ2 ∧ Mx μ1 (lnsT R (tpF R N) N 0 (TB R (tpF R N) N N).1) ∧ Fm PM2 μ μ1 := by
  have h0 := tpF_b hw (by omega)
  have hT := TB_n hw (by omega) h0 N (Nat.le_refl _)
  have hN := hw.1
  intro k
  induction k with
  | zero =>
    intro f i μ hi hf hm hx
    obtain ⟨f, rfl⟩ : ∃ g, f = g + 1 := ⟨f - 1, by omega⟩
    have eT : μ.1 306 36 = jv (TB R (tpF R N) N N).1 := hm.2.2.2.1.1
    rw [sh_X12_writeTable_16, eT, if_pos (by rw [jv_le] <;> omega)]
    exact ⟨μ, μ, rfl, rfl, by rw [← show i = (TB R (tpF R N) N N).1 by omega]; exact hx, Fm.rf⟩
  | succ k ih =>
    intro f i μ hi hf hm hx
    obtain ⟨f, rfl⟩ : ∃ g, f = g + 1 := ⟨f - 1, by omega⟩
    have eT : μ.1 306 36 = jv (TB R (tpF R N) N N).1 := hm.2.2.2.1.1
    have hlen : (lnsT R (tpF R N) N 0 i).length ≤ 14400 := by
      have h1 := tab_len hw (by omega) h0 N (Nat.le_refl _)
      have h2 := lnsT_app (R := R) (tp := tpF R N) (N := N) 0 ((TB R (tpF R N) N N).1 - i) i
      rw [show i + ((TB R (tpF R N) N N).1 - i) = (TB R (tpF R N) N N).1 by omega] at h2
      rw [h2, List.length_append] at h1
      omega
    obtain ⟨μ1, e1, x1, f1⟩ := plL (n := n) hn hw (by omega) h0 (i := i) (by omega) hm hx (by omega)
    rw [sh_X12_writeTable_16, eT, if_neg (by rw [jv_le] <;> omega), e1, Option.bind_some, jv_lit (nat_lit 1), jv_add, show (i : Int) + 1 = ((i + 1 : Nat) : Int) by omega]
    have ex : lnsT R (tpF R N) N 0 (i + 1) = lnsT R (tpF R N) N 0 i ++ lnT R (tpF R N) N i := by rw [lnsT, Nat.zero_add]
    obtain ⟨μ2, μ3, e2, e3, x2, f2⟩ := ih f (i + 1) μ1 (by omega) (by omega) (hm.kp f1) (by rw [ex]; exact x1)
    exact ⟨μ2, μ3, e2, e3, x2, f1.tr f2 (fun _ _ y => y)⟩
theorem q_writeTable (hn : 16001 ≤ n) {μ : Mm} {I O : List Int} (hq : QS μ R N fr) (hio : EA μ I O) : ∃ v μ1 μ2 O', sh_X11_writeTable n μ = some (v, μ1) ∧ sh_X12_writeTable n μ1 = some (v, μ2) ∧ Fw PE QV μ μ2 ∧ EA μ2 I O' := by
  have hw := hq.1
  have h0 := tpF_b hw (by omega)
  have hT := TB_n hw (by omega) h0 N (Nat.le_refl _)
  have hN := hw.1
  have eT : μ.1 61 2 = jv (TB R (tpF R N) N N).1 := hq.2.2.1.2.2.2.1.2.1.1
  obtain ⟨μ1, e1, x1, f1⟩ := tys (n := n) (t := 38) (kb := 11) (tx := 3) (by omega) hw (by omega) (by omega) (by omega) (a := 0) (b := (TB R (tpF R N) N N).1) (by omega) (by omega) (cap_all hw (by omega) (by decide)) hq.2.2.1 hq.2.1
  rw [Nat.sub_zero] at x1
  have F1 : Fw PE QV μ μ1 := Fw.of (f1.mono (fun k j y => by omega))
  have q1 := hq.ke F1
  obtain ⟨μ2, e2, y2, f2⟩ := layMM (n := n) hn hw (by omega) (q1.2.2.2.r00 (v := jv 0))
  have f0 : Fm PQ μ1 (sI μ1 306 0 (jv 0)) := Fm.rf.sI (by omega)
  have m2 := (q1.2.2.2.r00 (v := jv 0)).fr f2 (fun i _ => by omega)
  have f3 : Fm (fun k j => k = 306 ∧ j = 17) μ2 (sI μ2 306 17 (jv 0)) := Fm.rf.sI ⟨rfl, rfl⟩
  have m3 := m2.fr f3 (fun i _ => by omega)
  have y3 := y2.kp f3 (fun k j y => by omega)
  obtain ⟨μ4, _, e4, _, x4, f4⟩ := wt16 (n := n) hn hw (TB R (tpF R N) N N).1 n 0 (sI μ2 306 17 (jv 0)) (by omega) (by omega) ⟨m3, y3.1, y3.2.1⟩ Mx0
  obtain ⟨μ5, e5, a5, b5, f5⟩ := kt (n := n) hn (okT_lns hw 0 (TB R (tpF R N) N N).1 (by omega)) x4
  have G : Fm (fun k j => k = 306 ∧ j ≠ 5 ∧ j ≠ 11 ∧ j ≠ 12 ∧ j ≠ 47 ∨ 310 ≤ k ∧ k ≤ 328 ∨ k = 330) μ1 μ5 := ((((Fm.rf.sI (by omega) : Fm (fun k j => k = 306 ∧ j ≠ 5 ∧ j ≠ 11 ∧ j ≠ 12 ∧ j ≠ 47 ∨ 310 ≤ k ∧ k ≤ 328 ∨ k = 330) μ1 (sI μ1 306 0 (jv 0))).tr f2 (fun k j y => by omega)).tr f3 (fun k j y => by omega)).tr f4 (fun k j y => by omega)).tr f5 (fun k j y => by omega)
  refine ⟨jv (lnsT R (tpF R N) N 0 (TB R (tpF R N) N N).1).length, μ1, μ5, lnsT R (tpF R N) N 0 (TB R (tpF R N) N N).1, ?_, ?_, F1.tr (Fw.of (Q := QV) G) (fun k j y => by omega) (fun _ y => y), ?_⟩
  · unfold sh_X11_writeTable
    rw [eT, jv0]
    have e1' : sh_X1_typeLines n 38 3 11 (jv 0) (jv (TB R (tpF R N) N N).1) μ = some μ1 := e1
    rw [e1', Option.bind_some]
    unfold sh_X8_length
    rw [Option.bind_some, x1.2.1]
  · unfold sh_X12_writeTable
    simp only [jv_lit]
    have e4' : sh_X12_writeTable_16 n n (jv 0) (sI μ2 306 17 (jv 0)) = _ := e4
    rw [pt_eq, Option.bind_some, e2, Option.bind_some, pt_eq, Option.bind_some, e4', e5, Option.bind_some, a5]
  · refine hio.out (x1.kp G (by omega) (fun j => by omega)) a5 b5 (fun k j q => ?_)
    rw [G.at _ _ (by omega), f1.at _ _ (by omega)]
end WRL
