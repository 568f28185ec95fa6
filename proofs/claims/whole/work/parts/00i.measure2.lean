/-! MEASURES, whole -/
theorem wsum_pos {L : List Int} (h : 1 ≤ L.length) : 1 ≤ wsum L := by
  cases L with
  | nil => exact absurd h (by decide)
  | cons c L =>
    have := wd_b c
    have := wsum_b L
    rw [wsum_cons]
    omega
theorem ar_pos (v : Int) : 1 ≤ (ar v).length := by
  unfold ar arN
  split
  · exact Nat.le_of_ble_eq_true rfl
  · split
    · exact Nat.le_of_ble_eq_true rfl
    · split <;> exact Nat.le_of_ble_eq_true rfl
theorem lab_pos (R : Nat → Int) (s : Nat) : 1 ≤ (lab R s).length := by
  have := ar_pos (od R s)
  rw [lab_eq, List.length_append]
  omega
theorem lwl (l : Nat → Int) : (lw l).length ≤ 12 := lwF_len l 12 0
section MEB
variable {n m kb : Nat} {R : Nat → Int} {K : Int} {N fr s : Nat}
theorem tok_len (hw : WB K R N fr) (hs : s < N) (w : Nat) : (tok R s w).length ≤ 24 := by
  have h1 := lab_b hw hs
  have h2 := lwl (lt R s w)
  unfold tok
  rw [List.length_append]
  split
  · rw [len1]
    omega
  · show 0 + _ ≤ _
    omega
theorem tokW_b (hw : WB K R N fr) (hs : s < N) (w : Nat) : 0 ≤ tokW R s w ∧ tokW R s w ≤ 72 := by
  have h1 := wsum_b (tok R s w)
  have h2 := tok_len hw hs w
  unfold tokW
  omega
theorem ttl_b (hw : WB K R N fr) (hs : s < N) : ∀ w : Nat, 0 ≤ ttl R s w ∧ ttl R s w ≤ 73 * w := by
  intro w
  induction w with
  | zero => exact ⟨Int.le_refl _, Int.le_refl _⟩
  | succ w ih =>
    have := tokW_b hw hs w
    rw [ttl]
    split <;> omega
theorem ml8 {μ : Mm} (hn : 30 ≤ n) (hb : CB kb μ R N fr) (hw : WB K R N fr) (hs : s < N) (ho : okMe m) (h1 : μ.1 (m + 2) s = jv (pr R s)) (h2 : μ.1 (m + 6) s = jv (od R s)) (h3 : ∀ i, i < s → μ.1 (m + 8) i = jv (lbw R i)) : sh_X2_measureLabel n m kb (jv s) μ = some (sI μ (m + 8) s (jv (lbw R s))) := by
  have hN := hw.1.2.1
  have l1 : ln (m + 1 + 1) = 24 := ho.1
  have l3 : ln (m + 5 + 1) = 24 := ho.2.2.1
  have l4 : ln (m + 7 + 1) = 24 := ho.2.2.2.1
  have hod := od_b R s
  have hp := pr_b R s
  unfold sh_X2_measureLabel sh_X2_measureLabel_46 sh_X2_measureLabel_63
  rw [hb.po hw hs, Option.bind_some]
  simp only [jv_lit]
  have end63 : ∀ x : Int, x = lbw R s → ((sh_X5_put (m + 7) (jv s) (jv x) μ).bind fun r2 => some r2) = some (sI μ (m + 8) s (jv (lbw R s))) := by
    intro x e
    rw [p5_in (by omega) (by omega), Option.bind_some, Int.toNat_natCast, e]
  rcases hw.pb hs with ⟨a, q⟩ | ⟨a, q⟩
  · rw [if_neg (by rw [a, jv_eq] <;> omega)]
    exact end63 0 (by unfold lbw; rw [if_neg (by omega)])
  · have hl := lab_eq R s
    rw [if_pos (by rw [a]), a5_in (by omega) (by omega), Option.bind_some, Int.toNat_natCast, show m + 1 + 1 = m + 2 from rfl, h1]
    have h46 : ∀ x : Int, x + wsum (ar (od R s)) = lbw R s → ((sh_X5_at (m + 5) (jv s) μ).bind fun r6 => (sh_X11_arabicWidth n r6 μ).bind fun r7 => nm (jv x + r7) fun v8 => (sh_X5_put (m + 7) (jv s) v8 μ).bind fun r2 => some r2) = some (sI μ (m + 8) s (jv (lbw R s))) := by
      intro x e
      rw [a5_in (by omega) (by omega), Option.bind_some, Int.toNat_natCast, show m + 5 + 1 = m + 6 from rfl, h2, aw8 (by omega) (by omega) (by omega), Option.bind_some, nm_eq, jv_add]
      exact end63 _ e
    rcases hp with q2 | q2
    · rw [if_pos (by rw [q2, jv_neg])]
      refine h46 0 ?_
      unfold lbw
      rw [if_pos a, hl, if_pos (by omega), List.nil_append]
      omega
    · have hpp := pr_part hw s s q2.1
      rw [if_neg (by rw [jv_neg, jv_eq] <;> omega), a5_in (by omega) (by omega), Option.bind_some, sw_jv (by omega) (by omega), Option.bind_some, show m + 7 + 1 = m + 8 from rfl, h3 (pr R s).toNat (by omega), jv_add]
      refine h46 _ ?_
      unfold lbw
      rw [if_pos a, if_pos (by rw [show (pr R s).toNat = (prG R s s).toNat from rfl, hpp, a]), hl, if_neg (by omega), wsum_app, wsum_app, wsum_cons, wsum_nil]
      omega
abbrev PTI (m s : Nat) : Nat → Nat → Prop := fun k j => k = m + 10 ∧ 8 * s ≤ j ∧ j < 8 * s + 8 ∨ k = m + 12 ∧ j = s
theorem mt8_l (hn : 30 ≤ n) (hw : WB K R N fr) (hs : s < N) (ho : okMe m) (hkm : kb + 12 < m) : ∀ (j f w : Nat) (μ : Mm), (w : Int) + j = wct R s → j < f → CB kb μ R N fr → μ.1 (m + 8) s = jv (lbw R s) → (∀ v, v < w → μ.1 (m + 10) (8 * s + v) = jv (tokW R s v)) → ∃ μ1, sh_X2_measureTitle_5 n m kb (jv s) f (jv (ttl R s w)) (jv w) μ = some μ1 ∧ Fm (PTI m s) μ μ1 ∧ (∀ v : Nat, (v : Int) < wct R s → μ1.1 (m + 10) (8 * s + v) = jv (tokW R s v)) ∧ μ1.1 (m + 12) s = jv (ttw R s) := by
  have hN := hw.1.2.1
  have l4 : ln (m + 7 + 1) = 24 := ho.2.2.2.1
  have l5 : ln (m + 9 + 1) = 192 := ho.2.2.2.2.1
  have l6 : ln (m + 11 + 1) = 24 := ho.2.2.2.2.2
  have hwc := (hw.sec hs).2.2.2.1
  intro j
  induction j with
  | zero =>
    intro f w μ hj hf hb h8 ht
    obtain ⟨f, rfl⟩ : ∃ g, f = g + 1 := ⟨f - 1, by omega⟩
    rw [sh_X2_measureTitle_5, hb.wc hw hs, Option.bind_some, if_pos (by rw [jv_le] <;> omega), p5_in (by omega) (by omega), Option.bind_some, Int.toNat_natCast]
    refine ⟨_, rfl, Fm.rf.sI (Or.inr ⟨rfl, rfl⟩), fun v hv => ?_, ?_⟩
    · rw [sI_1, if_neg (by omega)]
      exact ht v (by omega)
    · rw [sI_1, if_pos ⟨rfl, rfl⟩]
      unfold ttw
      rw [show (wct R s).toNat = w by omega]
  | succ j ih =>
    intro f w μ hj hf hb h8 ht
    obtain ⟨f, rfl⟩ : ∃ g, f = g + 1 := ⟨f - 1, by omega⟩
    have hwd := (hw.sec hs).2.2.2.2.1 w (by omega)
    have htb := ttl_b hw hs w
    rw [sh_X2_measureTitle_5, hb.wc hw hs, Option.bind_some, if_neg (by rw [jv_le] <;> omega), nm_eq]
    simp only [jv_lit]
    rw [jv_mul, jv_add, hb.ti hw hs (by omega), Option.bind_some, ww8 hwd.1 (by omega), Option.bind_some]
    have h76 : ∀ x : Int, x = tokW R s w → ∃ μ1, sh_X2_measureTitle_76 n m kb (jv s) (fun (x3 : Int32) (x4 : Int32) (μ : Mm) => sh_X2_measureTitle_5 n m kb (jv s) f x3 x4 μ) (jv (ttl R s w)) (jv w) (jv ((s : Int) * 8 + w)) (jv x) μ = some μ1 ∧ Fm (PTI m s) μ μ1 ∧ (∀ v : Nat, (v : Int) < wct R s → μ1.1 (m + 10) (8 * s + v) = jv (tokW R s v)) ∧ μ1.1 (m + 12) s = jv (ttw R s) := by
      intro x e
      unfold sh_X2_measureTitle_76
      have hf1 : Fm (PTI m s) μ (sI μ (m + 10) (8 * s + w) (jv x)) := Fm.rf.sI (Or.inl ⟨rfl, by omega, by omega⟩)
      have go := ih f (w + 1) (sI μ (m + 10) (8 * s + w) (jv x)) (by omega) (by omega) (hb.fr hf1 (fun q j h1 h2 z => by omega)) (by rw [sI_1, if_neg (by omega)]; exact h8) (fun v hv => by
        rw [sI_1]
        by_cases z : v = w
        · subst z
          rw [if_pos ⟨rfl, rfl⟩, e]
        · rw [if_neg (by omega)]
          exact ht v (by omega))
      obtain ⟨μ1, a, b, c, d⟩ := go
      refine ⟨μ1, ?_, hf1.tr b (fun _ _ z => z), c, d⟩
      rw [p5_in (by omega) (by omega), Option.bind_some, show ((s : Int) * 8 + w).toNat = 8 * s + w by omega]
      simp only [jv_lit]
      rw [ttl, ← e] at a
      by_cases z : w = 0
      · rw [if_pos z] at a
        rw [if_pos (by rw [z]; rfl), nm_eq, jv_add, jv_add, jv_add]
        exact a
      · rw [if_neg z] at a
        rw [if_neg (by rw [jv_eq] <;> omega), sw_jv (by omega) (by omega), Option.bind_some, nm_eq, jv_add, jv_add, jv_add]
        exact a
    by_cases z : w = 0
    · rw [if_pos (by rw [z]; rfl), a5_in (by omega) (by omega), Option.bind_some, Int.toNat_natCast, show m + 7 + 1 = m + 8 from rfl, h8]
      rcases hw.pb hs with ⟨a, q⟩ | ⟨a, q⟩
      · have e0 : lbw R s = 0 := by unfold lbw; rw [if_neg (by omega)]
        rw [e0, if_pos (by rw [jv_le] <;> omega)]
        refine h76 _ ?_
        unfold tokW tok
        rw [if_neg (fun y => by omega), List.nil_append]
      · have e0 : lbw R s = wsum (lab R s) := by unfold lbw; rw [if_pos a]
        have p1 := wsum_pos (lab_pos R s)
        have p2 := wsum_b (lab R s)
        have p3 := lab_b hw hs
        rw [e0, if_neg (by rw [jv_le] <;> omega), sw_jv (by omega) (by omega), Option.bind_some, Option.bind_some, nm_eq, jv_add, jv_add]
        refine h76 _ ?_
        unfold tokW tok
        rw [if_pos ⟨z, a⟩, wsum_app, wsum_app, wsum_cons, wsum_nil]
        omega
    · rw [if_neg (by rw [jv_eq] <;> omega)]
      refine h76 _ ?_
      unfold tokW tok
      rw [if_neg (fun y => z y.1), List.nil_append]
abbrev PME (m : Nat) : Nat → Nat → Prop := fun k _ => m ≤ k ∧ k < m + 13
theorem me8_l (hn : 30 ≤ n) (hw : WB K R N fr) (hkm : kb + 12 < m) : ∀ (j f i : Nat) (μ : Mm), i + j = N → j < f → CB kb μ R N fr → ME m μ R i → ∃ μ1, sh_X2_measure_2 n m kb f (jv i) μ = some μ1 ∧ Fm (PME m) μ μ1 ∧ ME m μ1 R N := by
  have hN := hw.1.2.1
  intro j
  induction j with
  | zero =>
    intro f i μ hj hf hb hm
    obtain ⟨f, rfl⟩ : ∃ g, f = g + 1 := ⟨f - 1, by omega⟩
    have e : i = N := by omega
    subst e
    rw [sh_X2_measure_2, hb.2.2.1.2.1, if_pos (by rw [jv_le] <;> omega)]
    exact ⟨μ, rfl, Fm.rf, hm⟩
  | succ j ih =>
    intro f i μ hj hf hb hm
    obtain ⟨f, rfl⟩ : ∃ g, f = g + 1 := ⟨f - 1, by omega⟩
    have hs : i < N := by omega
    have hwc := (hw.sec hs).2.2.2.1
    rw [sh_X2_measure_2, hb.2.2.1.2.1, if_neg (by rw [jv_le] <;> omega)]
    obtain ⟨μ1, e1, f1, a1, a2, a3⟩ := fp8 (n := n) hn hb hm hw hs
    have hb1 := hb.fr f1 (fun q j h1 h2 z => by omega)
    have e2 := ml8 (n := n) (m := m) hn hb1 hw hs hm.1 a1 a2 (fun v hv => by rw [f1.at _ _ (by omega)]; exact (hm.2 v hv).2.2.2.1)
    have f2 : Fm (fun k j => k = m + 8 ∧ j = i) μ1 (sI μ1 (m + 8) i (jv (lbw R i))) := Fm.rf.sI ⟨rfl, rfl⟩
    have hb2 := hb1.fr f2 (fun q j h1 h2 z => by omega)
    obtain ⟨μ3, e3, f3, c1, c2⟩ := mt8_l (n := n) hn hw hs hm.1 hkm (wct R i).toNat n 0 _ (by omega) (by omega) hb2 (by rw [sI_1, if_pos ⟨rfl, rfl⟩]) (fun v hv => absurd hv (by omega))
    have hf : Fm (PME m) μ μ3 := ((f1.mono (fun k j z => (by omega : m ≤ k ∧ k < m + 13))).tr f2 (fun k j z => (by omega : m ≤ k ∧ k < m + 13))).tr f3 (fun k j z => (by omega : m ≤ k ∧ k < m + 13))
    have hb3 := hb.fr hf (fun q j h1 h2 z => by omega)
    have hm3 : ME m μ3 R (i + 1) := by
      refine ⟨hm.1, fun s hsi => ?_⟩
      by_cases z : s = i
      · subst z
        refine ⟨?_, ?_, ?_, ?_, c1, c2⟩
        · rw [f3.at _ _ (by omega), f2.at _ _ (by omega), a1]
        · rw [f3.at _ _ (by omega), f2.at _ _ (by omega), a3 _ (by omega)]
        · rw [f3.at _ _ (by omega), f2.at _ _ (by omega), a2]
        · rw [f3.at _ _ (by omega), sI_1, if_pos ⟨rfl, rfl⟩]
      · have h := hm.2 s (by omega)
        have hwc2 := (hw.sec (s := s) (by omega)).2.2.2.1
        refine ⟨?_, ?_, ?_, ?_, fun w hww => ?_, ?_⟩
        · rw [f3.at _ _ (by omega), f2.at _ _ (by omega), f1.at _ _ (by omega)]; exact h.1
        · rw [f3.at _ _ (by omega), f2.at _ _ (by omega), a3 _ (by omega)]
        · rw [f3.at _ _ (by omega), f2.at _ _ (by omega), f1.at _ _ (by omega)]; exact h.2.2.1
        · rw [f3.at _ _ (by omega), f2.at _ _ (by omega), f1.at _ _ (by omega)]; exact h.2.2.2.1
        · rw [f3.at _ _ (by omega), f2.at _ _ (by omega), f1.at _ _ (by omega)]; exact h.2.2.2.2.1 w hww
        · rw [f3.at _ _ (by omega), f2.at _ _ (by omega), f1.at _ _ (by omega)]; exact h.2.2.2.2.2
    obtain ⟨μ4, e4, f4, h4⟩ := ih f (i + 1) μ3 (by omega) (by omega) hb3 hm3
    refine ⟨μ4, ?_, hf.tr f4 (fun _ _ z => z), h4⟩
    rw [e1, Option.bind_some, e2, Option.bind_some]
    unfold sh_X2_measureTitle
    simp only [jv_lit]
    rw [show jv (ttl R i 0) = jv 0 from rfl, show jv ((0 : Nat) : Int) = jv 0 from rfl] at e3
    rw [e3, Option.bind_some, jv_add]
    exact e4
theorem me8 {μ : Mm} (hn : 30 ≤ n) (hw : WB K R N fr) (hkm : kb + 12 < m) (hb : CB kb μ R N fr) (ho : okMe m) : ∃ μ1, sh_X2_measure n m kb μ = some μ1 ∧ Fm (PME m) μ μ1 ∧ ME m μ1 R N := by
  have hN := hw.1.2.1
  unfold sh_X2_measure
  rw [jv_lit (nat_lit 0)]
  exact me8_l hn hw hkm N n 0 μ (by omega) (by omega) hb ⟨ho, fun s h => absurd h (by omega)⟩
end MEB
