/-! BOOKS copied by the class -/
theorem t5 {t a l : Nat} (h1 : ln (t + 1) = l) (h2 : ln (a + 1) = l) {μ : Mm} : ∃ μ1, sh_X5_take t a μ = some μ1 ∧ (∀ i, i < l → μ1.1 (t + 1) i = μ.1 (a + 1) i) ∧ Fm (fun k _ => k = t + 1) μ μ1 := by
  have hl := ln_lt (t + 1)
  unfold sh_X5_take
  have ec : cp μ (a + 1) (0 : Int32) (t + 1) (0 : Int32) (if (nI (ln (a + 1))) < (nI (ln (t + 1))) then (nI (ln (a + 1))) else (nI (ln (t + 1)))) = some (cpI μ (a + 1) 0 (t + 1) 0 l) := by
    have e0 : ix (0 : Int32) = 0 := by decide
    rw [h1, h2, ite_self]
    unfold cp
    rw [jv_nI, jv_ix (by omega) (by omega), e0, Int.toNat_natCast, if_pos ⟨by decide, by decide, by rw [jv_lit (nat_lit 0), jv_lt] <;> omega, by omega, by omega⟩]
  rw [ec, Option.bind_some]
  refine ⟨_, rfl, fun i hi => ?_, rfl, fun k j hk => ?_⟩
  · show (if t + 1 = t + 1 ∧ 0 ≤ i ∧ i < 0 + l then μ.1 (a + 1) (0 + (i - 0)) else μ.1 (t + 1) i) = _
    rw [if_pos ⟨rfl, by omega, by omega⟩, show 0 + (i - 0) = i by omega]
  · show (if k = t + 1 ∧ _ then _ else _) = _
    rw [if_neg (fun q => hk q.1)]
theorem t9 {t a l : Nat} (h1 : ln (t + 1) = l) (h2 : ln (a + 1) = l) {μ : Mm} : ∃ μ1, sh_X9_take t a μ = some μ1 ∧ (∀ i, i < l → μ1.2.1 (t + 1) i = μ.2.1 (a + 1) i) ∧ Fw (fun _ _ => False) (fun k => k = t + 1) μ μ1 := by
  have hl := ln_lt (t + 1)
  unfold sh_X9_take
  have ec : cpL μ (a + 1) (0 : Int32) (t + 1) (0 : Int32) (if (nI (ln (a + 1))) < (nI (ln (t + 1))) then (nI (ln (a + 1))) else (nI (ln (t + 1)))) = some (cpJ μ (a + 1) 0 (t + 1) 0 l) := by
    have e0 : ix (0 : Int32) = 0 := by decide
    rw [h1, h2, ite_self]
    unfold cpL
    rw [jv_nI, jv_ix (by omega) (by omega), e0, Int.toNat_natCast, if_pos ⟨by decide, by decide, by rw [jv_lit (nat_lit 0), jv_lt] <;> omega, by omega, by omega⟩]
  rw [ec, Option.bind_some]
  refine ⟨_, rfl, fun i hi => ?_, fun k j _ => rfl, fun k j hk => ?_, rfl⟩
  · show (if t + 1 = t + 1 ∧ 0 ≤ i ∧ i < 0 + l then μ.2.1 (a + 1) (0 + (i - 0)) else μ.2.1 (t + 1) i) = _
    rw [if_pos ⟨rfl, by omega, by omega⟩, show 0 + (i - 0) = i by omega]
  · show (if k = t + 1 ∧ _ then _ else _) = _
    rw [if_neg (fun q => hk q.1)]
section TKB
variable {n : Nat} {R : Nat → Int} {N fr : Nat} {K : Int}
theorem tkB {t a : Nat} (hd : a + 12 < t ∨ t + 12 < a) (ot : okB t) {μ : Mm} (hw : WB K R N fr) (hb : CB a μ R N fr) : ∃ μ1, sh_X0_take t a μ = some μ1 ∧ CB t μ1 R N fr ∧ (∀ i, i < 24 → μ1.1 (t + 12) i = μ.1 (a + 12) i) ∧ Fw (fun k _ => t ≤ k ∧ k ≤ t + 12) (fun k => k = t + 10) μ μ1 := by
  have oa := hb.1
  have hN := hw.1
  have h8 := hw.2.2.2.2.2.2.2.2.2.1
  obtain ⟨o1, o2, o3, o4, o5, o6⟩ := ot
  obtain ⟨p1, p2, p3, p4, p5, p6⟩ := oa
  obtain ⟨hs, ⟨c1, c2, c3⟩, hsec⟩ := hb.2
  unfold sh_X0_take
  obtain ⟨μ1, e1, v1, f1⟩ := t5 (t := t + 1) (a := a + 1) (l := 8) o1 p1 (μ := μ)
  rw [e1, Option.bind_some, f1.at _ _ (by omega), c1, pz_jv h8, Option.bind_some, pt_eq, Option.bind_some, pt_eq, Option.bind_some]
  have g2 : Fm (fun k j => k = t ∧ 1 ≤ j ∧ j ≤ 3) μ1 (sI (sI (sI μ1 t 1 (jv (R 8))) t 2 ((sI μ1 t 1 (jv (R 8))).1 a 2)) t 3 ((sI (sI μ1 t 1 (jv (R 8))) t 2 ((sI μ1 t 1 (jv (R 8))).1 a 2)).1 a 3)) := ((Fm.rf.sI (by omega)).sI (by omega)).sI (by omega)
  have w1 : (sI (sI (sI μ1 t 1 (jv (R 8))) t 2 ((sI μ1 t 1 (jv (R 8))).1 a 2)) t 3 ((sI (sI μ1 t 1 (jv (R 8))) t 2 ((sI μ1 t 1 (jv (R 8))).1 a 2)).1 a 3)).1 t 1 = jv (R 8) := by rw [sI_1, if_neg (by omega), sI_1, if_neg (by omega), sI_1, if_pos ⟨rfl, rfl⟩]
  have w2 : (sI (sI (sI μ1 t 1 (jv (R 8))) t 2 ((sI μ1 t 1 (jv (R 8))).1 a 2)) t 3 ((sI (sI μ1 t 1 (jv (R 8))) t 2 ((sI μ1 t 1 (jv (R 8))).1 a 2)).1 a 3)).1 t 2 = jv N := by rw [sI_1, if_neg (by omega), sI_1, if_pos ⟨rfl, rfl⟩, sI_1, if_neg (by omega), f1.at _ _ (by omega), c2]
  have w3 : (sI (sI (sI μ1 t 1 (jv (R 8))) t 2 ((sI μ1 t 1 (jv (R 8))).1 a 2)) t 3 ((sI (sI μ1 t 1 (jv (R 8))) t 2 ((sI μ1 t 1 (jv (R 8))).1 a 2)).1 a 3)).1 t 3 = jv fr := by rw [sI_1, if_pos ⟨rfl, rfl⟩, sI_1, if_neg (by omega), sI_1, if_neg (by omega), f1.at _ _ (by omega), c3]
  generalize (sI (sI (sI μ1 t 1 (jv (R 8))) t 2 ((sI μ1 t 1 (jv (R 8))).1 a 2)) t 3 ((sI (sI μ1 t 1 (jv (R 8))) t 2 ((sI μ1 t 1 (jv (R 8))).1 a 2)).1 a 3)) = μ2 at *
  obtain ⟨μ3, e3, v3, f3⟩ := t5 (t := t + 3) (a := a + 3) (l := 24) o2 p2 (μ := μ2)
  obtain ⟨μ4, e4, v4, f4⟩ := t5 (t := t + 5) (a := a + 5) (l := 24) o3 p3 (μ := μ3)
  obtain ⟨μ5, e5, v5, f5⟩ := t5 (t := t + 7) (a := a + 7) (l := 24) o4 p4 (μ := μ4)
  obtain ⟨μ6, e6, v6, f6⟩ := t9 (t := t + 9) (a := a + 9) (l := 192) o5 p5 (μ := μ5)
  obtain ⟨μ7, e7, v7, f7⟩ := t5 (t := t + 11) (a := a + 11) (l := 24) o6 p6 (μ := μ6)
  rw [e3, Option.bind_some, e4, Option.bind_some, e5, Option.bind_some, e6, Option.bind_some, e7, Option.bind_some]
  have s2 : ∀ k j, (k < t ∨ t + 12 < k) → μ2.1 k j = μ.1 k j := fun k j q => by rw [g2.at _ _ (by omega), f1.at _ _ (by omega)]
  have s6 : ∀ k j, k ≠ t + 12 → μ7.1 k j = μ5.1 k j := fun k j q => by rw [f7.at _ _ (by omega), f6.1 _ _ (fun y => y)]
  have J6 : μ5.2 = μ.2 := by rw [f5.1, f4.1, f3.1, g2.1, f1.1]
  refine ⟨μ7, rfl, ⟨⟨o1, o2, o3, o4, o5, o6⟩, fun i hi => ?_, ⟨?_, ?_, ?_⟩, fun s hs2 => ?_⟩, fun i hi => ?_, fun k j q => ?_, fun k j q => ?_, ?_⟩
  · rw [s6 _ _ (by omega), f5.at _ _ (by omega), f4.at _ _ (by omega), f3.at _ _ (by omega), g2.at _ _ (by omega)]
    exact (v1 i hi).trans (hs i hi)
  · rw [s6 _ _ (by omega), f5.at _ _ (by omega), f4.at _ _ (by omega), f3.at _ _ (by omega), w1]
  · rw [s6 _ _ (by omega), f5.at _ _ (by omega), f4.at _ _ (by omega), f3.at _ _ (by omega), w2]
  · rw [s6 _ _ (by omega), f5.at _ _ (by omega), f4.at _ _ (by omega), f3.at _ _ (by omega), w3]
  · obtain ⟨q1, q2, q3, q4⟩ := hsec s hs2
    have hwc := (hw.sec hs2).2.2.2.1
    refine ⟨?_, ?_, ?_, fun w hww => ?_⟩
    · rw [s6 _ _ (by omega), f5.at _ _ (by omega), f4.at _ _ (by omega)]
      exact (v3 s (by omega)).trans ((s2 _ _ (by omega)).trans q1)
    · rw [s6 _ _ (by omega), f5.at _ _ (by omega)]
      refine (v4 s (by omega)).trans ?_
      rw [f3.at _ _ (by omega), s2 _ _ (by omega)]
      exact q2
    · rw [s6 _ _ (by omega)]
      refine (v5 s (by omega)).trans ?_
      rw [f4.at _ _ (by omega), f3.at _ _ (by omega), s2 _ _ (by omega)]
      exact q3
    · rw [f7.1]
      refine (v6 _ (by omega)).trans ?_
      rw [J6]
      exact q4 w hww
  · refine (v7 i hi).trans ?_
    rw [f6.1 _ _ (fun y => y), f5.at _ _ (by omega), f4.at _ _ (by omega), f3.at _ _ (by omega), s2 _ _ (by omega)]
  · rw [s6 _ _ (by omega), f5.at _ _ (by omega), f4.at _ _ (by omega), f3.at _ _ (by omega), s2 _ _ (by omega)]
  · rw [f7.1, f6.2.1 _ _ (by omega), J6]
  · rw [f7.1, f6.2.2, J6]
end TKB
/-! a book with another width, or another length of one section -/
def bup (R : Nat → Int) (i : Nat) (v : Int) : Nat → Int := fun j => if j = i then v else R j
/-- where a book says only how wide, or how long sections are -/
abbrev isL (i : Nat) : Prop := i = 0 ∨ ∃ s, i = 12 + 102 * s + 1
section UPD
variable {n : Nat} {R : Nat → Int} {N fr : Nat} {K : Int} {i : Nat} {v : Int}
theorem bup_ne {j : Nat} (h : j ≠ i) : bup R i v j = R j := if_neg h
theorem bup_lev (h : isL i) (s : Nat) : lev (bup R i v) s = lev R s := by
  refine bup_ne ?_
  rcases h with rfl | ⟨s', rfl⟩ <;> omega
theorem bup_prt (h : isL i) (s : Nat) : prt (bup R i v) s = prt R s := by
  refine bup_ne ?_
  rcases h with rfl | ⟨s', rfl⟩ <;> omega
theorem bup_wct (h : isL i) (s : Nat) : wct (bup R i v) s = wct R s := by
  refine bup_ne ?_
  rcases h with rfl | ⟨s', rfl⟩ <;> omega
theorem bup_lt (h : isL i) {s w : Nat} (hw : w < 8) {p : Nat} (hp : p < 12) : lt (bup R i v) s w p = lt R s w p := by
  refine bup_ne ?_
  rcases h with rfl | ⟨s', rfl⟩
  · omega
  · rcases Nat.lt_trichotomy s s' with q | q | q <;> omega
theorem bup_prG (h : isL i) (s : Nat) : ∀ k, prG (bup R i v) s k = prG R s k := by
  intro k
  induction k with
  | zero => rfl
  | succ k ih => rw [prG, prG, bup_prt h, bup_prt h, bup_lev h, bup_lev h, ih]
theorem bup_pr (h : isL i) (s : Nat) : pr (bup R i v) s = pr R s := bup_prG h s s
theorem bup_odG (h : isL i) (s : Nat) : ∀ k, odG (bup R i v) s k = odG R s k := by
  intro k
  induction k with
  | zero => rfl
  | succ k ih => rw [odG, odG, bup_prt h, bup_prt h, bup_pr h, bup_pr h, ih]
theorem bup_od (h : isL i) (s : Nat) : od (bup R i v) s = od R s := bup_odG h s s
theorem bup_labF (h : isL i) : ∀ f s, labF (bup R i v) f s = labF R f s := by
  intro f
  induction f with
  | zero => intro s; rfl
  | succ f ih => intro s; rw [labF, labF, bup_pr h, bup_od h, ih]
theorem bup_lab (h : isL i) (s : Nat) : lab (bup R i v) s = lab R s := bup_labF h _ s
theorem bup_ch (h : isL i) (s : Nat) : ∀ k, ch (bup R i v) s k = ch R s k := by
  intro k
  induction k with
  | zero => rfl
  | succ k ih => rw [ch, ch, bup_pr h, ih]
theorem lwF_cg {l m : Nat → Int} (he : ∀ p, p < 12 → l p = m p) : ∀ f p, p + f ≤ 12 → lwF l f p = lwF m f p := by
  intro f
  induction f with
  | zero => intro p _; rfl
  | succ f ih => intro p hp; rw [lwF, lwF, he p (by omega), ih (p + 1) (by omega)]
theorem lw_cg {l m : Nat → Int} (he : ∀ p, p < 12 → l p = m p) : lw l = lw m := lwF_cg he 12 0 (by omega)
theorem bup_tok (h : isL i) {s w : Nat} (hw : w < 8) : tok (bup R i v) s w = tok R s w := by
  unfold tok
  rw [bup_prt h, bup_lab h, lw_cg (fun p hp => bup_lt h hw hp)]
theorem bup_tokW (h : isL i) {s w : Nat} (hw : w < 8) : tokW (bup R i v) s w = tokW R s w := by
  unfold tokW
  rw [bup_tok h hw]
theorem bup_ttl (h : isL i) {s : Nat} : ∀ w, w ≤ 8 → ttl (bup R i v) s w = ttl R s w := by
  intro w
  induction w with
  | zero => intro _; rfl
  | succ w ih => intro hw; rw [ttl, ttl, ih (by omega), bup_tokW h (by omega)]
theorem ME.up {m : Nat} {μ : Mm} (hw : WB K R N fr) (h : isL i) (hm : ME m μ R N) : ME m μ (bup R i v) N := by
  refine ⟨hm.1, fun s hs => ?_⟩
  obtain ⟨a1, a2, a3, a4, a5, a6⟩ := hm.2 s hs
  have hwc := (hw.sec hs).2.2.2.1
  refine ⟨by rw [bup_pr h]; exact a1, by rw [bup_ch h]; exact a2, by rw [bup_od h]; exact a3, ?_, fun w hww => ?_, ?_⟩
  · unfold lbw
    rw [bup_prt h, bup_lab h]
    exact a4
  · rw [bup_wct h] at hww
    rw [bup_tokW h (by omega)]
    exact a5 w hww
  · unfold ttw
    rw [bup_wct h, bup_ttl h _ (by omega)]
    exact a6
theorem pk_cg {l m : Nat → Int} (he : ∀ p, p < 12 → l p = m p) : pk l = pk m := by
  unfold pk pkn
  rw [he 0 (by omega), he 1 (by omega), he 2 (by omega), he 3 (by omega), he 4 (by omega), he 5 (by omega), he 6 (by omega), he 7 (by omega), he 8 (by omega), he 9 (by omega), he 10 (by omega), he 11 (by omega)]
theorem okL_cg {l m : Nat → Int} (he : ∀ p, p < 12 → l p = m p) (h : okL m) : okL l := fun p hp => by rw [he p hp]; exact h p hp
/-- another length -/
theorem WB.len (hw : WB K R N fr) {s : Nat} {K2 : Int} (hK : K ≤ K2) (hv : 0 ≤ v ∧ v ≤ K2) : WB K2 (bup R (12 + 102 * s + 1) v) N fr := by
  have h : isL (12 + 102 * s + 1) := Or.inr ⟨s, rfl⟩
  have e : ∀ j, j < 12 → bup R (12 + 102 * s + 1) v j = R j := fun j hj => bup_ne (by omega)
  obtain ⟨a0, a1, a2, a3, a4, a5, a6, a7, a8, a9, a10⟩ := hw
  refine ⟨by rw [e 9 (by omega)]; exact a0, by rw [e 0 (by omega)]; exact a1, by rw [e 1 (by omega)]; exact a2, by rw [e 2 (by omega)]; exact a3, by rw [e 3 (by omega)]; exact a4, by rw [e 4 (by omega)]; exact a5, by rw [e 5 (by omega)]; exact a6, by rw [e 6 (by omega)]; exact a7, by rw [e 7 (by omega)]; exact a8, by rw [e 8 (by omega)]; exact a9, fun j hj => ?_⟩
  obtain ⟨b1, b2, b3, b4, b5, b6⟩ := a10 j hj
  refine ⟨by rw [bup_prt h]; exact b1, by rw [bup_lev h]; exact b2, ?_, by rw [bup_wct h]; exact b4, fun w hww => ?_, by rw [bup_lev h, bup_lev h]; exact b6⟩
  · have e1 : lng (bup R (12 + 102 * s + 1) v) j = if 12 + 102 * j + 1 = 12 + 102 * s + 1 then v else R (12 + 102 * j + 1) := rfl
    rw [e1]
    by_cases z : 12 + 102 * j + 1 = 12 + 102 * s + 1
    · rw [if_pos z]
      exact hv
    · rw [if_neg z]
      exact ⟨b3.1, Int.le_trans b3.2 hK⟩
  · rw [bup_wct h] at hww
    obtain ⟨c1, c2⟩ := b5 w hww
    have hw8 : w < 8 := by omega
    exact ⟨okL_cg (fun p hp => bup_lt h hw8 hp) c1, by rw [bup_lt h hw8 (by omega)]; exact c2⟩
/-- another width -/
theorem WB.wid (hw : WB K R N fr) (hv : 20 ≤ v ∧ v ≤ 120) : WB K (bup R 0 v) N fr := by
  have h : isL 0 := Or.inl rfl
  have e : ∀ j, j ≠ 0 → bup R 0 v j = R j := fun j hj => bup_ne hj
  obtain ⟨a0, a1, a2, a3, a4, a5, a6, a7, a8, a9, a10⟩ := hw
  refine ⟨by rw [e 9 (by omega)]; exact a0, by rw [show bup R 0 v 0 = v from if_pos rfl]; exact hv, by rw [e 1 (by omega)]; exact a2, by rw [e 2 (by omega)]; exact a3, by rw [e 3 (by omega)]; exact a4, by rw [e 4 (by omega)]; exact a5, by rw [e 5 (by omega)]; exact a6, by rw [e 6 (by omega)]; exact a7, by rw [e 7 (by omega)]; exact a8, by rw [e 8 (by omega)]; exact a9, fun j hj => ?_⟩
  obtain ⟨b1, b2, b3, b4, b5, b6⟩ := a10 j hj
  refine ⟨by rw [bup_prt h]; exact b1, by rw [bup_lev h]; exact b2, ?_, by rw [bup_wct h]; exact b4, fun w hww => ?_, by rw [bup_lev h, bup_lev h]; exact b6⟩
  · have e1 : lng (bup R 0 v) j = lng R j := by
      show bup R 0 v (12 + 102 * j + 1) = R (12 + 102 * j + 1)
      exact bup_ne (by omega)
    rw [e1]
    exact b3
  · rw [bup_wct h] at hww
    obtain ⟨c1, c2⟩ := b5 w hww
    have hw8 : w < 8 := by omega
    exact ⟨okL_cg (fun p hp => bup_lt h hw8 hp) c1, by rw [bup_lt h hw8 (by omega)]; exact c2⟩
theorem CB.len {k : Nat} {μ : Mm} (hw : WB K R N fr) (hb : CB k μ R N fr) {s : Nat} (hs : s < N) : ∃ μ1, sh_X5_put (k + 5) (jv s) (jv v) μ = some μ1 ∧ CB k μ1 (bup R (12 + 102 * s + 1) v) N fr ∧ Fm (fun q _ => q = k + 6) μ μ1 := by
  have h : isL (12 + 102 * s + 1) := Or.inr ⟨s, rfl⟩
  have hN := hw.1
  have o2 : ln (k + 5 + 1) = 24 := hb.1.2.2.1
  refine ⟨_, p5_in (by omega) (by omega), ⟨hb.1, fun i hi => ?_, ⟨?_, ?_, ?_⟩, fun j hj => ?_⟩, Fm.rf.sI rfl⟩
  · rw [sI_1, if_neg (by omega), hb.2.1 i hi, bup_ne (by omega)]
  · rw [sI_1, if_neg (by omega), hb.2.2.1.1, bup_ne (by omega)]
  · rw [sI_1, if_neg (by omega), hb.2.2.1.2.1]
  · rw [sI_1, if_neg (by omega), hb.2.2.1.2.2]
  · obtain ⟨q1, q2, q3, q4⟩ := hb.2.2.2 j hj
    have hwc := (hw.sec hj).2.2.2.1
    refine ⟨by rw [sI_1, if_neg (by omega), q1, bup_lev h], ?_, by rw [sI_1, if_neg (by omega), q3, bup_wct h], fun w hww => ?_⟩
    · rw [sI_1, Int.toNat_natCast]
      by_cases z : j = s
      · rw [if_pos ⟨rfl, z⟩, z]
        congr 1
        exact (if_pos rfl).symm
      · rw [if_neg (fun q => z q.2), q2]
        congr 1
        exact (if_neg (by omega)).symm
    · rw [bup_wct h] at hww
      rw [sI_2, q4 w hww]
      exact (pk_cg (fun p hp => bup_lt h (by omega) hp)).symm
theorem CB.wid {k : Nat} {μ : Mm} (hw : WB K R N fr) (hb : CB k μ R N fr) : ∃ μ1, sh_X5_put (k + 1) (jv 0) (jv v) μ = some μ1 ∧ CB k μ1 (bup R 0 v) N fr ∧ Fm (fun q _ => q = k + 2) μ μ1 := by
  have h : isL 0 := Or.inl rfl
  have o1 : ln (k + 1 + 1) = 8 := hb.1.1
  refine ⟨_, p5_in (by omega) (by omega), ⟨hb.1, fun i hi => ?_, ⟨?_, ?_, ?_⟩, fun j hj => ?_⟩, Fm.rf.sI rfl⟩
  · rw [sI_1]
    by_cases z : i = 0
    · rw [if_pos ⟨rfl, z⟩, z]
      rfl
    · rw [if_neg (fun q => z q.2), hb.2.1 i hi, bup_ne z]
  · rw [sI_1, if_neg (by omega), hb.2.2.1.1, bup_ne (by omega)]
  · rw [sI_1, if_neg (by omega), hb.2.2.1.2.1]
  · rw [sI_1, if_neg (by omega), hb.2.2.1.2.2]
  · obtain ⟨q1, q2, q3, q4⟩ := hb.2.2.2 j hj
    have hwc := (hw.sec hj).2.2.2.1
    refine ⟨by rw [sI_1, if_neg (by omega), q1, bup_lev h], ?_, by rw [sI_1, if_neg (by omega), q3, bup_wct h], fun w hww => ?_⟩
    · rw [sI_1, if_neg (by omega), q2]
      congr 1
    · rw [bup_wct h] at hww
      rw [sI_2, q4 w hww]
      exact (pk_cg (fun p hp => bup_lt h (by omega) hp)).symm
theorem MB.up {q : Nat} {μ : Mm} (hm : MB q μ R) {j : Nat} (hj : j < 2460) : MB q (sI μ q j (jv v)) (bup R j v) := by
  refine ⟨hm.1, hm.2.1, fun i hi => ?_⟩
  rw [sI_1]
  by_cases z : i = j
  · rw [if_pos ⟨rfl, z⟩]
    congr 1
    exact (if_pos z).symm
  · rw [if_neg (fun q => z q.2), hm.2.2 i hi]
    congr 1
    exact (if_neg z).symm
theorem bup_bup (w : Int) : bup (bup R i v) i w = bup R i w := by
  funext j
  unfold bup
  split
  · rfl
  · rfl
theorem bup_own : bup R i (R i) = R := by
  funext j
  unfold bup
  split
  · rename_i h; rw [h]
  · rfl
end UPD
