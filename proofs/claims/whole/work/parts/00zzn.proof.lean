/-! A PROOF made by both: bits first -/
def rsN (P : Nat → Prop) [DecidablePred P] : Nat → Nat
  | 0 => 0
  | i + 1 => rsN P i + if P i then 2 ^ i else 0
theorem sb_un : ∀ i, i < 24 → un (sbit i) = 2 ^ i := by decide +kernel
theorem rsN_lt (P : Nat → Prop) [DecidablePred P] : ∀ i, rsN P i < 2 ^ i := by
  intro i
  induction i with
  | zero => exact Nat.le_refl _
  | succ i ih =>
    rw [rsN, Nat.pow_succ]
    split <;> omega
theorem rsI_un (P : Nat → Prop) [DecidablePred P] : ∀ (k i : Nat) (x : Int32), i + k ≤ 24 → un x = rsN P i → un (rsI P k i x) = rsN P (i + k) := by
  intro k
  induction k with
  | zero => intro i x _ h; exact h
  | succ k ih =>
    intro i x hi h
    have hl := rsN_lt P i
    rw [rsI, show i + (k + 1) = i + 1 + k by omega]
    refine ih (i + 1) _ (by omega) ?_
    rw [rsN]
    by_cases z : P i
    · rw [if_pos z, if_pos z, un_or, h, sb_un i (by omega), Nat.or_comm]
      have := Nat.two_pow_add_eq_or_of_lt hl 1
      rw [Nat.mul_one] at this
      rw [← this, Nat.add_comm]
    · rw [if_neg z, if_neg z, Nat.add_zero, h]
theorem rsI_jv (P : Nat → Prop) [DecidablePred P] {N : Nat} (hN : N ≤ 24) : rsI P N 0 0 = jv (rsN P N) ∧ rsN P N < 2 ^ N ∧ rsN P N < 16777216 := by
  have h1 := rsN_lt P N
  have h2 : (2 : Nat) ^ N ≤ 2 ^ 24 := Nat.pow_le_pow_right (by omega) hN
  have h3 : (2 : Nat) ^ 24 = 16777216 := by decide
  have h4 := rsI_un P N 0 0 (by omega) (show un (0 : Int32) = 0 by decide)
  rw [Nat.zero_add] at h4
  exact ⟨un_inj (by rw [h4, un_jv (by omega)]), h1, by omega⟩
theorem sh32 : ∀ k, k < 32 → ((jv (k : Nat) &&& 31).toBitVec.smod 32).toNat = k := by decide +kernel
theorem bit_at {u i : Nat} (hu : u < 16777216) (hi : i < 24) : ((jv u >>> (jv i &&& 31)) &&& (1 : Int32)) = jv (u / 2 ^ i % 2 : Nat) := by
  have hd : u / 2 ^ i ≤ u := Nat.div_le_self _ _
  have key : ∀ q : Nat, u / 2 ^ i = q → jv u >>> (jv i &&& 31) = jv q := by
    intro q hq
    have hq2 : q ≤ u := hq ▸ hd
    apply Int32.toInt_inj.mp
    have e1 : (jv u >>> (jv i &&& 31)).toInt = (jv u).toInt >>> i := by
      have h := sh32 i (by omega)
      generalize (jv i &&& 31) = D at *
      rw [← h]
      exact BitVec.toInt_sshiftRight ..
    rw [e1, Int.shiftRight_eq_div_pow, jv_toInt (by omega) (by omega), jv_toInt (by omega) (by omega), ← hq]
    rfl
  have e := key _ rfl
  generalize u / 2 ^ i = q at *
  rw [e, pk_and _ 1 (by decide), jv_nI]
  show jv ((un (jv q) % 2 ^ 1 : Nat) : Int) = _
  rw [un_jv (by omega)]
/-! BOOKS that differ only in what a proof keeps -/
def sameB (R R' : Nat → Int) : Prop := (∀ c, c < 10 → R' c = R c) ∧ ∀ s w, w < 102 → w ≠ 4 → w ≠ 5 → R' (12 + 102 * s + w) = R (12 + 102 * s + w)
section SMB
variable {n : Nat} {R R' : Nat → Int} {N fr : Nat} {I O : List Int}
theorem sameB.f (h : sameB R R') : (∀ s, lev R' s = lev R s) ∧ (∀ s, lng R' s = lng R s) ∧ (∀ s, prt R' s = prt R s) ∧ (∀ s, wct R' s = wct R s) ∧ ∀ s w p, w < 8 → p < 12 → lt R' s w p = lt R s w p := ⟨fun s => h.2 s 0 (by omega) (by omega) (by omega), fun s => h.2 s 1 (by omega) (by omega) (by omega), fun s => h.2 s 2 (by omega) (by omega) (by omega), fun s => h.2 s 3 (by omega) (by omega) (by omega), fun s w p hw hp => h.2 s (6 + (12 * w + p)) (by omega) (by omega) (by omega)⟩
theorem WB.same {K : Int} (hw : WB K R N fr) (h : sameB R R') : WB K R' N fr := by
  obtain ⟨g1, g2, g3, g4, g5⟩ := h.f
  obtain ⟨a0, a1, a2, a3, a4, a5, a6, a7, a8, a9, a10⟩ := hw
  refine ⟨by rw [h.1 9 (by omega)]; exact a0, by rw [h.1 0 (by omega)]; exact a1, by rw [h.1 1 (by omega)]; exact a2, by rw [h.1 2 (by omega)]; exact a3, by rw [h.1 3 (by omega)]; exact a4, by rw [h.1 4 (by omega)]; exact a5, by rw [h.1 5 (by omega)]; exact a6, by rw [h.1 6 (by omega)]; exact a7, by rw [h.1 7 (by omega)]; exact a8, by rw [h.1 8 (by omega)]; exact a9, fun j hj => ?_⟩
  obtain ⟨b1, b2, b3, b4, b5, b6⟩ := a10 j hj
  refine ⟨by rw [g3]; exact b1, by rw [g1]; exact b2, by rw [g2]; exact b3, by rw [g4]; exact b4, fun w hww => ?_, by rw [g1, g1]; exact b6⟩
  rw [g4] at hww
  obtain ⟨c1, c2⟩ := b5 w hww
  have hw8 : w < 8 := by omega
  exact ⟨okL_cg (fun p hp => g5 j w p hw8 hp) c1, by rw [g5 j w 0 hw8 (by omega)]; exact c2⟩
theorem CB.same {K : Int} {k : Nat} {μ : Mm} (hw : WB K R N fr) (hb : CB k μ R N fr) (h : sameB R R') : CB k μ R' N fr := by
  obtain ⟨g1, g2, g3, g4, g5⟩ := h.f
  refine ⟨hb.1, fun i hi => by rw [hb.2.1 i hi, h.1 i (by omega)], ⟨by rw [hb.2.2.1.1, h.1 8 (by omega)], hb.2.2.1.2⟩, fun j hj => ?_⟩
  obtain ⟨q1, q2, q3, q4⟩ := hb.2.2.2 j hj
  have hwc := (hw.sec hj).2.2.2.1
  refine ⟨by rw [q1, g1], by rw [q2, g2], by rw [q3, g4], fun w hww => ?_⟩
  rw [g4] at hww
  rw [q4 w hww]
  exact (pk_cg (fun p hp => g5 j w p (by omega) hp)).symm
/-- what is laid of the one is laid of the other -/
theorem LY.same {kb t : Nat} {μ : Mm} (hw : WB 500 R N fr) (hkt : kb + 12 < t) (hL : LY t μ R N fr) (hb : CB kb μ R N fr) (h : sameB R R') : LY t μ R' N fr := by
  have hw' := hw.same h
  have hb' := hb.same hw h
  obtain ⟨g1, g2, g3, g4, g5⟩ := h.f
  obtain ⟨μ1, e1, _, L1⟩ := layA (n := 30) (t := t) (kb := kb) (by omega) hw (by omega) hL.1 hkt hb
  obtain ⟨μ2, e2, _, L2⟩ := layA (n := 30) (t := t) (kb := kb) (by omega) hw' (by omega) hL.1 hkt hb'
  rw [e1] at e2
  obtain rfl := Option.some.inj e2
  have tr : ∀ {k j : Nat} {a b : Int32}, μ.1 k j = a → μ1.1 k j = a → μ1.1 k j = b → μ.1 k j = b := fun x y z => x.trans (y.symm.trans z)
  obtain ⟨ho, hm, hp, ht, h3, h4⟩ := hL
  obtain ⟨_, m1, p1, t1, x3, x4⟩ := L1
  obtain ⟨_, m2, p2, t2, y3, y4⟩ := L2
  have h0 := tpF_b hw (by omega)
  have h0' := tpF_b hw' (by omega)
  have hT := TB_n hw (by omega) h0 N (Nat.le_refl _)
  have hT' := TB_n hw' (by omega) h0' N (Nat.le_refl _)
  have hN := hw.1
  have eT : (TB R' (tpF R' N) N N).1 = (TB R (tpF R N) N N).1 := by
    have := (t2.2.1.1).symm.trans t1.2.1.1
    rw [jv_eq (by omega) (by omega) (by omega) (by omega)] at this
    omega
  refine ⟨ho, ⟨hm.1, fun s hs => ?_⟩, ⟨hp.1, fun s hs => ?_, tr hp.2.2.1 p1.2.2.1 p2.2.2.1, tr hp.2.2.2 p1.2.2.2 p2.2.2.2⟩, ⟨ht.1, ⟨tr ht.2.1.1 t1.2.1.1 t2.2.1.1, fun c hc i hi => ?_⟩, fun e he => ?_, tr ht.2.2.2.1 t1.2.2.2.1 t2.2.2.2.1, tr ht.2.2.2.2 t1.2.2.2.2 t2.2.2.2.2⟩, tr h3 x3 y3, tr h4 x4 y4⟩
  · obtain ⟨a1, a2, a3, a4, a5, a6⟩ := hm.2 s hs
    obtain ⟨b1, b2, b3, b4, b5, b6⟩ := m1.2 s hs
    obtain ⟨c1, c2, c3, c4, c5, c6⟩ := m2.2 s hs
    refine ⟨tr a1 b1 c1, tr a2 b2 c2, tr a3 b3 c3, tr a4 b4 c4, fun w hww => ?_, tr a6 b6 c6⟩
    have hww' := hww
    rw [g4] at hww'
    exact tr (a5 w hww') (b5 w hww') (c5 w hww)
  · obtain ⟨a1, a2, a3, a4⟩ := hp.2.1 s hs
    obtain ⟨b1, b2, b3, b4⟩ := p1.2.1 s hs
    obtain ⟨c1, c2, c3, c4⟩ := p2.2.1 s hs
    exact ⟨tr a1 b1 c1, tr a2 b2 c2, tr a3 b3 c3, tr a4 b4 c4⟩
  · have hi' := hi
    rw [eT] at hi'
    exact tr (ht.2.1.2 c hc i hi') (t1.2.1.2 c hc i hi') (t2.2.1.2 c hc i hi)
  · obtain ⟨a1, a2, a3, a4⟩ := ht.2.2.1 e he
    obtain ⟨b1, b2, b3, b4⟩ := t1.2.2.1 e he
    obtain ⟨c1, c2, c3, c4⟩ := t2.2.2.1 e he
    exact ⟨tr a1 b1 c1, tr a2 b2 c2, tr a3 b3 c3, tr a4 b4 c4⟩
/-- numbers of origin -/
theorem CB.org {k j : Nat} {v : Int32} {μ : Mm} (hb : CB k μ R N fr) : CB k (sI μ (k + 12) j v) R N fr := by
  refine ⟨hb.1, fun i hi => by rw [sI_1, if_neg (by omega)]; exact hb.2.1 i hi, ⟨?_, ?_, ?_⟩, fun s hs => ?_⟩
  · rw [sI_1, if_neg (by omega)]; exact hb.2.2.1.1
  · rw [sI_1, if_neg (by omega)]; exact hb.2.2.1.2.1
  · rw [sI_1, if_neg (by omega)]; exact hb.2.2.1.2.2
  · obtain ⟨q1, q2, q3, q4⟩ := hb.2.2.2 s hs
    exact ⟨by rw [sI_1, if_neg (by omega)]; exact q1, by rw [sI_1, if_neg (by omega)]; exact q2, by rw [sI_1, if_neg (by omega)]; exact q3, fun w hww => by rw [sI_2]; exact q4 w hww⟩
theorem kp2 (hw : WB 500 R N fr) : ∀ (k f i : Nat) (μ : Mm), i + k = N → k < f → CB 11 μ R N fr → (∀ s, s < i → μ.1 23 s = jv s) → ∃ μ1, sh_X6_keepProof_2 n 10 f (jv i) μ = some μ1 ∧ CB 11 μ1 R N fr ∧ CB 24 μ1 R N fr ∧ μ1.1 10 2 = jv 1 ∧ (∀ s, s < N → μ1.1 23 s = jv s) ∧ Fw (fun k j => k = 10 ∧ j = 2 ∨ k = 23 ∨ 24 ≤ k ∧ k ≤ 36) (fun k => k = 34) μ μ1 := by
  have hN := hw.1
  have l1 : ln (10 + 12 + 1) = 24 := rfl
  intro k
  induction k with
  | zero =>
    intro f i μ hi hf hb ho
    obtain ⟨f, rfl⟩ : ∃ g, f = g + 1 := ⟨f - 1, by omega⟩
    obtain ⟨μ1, e1, b1, _, f1⟩ := tkB (t := 24) (a := 11) (by omega) ⟨rfl, rfl, rfl, rfl, rfl, rfl⟩ hw hb
    have f2 : Fm (fun k j => k = 10 ∧ j = 2) μ1 (sI μ1 10 2 (jv 1)) := Fm.rf.sI ⟨rfl, rfl⟩
    have F : Fw (fun k j => k = 10 ∧ j = 2 ∨ k = 23 ∨ 24 ≤ k ∧ k ≤ 36) (fun k => k = 34) μ (sI μ1 10 2 (jv 1)) := (f1.mono (fun k j y => by omega) (fun k y => by omega)).tr (Fw.of (Q := fun _ => False) f2) (fun k j y => by omega) (fun _ y => y.elim)
    refine ⟨sI μ1 10 2 (jv 1), ?_, (hb.fw f1 (fun q j a b y => by omega) (fun q a b y => by omega)).fr f2 (fun q j a b y => by omega), b1.fr f2 (fun q j a b y => by omega), by rw [sI_1, if_pos ⟨rfl, rfl⟩], fun s hs => ?_, F⟩
    · rw [sh_X6_keepProof_2, hb.2.2.1.2.1, if_pos (by rw [jv_le] <;> omega), e1, Option.bind_some, jv_lit (nat_lit 1), pz_jv (Or.inr rfl)]
      rfl
    · rw [f2.at _ _ (by omega), f1.1 _ _ (by omega)]
      exact ho s (by omega)
  | succ k ih =>
    intro f i μ hi hf hb ho
    obtain ⟨f, rfl⟩ : ∃ g, f = g + 1 := ⟨f - 1, by omega⟩
    have f0 : Fm (fun k _ => k = 23) μ (sI μ 23 i (jv i)) := Fm.rf.sI rfl
    obtain ⟨μ1, e1, c1, c2, c3, c4, F⟩ := ih f (i + 1) (sI μ 23 i (jv i)) (by omega) (by omega) (CB.org (k := 11) hb) (fun s hs => by
      rw [sI_1]
      by_cases z : s = i
      · rw [if_pos ⟨rfl, z⟩, z]
      · rw [if_neg (fun q => z q.2)]
        exact ho s (by omega))
    refine ⟨μ1, ?_, c1, c2, c3, c4, (Fw.of (P := fun k j => k = 10 ∧ j = 2 ∨ k = 23 ∨ 24 ≤ k ∧ k ≤ 36) (Q := fun k => k = 34) (f0.mono (fun k j y => by omega))).tr F (fun _ _ y => y) (fun _ y => y)⟩
    rw [sh_X6_keepProof_2, hb.2.2.1.2.1, if_neg (by rw [jv_le] <;> omega), p5_in (by omega) (by omega), Option.bind_some, Int.toNat_natCast, jv_lit (nat_lit 1), jv_add, show (i : Int) + 1 = ((i + 1 : Nat) : Int) by omega]
    exact e1
/-! the model's proof -/
theorem seG {μ : Mm} (h22 : μ.2.2 0 = 307) {s w : Nat} (hs : s < 24) (hw : w < 102) (v : Int32) : sh_X12_set (jv s) (jv w) v μ = some (sI μ 307 (12 + 102 * s + w) v) := by
  have l1 : ln 307 = 18701 := rfl
  unfold sh_X12_set
  simp only [jv_lit]
  rw [jv_mul, jv_add, jv_add, h22, st_jv (by omega) (by omega), Option.bind_some, show (12 + 102 * (s : Int) + w).toNat = 12 + 102 * s + w by omega]
theorem pr23 (hn : 16001 ≤ n) (hw : WB 500 R N fr) {v x2 : Int32} : ∀ (k f i : Nat) (ν : Mm), i + k = (TB R (tpF R N) N N).1 → k < f → ML 307 ν R (tpF R N) N fr → Mx ν (lnsT R (tpF R N) N 0 i) → (∀ j, j < i → ν.1 307 (2460 + j) = jv (lnsT R (tpF R N) N 0 j).length) → ∃ ν1, sh_X12_proof_23 n f v x2 (jv i) ν = sh_X12_proof_75 n n v x2 (0 : Int32) ν1 ∧ ML 307 ν1 R (tpF R N) N fr ∧ Mx ν1 (lnsT R (tpF R N) N 0 (TB R (tpF R N) N N).1) ∧ (∀ j, j ≤ (TB R (tpF R N) N N).1 → ν1.1 307 (2460 + j) = jv (lnsT R (tpF R N) N 0 j).length) ∧ Fm (fun k j => PM2 k j ∨ k = 307 ∧ 2460 ≤ j ∧ j ≤ 2700) ν ν1 := by
  have h0 := tpF_b hw (by omega)
  have hT := TB_n hw (by omega) h0 N (Nat.le_refl _)
  have hN := hw.1
  have l1 : ln 307 = 18701 := rfl
  have htot := tab_len hw (by omega) h0 N (Nat.le_refl _)
  have kp : ∀ {ν : Mm} {j : Nat} {w : Int32}, j ≤ (TB R (tpF R N) N N).1 → ML 307 ν R (tpF R N) N fr → ML 307 (sI ν 307 (2460 + j) w) R (tpF R N) N fr ∧ Fm (fun k i => k = 307 ∧ i = 2460 + j) ν (sI ν 307 (2460 + j) w) := by
    intro ν j w hj hm
    have f0 : Fm (fun k i => k = 307 ∧ i = 2460 + j) ν (sI ν 307 (2460 + j) w) := Fm.rf.sI ⟨rfl, rfl⟩
    exact ⟨⟨hm.1.fr f0 (fun i hi y => by omega), hm.2.1.kp f0 (fun j => ⟨by omega, by omega⟩), hm.2.2.kp f0 (fun k j y => by omega)⟩, f0⟩
  have e36 : ∀ {ν : Mm}, ML 307 ν R (tpF R N) N fr → ν.1 306 36 = jv (TB R (tpF R N) N N).1 := fun hm => hm.2.2.2.1.1
  intro k
  induction k with
  | zero =>
    intro f i ν hi hf hm hx hc
    obtain ⟨f, rfl⟩ : ∃ g, f = g + 1 := ⟨f - 1, by omega⟩
    have ei : i = (TB R (tpF R N) N N).1 := by omega
    obtain ⟨m1, f0⟩ := kp (w := ν.1 306 17) (Nat.le_refl _) hm
    refine ⟨sI ν 307 (2460 + (TB R (tpF R N) N N).1) (ν.1 306 17), ?_, m1, (ei ▸ hx).kp f0 (by omega) (fun j => by omega), fun j hj => ?_, f0.mono (fun k j y => by omega)⟩
    · rw [sh_X12_proof_23, e36 hm, if_pos (by rw [jv_le] <;> omega), jv_lit (nat_lit 2460), jv_add, st_jv (by omega) (by omega), Option.bind_some, show (2460 + ((TB R (tpF R N) N N).1 : Int)).toNat = 2460 + (TB R (tpF R N) N N).1 by omega]
    · rw [sI_1]
      by_cases z : j = (TB R (tpF R N) N N).1
      · rw [if_pos ⟨rfl, by rw [z]⟩, hx.2.1, ei, z]
      · rw [if_neg (fun q => z (by omega))]
        exact hc j (by omega)
  | succ k ih =>
    intro f i ν hi hf hm hx hc
    obtain ⟨f, rfl⟩ : ∃ g, f = g + 1 := ⟨f - 1, by omega⟩
    obtain ⟨m1, f0⟩ := kp (j := i) (w := ν.1 306 17) (by omega) hm
    have hlen : (lnsT R (tpF R N) N 0 i).length ≤ 14400 := by
      have happ := lnsT_app (R := R) (tp := tpF R N) (N := N) 0 ((TB R (tpF R N) N N).1 - i) i
      rw [show i + ((TB R (tpF R N) N N).1 - i) = (TB R (tpF R N) N N).1 by omega] at happ
      rw [happ, List.length_append] at htot
      omega
    obtain ⟨μ2, e2, x2', f2⟩ := plL (n := n) hn hw (by omega) h0 (i := i) (by omega) m1 (hx.kp f0 (by omega) (fun j => by omega)) (by omega)
    have en : lnsT R (tpF R N) N 0 i ++ lnT R (tpF R N) N i = lnsT R (tpF R N) N 0 (i + 1) := by rw [lnsT, Nat.zero_add]
    rw [en] at x2'
    obtain ⟨ν1, e1, y1, y2, y3, F⟩ := ih f (i + 1) μ2 (by omega) (by omega) (m1.kp f2) x2' (fun j hj => by
      rw [f2.at _ _ (by omega), sI_1]
      by_cases z : j = i
      · rw [if_pos ⟨rfl, by rw [z]⟩, hx.2.1, z]
      · rw [if_neg (fun q => z (by omega))]
        exact hc j (by omega))
    refine ⟨ν1, ?_, y1, y2, y3, ((f0.mono (fun k j y => by omega)).tr f2 (fun k j y => Or.inl y)).tr F (fun _ _ y => y)⟩
    rw [sh_X12_proof_23, e36 hm, if_neg (by rw [jv_le] <;> omega), jv_lit (nat_lit 2460), jv_add, st_jv (by omega) (by omega), Option.bind_some, show (2460 + (i : Int)).toNat = 2460 + i by omega, e2, Option.bind_some, jv_lit (nat_lit 1), jv_add, show (i : Int) + 1 = ((i + 1 : Nat) : Int) by omega]
    exact e1
theorem pr75 {L : List Int} {v x2 : Int32} (hl : L.length ≤ 16000) : ∀ (k f i : Nat) (ν : Mm), i + k = L.length → k < f → Mx ν L → (∀ j, j < i → ν.1 307 (2701 + j) = jv (L.getD j 0)) → ∃ ν1, sh_X12_proof_75 n f v x2 (jv i) ν = sh_X12_proof_107 n n v x2 (0 : Int32) ν1 ∧ (∀ j, j < L.length → ν1.1 307 (2701 + j) = jv (L.getD j 0)) ∧ Fm (fun k j => k = 307 ∧ 2701 ≤ j) ν ν1 := by
  have l1 : ln 307 = 18701 := rfl
  have l2 : ln 310 = 16000 := rfl
  intro k
  induction k with
  | zero =>
    intro f i ν hi hf hx hc
    obtain ⟨f, rfl⟩ : ∃ g, f = g + 1 := ⟨f - 1, by omega⟩
    refine ⟨ν, ?_, fun j hj => hc j (by omega), Fm.rf⟩
    rw [sh_X12_proof_75, hx.2.1, if_pos (by rw [jv_le] <;> omega)]
  | succ k ih =>
    intro f i ν hi hf hx hc
    obtain ⟨f, rfl⟩ : ∃ g, f = g + 1 := ⟨f - 1, by omega⟩
    have f0 : Fm (fun k j => k = 307 ∧ 2701 ≤ j) ν (sI ν 307 (2701 + i) (jv (L.getD i 0))) := Fm.rf.sI ⟨rfl, by omega⟩
    obtain ⟨ν1, e1, y3, F⟩ := ih f (i + 1) (sI ν 307 (2701 + i) (jv (L.getD i 0))) (by omega) (by omega) (hx.kp f0 (by omega) (fun j => by omega)) (fun j hj => by
      rw [sI_1]
      by_cases z : j = i
      · rw [if_pos ⟨rfl, by rw [z]⟩, z]
      · rw [if_neg (fun q => z (by omega))]
        exact hc j (by omega))
    refine ⟨ν1, ?_, y3, f0.tr F (fun _ _ y => y)⟩
    rw [sh_X12_proof_75, hx.2.1, if_neg (by rw [jv_le] <;> omega), ld_jv (by omega) (by omega), Option.bind_some, Int.toNat_natCast, hx.2.2 i (by omega), jv_lit (nat_lit 2701), jv_add, st_jv (by omega) (by omega), Option.bind_some, show (2701 + (i : Int)).toNat = 2701 + i by omega, jv_lit (nat_lit 1), jv_add, show (i : Int) + 1 = ((i + 1 : Nat) : Int) by omega]
    exact e1
/-- the book as a proof leaves it -/
def prS (R : Nat → Int) (N : Nat) : Nat → Nat → Int
  | 0 => R
  | i + 1 => bup (bup (prS R N i) (frm i) (TB R (tpF R N) N i).1) (lin5 i) (((TB R (tpF R N) N (i + 1)).1 : Int) - (TB R (tpF R N) N i).1)
def prR (R : Nat → Int) (N : Nat) : Nat → Int := bup (bup (prS R N N) 10 1) 11 (TB R (tpF R N) N N).1
theorem prS_ne {c : Nat} (hc : ∀ s, c ≠ frm s ∧ c ≠ lin5 s) : ∀ i, prS R N i c = R c := by
  intro i
  induction i with
  | zero => rfl
  | succ i ih => rw [prS, bup_ne (hc i).2, bup_ne (hc i).1, ih]
theorem prS_eq {s : Nat} : ∀ i, s < i → prS R N i (frm s) = (TB R (tpF R N) N s).1 ∧ prS R N i (lin5 s) = ((TB R (tpF R N) N (s + 1)).1 : Int) - (TB R (tpF R N) N s).1 := by
  intro i
  induction i with
  | zero => intro h; omega
  | succ i ih =>
    intro h
    by_cases z : s = i
    · subst z
      rw [prS]
      exact ⟨by rw [bup_ne (show frm s ≠ lin5 s by show 12 + 102 * s + 4 ≠ 12 + 102 * s + 5; omega)]; exact if_pos rfl, if_pos rfl⟩
    · obtain ⟨h1, h2⟩ := ih (by omega)
      rw [prS]
      exact ⟨by rw [bup_ne (show frm s ≠ lin5 i by show 12 + 102 * s + 4 ≠ 12 + 102 * i + 5; omega), bup_ne (show frm s ≠ frm i by show 12 + 102 * s + 4 ≠ 12 + 102 * i + 4; omega), h1], by rw [bup_ne (show lin5 s ≠ lin5 i by show 12 + 102 * s + 5 ≠ 12 + 102 * i + 5; omega), bup_ne (show lin5 s ≠ frm i by show 12 + 102 * s + 5 ≠ 12 + 102 * i + 4; omega), h2]⟩
theorem prR_same : sameB R (prR R N) := by
  constructor
  · intro c hc
    unfold prR
    rw [bup_ne (by omega), bup_ne (by omega), prS_ne (fun s => ⟨by show c ≠ 12 + 102 * s + 4; omega, by show c ≠ 12 + 102 * s + 5; omega⟩)]
  · intro s w h1 h2 h3
    unfold prR
    rw [bup_ne (by omega), bup_ne (by omega), prS_ne (fun s' => ⟨by show 12 + 102 * s + w ≠ 12 + 102 * s' + 4; omega, by show 12 + 102 * s + w ≠ 12 + 102 * s' + 5; omega⟩)]
theorem prR_sec {s : Nat} (hs : s < N) : prR R N (frm s) = (TB R (tpF R N) N s).1 ∧ prR R N (lin5 s) = ((TB R (tpF R N) N (s + 1)).1 : Int) - (TB R (tpF R N) N s).1 := by
  obtain ⟨h1, h2⟩ := prS_eq (R := R) (N := N) (s := s) N hs
  unfold prR
  exact ⟨by rw [bup_ne (show frm s ≠ 11 by show 12 + 102 * s + 4 ≠ 11; omega), bup_ne (show frm s ≠ 10 by show 12 + 102 * s + 4 ≠ 10; omega), h1], by rw [bup_ne (show lin5 s ≠ 11 by show 12 + 102 * s + 5 ≠ 11; omega), bup_ne (show lin5 s ≠ 10 by show 12 + 102 * s + 5 ≠ 10; omega), h2]⟩
theorem prR_10 : prR R N 10 = 1 ∧ prR R N 11 = (TB R (tpF R N) N N).1 := ⟨by unfold prR; rw [bup_ne (by omega)]; exact if_pos rfl, by unfold prR; exact if_pos rfl⟩
theorem pr107 (hw : WB 500 R N fr) {u : Nat} (hu : u < 16777216) : ∀ (k f i : Nat) (ν : Mm), i + k = N → k < f → MB 307 ν (prS R N i) → MY ν R N fr → ∃ ν1, sh_X12_proof_107 n f (jv u) (jv (bsm u i : Nat)) (jv i) ν = some (jv (bsm u N : Nat), ν1) ∧ MB 307 ν1 (prR R N) ∧ Fm (fun k j => k = 307 ∧ j < 2460) ν ν1 := by
  have h0 := tpF_b hw (by omega)
  have hT := TB_n hw (by omega) h0 N (Nat.le_refl _)
  have hN := hw.1
  have l1 : ln 307 = 18701 := rfl
  have l2 : ln 324 = 24 := rfl
  have r9 : ∀ i, prS R N i 9 = (N : Int) := fun i => by rw [prS_ne (fun s => ⟨by show 9 ≠ 12 + 102 * s + 4; omega, by show 9 ≠ 12 + 102 * s + 5; omega⟩), hN.1]
  intro k
  induction k with
  | zero =>
    intro f i ν hi hf hm hy
    obtain ⟨f, rfl⟩ : ∃ g, f = g + 1 := ⟨f - 1, by omega⟩
    have ei : i = N := by omega
    subst ei
    rw [sh_X12_proof_107]
    simp only [jv_lit]
    rw [mbl9 hm, Option.bind_some, r9, if_pos (by rw [jv_le] <;> omega), st_jv (by omega) (by omega), Option.bind_some, st_jv (by omega) (by omega), Option.bind_some, show (10 : Int).toNat = 10 from rfl, show (11 : Int).toNat = 11 from rfl, sI_1, if_neg (by omega), hy.2.1.2.1.1]
    exact ⟨_, rfl, (hm.up (j := 10) (v := 1) (by omega)).up (j := 11) (by omega), (Fm.rf.sI ⟨rfl, by omega⟩).sI ⟨rfl, by omega⟩⟩
  | succ k ih =>
    intro f i ν hi hf hm hy
    obtain ⟨f, rfl⟩ : ∃ g, f = g + 1 := ⟨f - 1, by omega⟩
    have hm1 := hm.up (j := frm i) (v := (TB R (tpF R N) N i).1) (by show 12 + 102 * i + 4 < 2460; omega)
    have f1 : Fm (fun k j => k = 307 ∧ j < 2460) ν (sI ν 307 (frm i) (jv (TB R (tpF R N) N i).1)) := Fm.rf.sI ⟨rfl, by show 12 + 102 * i + 4 < 2460; omega⟩
    have hy1 := hy.kp f1 (fun k j y => by omega)
    have hm2 := hm1.up (j := lin5 i) (v := ((TB R (tpF R N) N (i + 1)).1 : Int) - (TB R (tpF R N) N i).1) (by show 12 + 102 * i + 5 < 2460; omega)
    have f2 := f1.sI (k0 := 307) (j0 := lin5 i) (v := jv (((TB R (tpF R N) N (i + 1)).1 : Int) - (TB R (tpF R N) N i).1)) ⟨rfl, by show 12 + 102 * i + 5 < 2460; omega⟩
    obtain ⟨ν1, e1, y1, F⟩ := ih f (i + 1) _ (by omega) (by omega) hm2 (hy.kp f2 (fun k j y => by omega))
    refine ⟨ν1, ?_, y1, f2.tr F (fun _ _ y => y)⟩
    have eL : sh_X12_linesOf (jv i) (sI ν 307 (frm i) (jv (TB R (tpF R N) N i).1)) = some (jv (((TB R (tpF R N) N (i + 1)).1 : Int) - (TB R (tpF R N) N i).1)) := by
      unfold sh_X12_linesOf
      simp only [jv_lit]
      have h9 : bup (prS R N i) (frm i) (TB R (tpF R N) N i).1 9 = (N : Int) := by rw [bup_ne (show 9 ≠ frm i by show 9 ≠ 12 + 102 * i + 4; omega), r9]
      rw [mbl9 hm1, Option.bind_some, h9, jv_add]
      by_cases z : i + 1 = N
      · rw [if_pos (by rw [jv_le] <;> omega), ld_jv (by omega) (by omega), Option.bind_some, Int.toNat_natCast, hy1.2.1.2.2.1 i (by omega), hy1.2.1.2.1.1, jv_sub, z]
      · rw [if_neg (by rw [jv_le] <;> omega), ld_jv (by omega) (by omega), Option.bind_some, ld_jv (by omega) (by omega), Option.bind_some, Int.toNat_natCast, hy1.2.1.2.2.1 i (by omega), show ((i : Int) + 1).toNat = i + 1 by omega, hy1.2.1.2.2.1 (i + 1) (by omega), jv_sub]
    have eb := bit_at (u := u) (i := i) hu (by omega)
    have s4 : ∀ w : Int32, sh_X12_set (jv i) (jv 4) w ν = _ := fun w => seG (w := 4) hm.2.1 (by omega) (by omega) w
    have s5 : ∀ w : Int32, sh_X12_set (jv i) (jv 5) w (sI ν 307 (frm i) (jv (TB R (tpF R N) N i).1)) = _ := fun w => seG (w := 5) hm1.2.1 (by omega) (by omega) w
    rw [sh_X12_proof_107]
    simp only [nm_eq]
    rw [eb]
    simp only [jv_lit]
    rw [mbl9 hm, Option.bind_some, r9, if_neg (by rw [jv_le] <;> omega), ld_jv (by omega) (by omega), Option.bind_some, Int.toNat_natCast, hy.2.1.2.2.1 i (by omega), s4, Option.bind_some, eL, Option.bind_some, s5, Option.bind_some, jv_add, jv_add, show ((bsm u i : Nat) : Int) + ((u / 2 ^ i % 2 : Nat) : Int) = ((bsm u (i + 1) : Nat) : Int) from rfl, show (i : Int) + 1 = ((i + 1 : Nat) : Int) by omega]
    exact e1
theorem q_proof (hn : 120000 ≤ n) {μ : Mm} (h : ST μ I O R N fr) : Qsn μ (sh_X11_proof n μ) (sh_X12_proof n) := by
  have hw := h.qs.1
  have hN := hw.1
  have h0 := tpF_b hw (by omega)
  have hT := TB_n hw (by omega) h0 N (Nat.le_refl _)
  have htot := tab_len hw (by omega) h0 N (Nat.le_refl _)
  obtain ⟨Rp, Np, frp, v, μ1, hp, ⟨μ0, e0, e1⟩, hv, f1, _, K⟩ := rdS (n := n) (by omega) h
  obtain ⟨hv1, hv2, hv3⟩ := rsI_jv (rd R N Rp Np) hN.2.1
  rw [hv1] at hv
  generalize rsN (rd R N Rp Np) N = u at *
  subst hv
  have h1 : ST μ1 I O R N fr := h.kv (Fw.of (f1.mono (fun k j y => by omega)))
  obtain ⟨hsn, hL, h22, hio, hun⟩ := id h1
  obtain ⟨uu, nx, hunr⟩ := hun
  obtain ⟨hu, hnx, h8, h7, h47, hpast⟩ := id hunr
  obtain ⟨μ2, e2, s2, a7, a8, f2⟩ := kfu (nx := nx) (u := uu) hsn hu hnx h8 h7
  have b2 : CB 11 μ2 R N fr := hsn.2.1.fw f2 (fun q j a b y => by omega) (fun q a b y => by omega)
  obtain ⟨μ3, e3, b3', b4, d3, o3, f3⟩ := kp2 (n := n) hw N n 0 μ2 (by omega) (by omega) b2 (fun s hs => absurd hs (by omega))
  have e3' : sh_X6_keepProof n 10 μ2 = some μ3 := e3
  -- the model
  have F13 : Fw (fun k j => k = 0 ∧ (j = 7 ∨ j = 8) ∨ 144 ≤ k ∧ k ≤ 305 ∨ k = 10 ∧ j = 2 ∨ k = 23 ∨ 24 ≤ k ∧ k ≤ 36) (fun k => 144 ≤ k ∧ k ≤ 305 ∨ k = 34) μ1 μ3 := (f2.mono (fun k j y => by omega) (fun k y => by omega)).tr f3 (fun k j y => by omega) (fun k y => by omega)
  have m3 : MB 307 μ3 R := h1.qs.2.2.2.fw F13 (fun i _ => by omega)
  have f4 : Fm (fun k j => k = 306 ∧ j = 0) μ3 (sI μ3 306 0 (jv 0)) := Fm.rf.sI ⟨rfl, rfl⟩
  obtain ⟨ν1, d1, u1, g1⟩ := keep2 (n := n) hn (ν := sI μ3 306 0 (jv 0)) hunr hsn e2 (fun k j q1 q2 => by rw [f4.at _ _ (by omega), f3.1 _ _ (by omega)]) (fun k j q => by rw [f4.1, f3.2.1 _ _ (by omega)]) (by rw [f4.1, f3.2.2])
  have m4 : MB 307 ν1 R := m3.r00.fr g1 (fun i _ => by omega)
  have G1 : Fm (fun k j => k = 306 ∧ (j = 0 ∨ j = 47) ∨ k = 329) μ3 ν1 := (f4.mono (fun k j y => by omega)).tr g1 (fun k j y => by omega)
  obtain ⟨ν2, d2, y2, g2, t2⟩ := K ν1 m4 (fun q => by
    obtain ⟨_, a, b⟩ := hp.2.2.1 q
    have e : ∀ i, ν1.1 307 i = μ.1 307 i := fun i => by rw [G1.at _ _ (by omega), F13.1 _ _ (by omega), f1.at _ _ (by omega)]
    exact ⟨fun k hk => by rw [e]; exact a k hk, fun j hj => by rw [e]; exact b j hj⟩)
  have m5 : MB 307 ν2 R := m4.fr g2 (fun i _ => by omega)
  have f6 : Fm PM2 ν2 (sI ν2 306 17 (jv 0)) := Fm.rf.sI (Or.inl ⟨rfl, rfl⟩)
  obtain ⟨ν3, d3', y3, x3, c3, g3⟩ := pr23 (n := n) (by omega) hw (v := jv u) (x2 := jv 0) (TB R (tpF R N) N N).1 n 0 (sI ν2 306 17 (jv 0)) (by omega) (by omega) ((show ML 307 ν2 R (tpF R N) N fr from ⟨m5, y2.1, y2.2.1⟩).kp f6) Mx0 (fun j hj => absurd hj (by omega))
  obtain ⟨ν4, d4, c4, g4⟩ := pr75 (n := n) (v := jv u) (x2 := jv 0) (L := lnsT R (tpF R N) N 0 (TB R (tpF R N) N N).1) (by omega) (lnsT R (tpF R N) N 0 (TB R (tpF R N) N N).1).length n 0 ν3 (by omega) (by omega) x3 (fun j hj => absurd hj (by omega))
  have G36 : Fm (fun k j => PM2 k j ∨ k = 307 ∧ 2460 ≤ j) ν2 ν4 := ((f6.mono (fun k j y => Or.inl y)).tr g3 (fun k j y => y.elim Or.inl (fun z => Or.inr ⟨z.1, z.2.1⟩))).tr g4 (fun k j y => by omega)
  have m6 : MB 307 ν4 R := m5.fr G36 (fun i hi y => by omega)
  have y6 : MY ν4 R N fr := y2.kp G36 (fun k j y => by omega)
  obtain ⟨ν5, d5, m7, g5⟩ := pr107 (n := n) hw hv3 N n 0 ν4 (by omega) (by omega) m6 y6
  have G15 : Fm (fun k j => k = 306 ∧ (j = 0 ∨ j = 47) ∨ k = 329 ∨ k = 307 ∨ PQ k j) μ3 ν5 := (((G1.mono (fun k j y => by omega)).tr g2 (fun k j y => Or.inr (Or.inr (Or.inr y)))).tr G36 (fun k j y => by omega)).tr g5 (fun k j y => by omega)
  have ebs : bsm u 24 = bsm u N := by
    have := bsm_hi (u := u) (N := N) hv2 (24 - N)
    rw [show N + (24 - N) = 24 by omega] at this
    exact this
  have hsame : sameB R (prR R N) := prR_same
  have b5 : CB 11 ν5 R N fr := b3'.fr G15 (fun q j a b y => by omega)
  have b6 : CB 24 ν5 R N fr := b4.fr G15 (fun q j a b y => by omega)
  have L5 : LY 38 ν5 R N fr := (hL.fw F13 (fun q j a b y => by omega)).kp G15 (fun q j a b y => by omega)
  have FF : Fw (fun k j => (k = 0 ∧ (j = 7 ∨ j = 8) ∨ 144 ≤ k ∧ k ≤ 305 ∨ k = 10 ∧ j = 2 ∨ k = 23 ∨ 24 ≤ k ∧ k ≤ 36) ∨ k = 306 ∧ (j = 0 ∨ j = 47) ∨ k = 329 ∨ k = 307 ∨ PQ k j) (fun k => 144 ≤ k ∧ k ≤ 305 ∨ k = 34) μ1 ν5 := (F13.mono (fun k j y => Or.inl y) (fun _ y => y)).tr (Fw.of (Q := fun _ => False) G15) (fun k j y => Or.inr y) (fun _ y => y.elim)
  refine ⟨jv (bsm u N : Nat), μ3, ν5, I, O, prR R N, N, fr, ?_, ?_, ⟨hw.same hsame, b5.same hw hsame, m7.2.2, ⟨?_, Or.inr prR_10.1⟩, R, N, fr, hw, b6, fun _ => ⟨prR_10.2, fun k hk => ?_, fun i hi => ?_⟩, fun s hs => Or.inr ⟨prR_10.1, s, hs, ?_, (prR_sec hs).1, (prR_sec hs).2⟩⟩, L5.same (kb := 11) hw (by omega) b5 hsame, ?_, hio.fw FF (fun k j y => by omega), u1.fw (Fw.of (P := fun k j => k = 307 ∨ PQ k j) (Q := fun _ => False) (((g2.mono (fun k j y => Or.inr y)).tr G36 (fun k j y => by omega)).tr g5 (fun k j y => by omega))) (fun k j y => by omega) (fun _ y => y.elim)⟩
  · unfold sh_X11_proof
    rw [e0, Option.bind_some, e1, Option.bind_some, bcnt hv3, Option.bind_some, e2, Option.bind_some, e3', Option.bind_some, ebs]
  · unfold sh_X12_proof
    simp only [jv_lit, nm_eq]
    rw [pt_eq, Option.bind_some, d1, Option.bind_some, d2, Option.bind_some, pt_eq, Option.bind_some]
    have d3'' : sh_X12_proof_23 n n (jv u) (jv 0) (jv 0) (sI ν2 306 17 (jv 0)) = _ := d3'
    rw [d3'']
    have d4'' : sh_X12_proof_75 n n (jv u) (jv 0) (0 : Int32) ν3 = _ := d4
    rw [d4'']
    exact d5
  · rw [G15.at _ _ (by omega), d3, prR_10.1]
  · rw [g5.at _ _ (by omega), g4.at _ _ (by omega)]
    exact c3 k hk
  · rw [g5.at _ _ (by omega)]
    exact c4 i hi
  · rw [G15.at _ _ (by omega)]
    exact o3 s hs
  · rw [FF.2.2]
    exact h22
end SMB
