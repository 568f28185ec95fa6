/-! THE DIFFERENT WORDS gathered by the class -/
def Fw (P : Nat → Nat → Prop) (Q : Nat → Prop) (μ μ' : Mm) : Prop := (∀ k j, ¬ P k j → μ'.1 k j = μ.1 k j) ∧ (∀ k j, ¬ Q k → μ'.2.1 k j = μ.2.1 k j) ∧ μ'.2.2 = μ.2.2
theorem Fw.rf {P : Nat → Nat → Prop} {Q : Nat → Prop} {μ : Mm} : Fw P Q μ μ := ⟨fun _ _ _ => rfl, fun _ _ _ => rfl, rfl⟩
theorem Fw.tr {P P2 : Nat → Nat → Prop} {Q Q2 : Nat → Prop} {μ μ1 μ2 : Mm} (h : Fw P Q μ μ1) (h2 : Fw P2 Q2 μ1 μ2) (hp : ∀ k j, P2 k j → P k j) (hq : ∀ k, Q2 k → Q k) : Fw P Q μ μ2 := ⟨fun k j n => (h2.1 k j (fun q => n (hp k j q))).trans (h.1 k j n), fun k j n => (h2.2.1 k j (fun q => n (hq k q))).trans (h.2.1 k j n), h2.2.2.trans h.2.2⟩
theorem Fw.of {P : Nat → Nat → Prop} {Q : Nat → Prop} {μ μ1 : Mm} (h : Fm P μ μ1) : Fw P Q μ μ1 := ⟨h.2, fun k j _ => by rw [h.1], by rw [h.1]⟩
theorem Fw.mono {P P2 : Nat → Nat → Prop} {Q Q2 : Nat → Prop} {μ μ1 : Mm} (h : Fw P2 Q2 μ μ1) (hp : ∀ k j, P2 k j → P k j) (hq : ∀ k, Q2 k → Q k) : Fw P Q μ μ1 := ⟨fun k j n => h.1 k j (fun q => n (hp k j q)), fun k j n => h.2.1 k j (fun q => n (hq k q)), h.2.2⟩
theorem Fw.fm {P : Nat → Nat → Prop} {Q : Nat → Prop} {μ μ1 : Mm} (h : Fw P Q μ μ1) : Fm P μ (μ1.1, μ.2) := ⟨rfl, h.1⟩
section GTH
variable {n : Nat} {R : Nat → Int} {N fr : Nat}
theorem CB.fw {k : Nat} {μ μ' : Mm} {P : Nat → Nat → Prop} {Q : Nat → Prop} (h : CB k μ R N fr) (hf : Fw P Q μ μ') (hp : ∀ q j, k ≤ q → q ≤ k + 12 → ¬ P q j) (hq : ∀ q, k ≤ q → q ≤ k + 12 → ¬ Q q) : CB k μ' R N fr := by
  have h1 : CB k (μ'.1, μ.2) R N fr := h.fr hf.fm hp
  refine ⟨h1.1, h1.2.1, h1.2.2.1, fun s hs => ⟨(h1.2.2.2 s hs).1, (h1.2.2.2 s hs).2.1, (h1.2.2.2 s hs).2.2.1, fun w hw => ?_⟩⟩
  rw [hf.2.1 _ _ (hq _ (by omega) (by omega))]
  exact (h1.2.2.2 s hs).2.2.2 w hw
theorem LY.fw {t : Nat} {μ μ' : Mm} {P : Nat → Nat → Prop} {Q : Nat → Prop} (h : LY t μ R N fr) (hf : Fw P Q μ μ') (hp : ∀ q j, t ≤ q → q < t + 42 → ¬ P q j) : LY t μ' R N fr := (h.kp hf.fm hp : LY t (μ'.1, μ.2) R N fr)
theorem MB.fw {q : Nat} {μ μ' : Mm} {P : Nat → Nat → Prop} {Q : Nat → Prop} (h : MB q μ R) (hf : Fw P Q μ μ') (hp : ∀ i, i < 2460 → ¬ P q i) : MB q μ' R := ⟨h.1, by rw [hf.2.2]; exact h.2.1, fun i hi => by rw [hf.1 q i (hp i hi)]; exact h.2.2 i hi⟩
/-- the class's words: L from W -/
def GC (μ : Mm) (R : Nat → Int) (W : List Nat) : Prop := μ.1 80 2 = jv (Lk R W).length ∧ ∀ i, i < (Lk R W).length → μ.2.1 82 i = lN (kc R ((Lk R W).getD i 0)) ∧ μ.1 84 i = sb R W (kc R ((Lk R W).getD i 0))
abbrev PGC : Nat → Nat → Prop := fun k _ => k = 80 ∨ k = 84
abbrev QGC : Nat → Prop := fun k => k = 82
theorem mv9 {μ : Mm} {p l : Nat} (hp : p ≤ l) (hl : l ≤ 191) : ∃ μ1, sh_X9_move 81 (jv p) (jv ((p : Int) + 1)) (jv ((l : Int) - p)) μ = some μ1 ∧ μ1.1 = μ.1 ∧ μ1.2.2 = μ.2.2 ∧ (∀ k j, k ≠ 82 → μ1.2.1 k j = μ.2.1 k j) ∧ ∀ i, i ≤ l → μ1.2.1 82 i = if p < i then μ.2.1 82 (i - 1) else μ.2.1 82 i := by
  have l1 : ln (81 + 1) = 192 := rfl
  unfold sh_X9_move
  simp only [jv_lit]
  by_cases z : p = l
  · rw [if_pos (by rw [jv_le] <;> omega)]
    exact ⟨μ, rfl, rfl, rfl, fun _ _ _ => rfl, fun i hi => by rw [if_neg (by omega)]⟩
  · rw [if_neg (by rw [jv_le] <;> omega), if_neg (by rw [jv_lt] <;> omega), if_neg (by rw [jv_lt] <;> omega), if_pos (show jv (p : Int) < jv ((p : Int) + 1) by rw [jv_lt] <;> omega), l1, jv_nI, jv_sub, if_neg (by rw [jv_lt] <;> omega)]
    have ec : cpL μ (81 + 1) (jv p) (81 + 1) (jv ((p : Int) + 1)) (jv ((l : Int) - p)) = some (cpJ μ 82 p 82 (p + 1) (l - p)) := by
      unfold cpL
      rw [jv_ix (by omega) (by omega), jv_ix (by omega) (by omega), jv_ix (by omega) (by omega), if_pos ⟨by rw [jv_lit (nat_lit 0), jv_lt] <;> omega, by rw [jv_lit (nat_lit 0), jv_lt] <;> omega, by rw [jv_lit (nat_lit 0), jv_lt] <;> omega, by rw [l1]; omega, by rw [l1]; omega⟩, show ((p : Int)).toNat = p by omega, show ((p : Int) + 1).toNat = p + 1 by omega, show ((l : Int) - p).toNat = l - p by omega]
    rw [ec, Option.bind_some]
    refine ⟨_, rfl, rfl, rfl, fun k j hk => ?_, fun i hi => ?_⟩
    · show (if k = 82 ∧ _ then _ else _) = _
      rw [if_neg (fun q => hk q.1)]
    · show (if 82 = 82 ∧ p + 1 ≤ i ∧ i < p + 1 + (l - p) then μ.2.1 82 (p + (i - (p + 1))) else μ.2.1 82 i) = _
      by_cases y : p < i
      · rw [if_pos ⟨rfl, by omega, by omega⟩, if_pos y, show p + (i - (p + 1)) = i - 1 by omega]
      · rw [if_neg (by omega), if_neg y]
theorem mv5 {μ : Mm} {p l : Nat} (hp : p ≤ l) (hl : l ≤ 191) : ∃ μ1, sh_X5_move 83 (jv p) (jv ((p : Int) + 1)) (jv ((l : Int) - p)) μ = some μ1 ∧ Fm (fun k _ => k = 84) μ μ1 ∧ ∀ i, i ≤ l → μ1.1 84 i = if p < i then μ.1 84 (i - 1) else μ.1 84 i := by
  have l1 : ln (83 + 1) = 192 := rfl
  unfold sh_X5_move
  simp only [jv_lit]
  by_cases z : p = l
  · rw [if_pos (by rw [jv_le] <;> omega)]
    exact ⟨μ, rfl, Fm.rf, fun i hi => by rw [if_neg (by omega)]⟩
  · rw [if_neg (by rw [jv_le] <;> omega), if_neg (by rw [jv_lt] <;> omega), if_neg (by rw [jv_lt] <;> omega), if_pos (show jv (p : Int) < jv ((p : Int) + 1) by rw [jv_lt] <;> omega), l1, jv_nI, jv_sub, if_neg (by rw [jv_lt] <;> omega)]
    have ec : cp μ (83 + 1) (jv p) (83 + 1) (jv ((p : Int) + 1)) (jv ((l : Int) - p)) = some (cpI μ 84 p 84 (p + 1) (l - p)) := by
      unfold cp
      rw [jv_ix (by omega) (by omega), jv_ix (by omega) (by omega), jv_ix (by omega) (by omega), if_pos ⟨by rw [jv_lit (nat_lit 0), jv_lt] <;> omega, by rw [jv_lit (nat_lit 0), jv_lt] <;> omega, by rw [jv_lit (nat_lit 0), jv_lt] <;> omega, by rw [l1]; omega, by rw [l1]; omega⟩, show ((p : Int)).toNat = p by omega, show ((p : Int) + 1).toNat = p + 1 by omega, show ((l : Int) - p).toNat = l - p by omega]
    rw [ec, Option.bind_some]
    refine ⟨_, rfl, ⟨rfl, fun k j hk => ?_⟩, fun i hi => ?_⟩
    · show (if k = 84 ∧ _ then _ else _) = _
      rw [if_neg (fun q => hk q.1)]
    · show (if 84 = 84 ∧ p + 1 ≤ i ∧ i < p + 1 + (l - p) then μ.1 84 (p + (i - (p + 1))) else μ.1 84 i) = _
      by_cases y : p < i
      · rw [if_pos ⟨rfl, by omega, by omega⟩, if_pos y, show p + (i - (p + 1)) = i - 1 by omega]
      · rw [if_neg (by omega), if_neg y]
theorem nt125 {μ : Mm} {a : Int64} {b : Int32} {p : Nat} (hp : p < 192) : sh_X10_note_125 n a b (jv p) μ = some (sI μ 84 p (μ.1 84 p ||| b)) := by
  have l1 : ln (83 + 1) = 192 := rfl
  unfold sh_X10_note_125
  rw [a5_in (by omega) (by omega), Option.bind_some, p5_in (by omega) (by omega), Int.toNat_natCast]
  rfl
theorem z_or (b : Int32) : (0 : Int32) ||| b = b := Int32.zero_or
theorem nt55 (hw : WB 500 R N fr) {μ : Mm} {W : List Nat} {c : Nat} (hg : GC μ R W) (hc : isW R N c) (hW : ∀ x ∈ W, isW R N x) (hl : (Lk R W).length ≤ 191) (hno : ¬ fd R (Lk R W) c) : ∃ μ1, sh_X10_note_55 n (lN (kc R c)) (bit c) (jv (psn R (kc R c) (Lk R W))) μ = some μ1 ∧ GC μ1 R (W ++ [c]) ∧ Fw PGC QGC μ μ1 := by
  have l1 : ln (81 + 1) = 192 := rfl
  have l2 : ln (83 + 1) = 192 := rfl
  obtain ⟨h1, h2, h3⟩ := psn_sp R (kc R c) (Lk R W)
  obtain ⟨s1, s2, s3, s4⟩ := Lk_sp R W
  have eL : Lk R (W ++ [c]) = (Lk R W).take (psn R (kc R c) (Lk R W)) ++ c :: (Lk R W).drop (psn R (kc R c) (Lk R W)) := by
    rw [Lk_add]
    unfold insW
    rw [if_neg hno]
  -- no word in W is as this one
  have hnw : ∀ x ∈ W, kc R x ≠ kc R c := by
    intro x hx e
    obtain ⟨i, hi, ei⟩ := s4 x hx
    rw [e] at ei
    by_cases z : i < psn R (kc R c) (Lk R W)
    · have := h2 i z
      omega
    · have h4 := h3 (by omega)
      by_cases y : i = psn R (kc R c) (Lk R W)
      · exact hno ⟨by omega, by rw [← y]; exact ei⟩
      · have := s1 _ i (show psn R (kc R c) (Lk R W) < i by omega) hi
        omega
  have hsb : sb R (W ++ [c]) (kc R c) = bit c := by
    rw [sb_add, if_pos rfl, sb_no R _ W hnw, z_or]
  generalize hp : psn R (kc R c) (Lk R W) = p at *
  unfold sh_X10_note_55
  simp only [jv_lit]
  rw [hg.1, jv_add, jv_sub]
  obtain ⟨μ1, e1, a1, a2, a3, a4⟩ := mv9 (μ := μ) h1 hl
  rw [e1, Option.bind_some, a1, hg.1, jv_sub]
  obtain ⟨μ2, e2, b1, b2⟩ := mv5 (μ := μ1) h1 hl
  rw [e2, Option.bind_some, p9_in (by omega) (by omega), Option.bind_some, p5_in (by omega) (by omega), Option.bind_some, Int.toNat_natCast, pt_eq, Option.bind_some, nt125 (by omega)]
  refine ⟨_, rfl, ?_, ?_⟩
  · refine ⟨?_, fun i hi => ?_⟩
    · rw [sI_1, if_neg (by omega), sI_1, if_pos ⟨rfl, rfl⟩, sI_1, if_neg (by omega), sJ_1, b1.at _ _ (by omega), a1, hg.1, eL, ins_l h1, jv_add]
      rfl
    · rw [eL, ins_l h1] at hi
      rw [eL, ins_g h1]
      constructor
      · rw [sI_2, sI_2, sI_2, sJ_21]
        by_cases z : i = p
        · rw [if_pos ⟨rfl, z⟩, if_neg (by omega), if_pos z]
        · rw [if_neg (fun q => z q.2), b1.1, a4 i (by omega)]
          by_cases y : i < p
          · rw [if_neg (by omega), if_pos y, (hg.2 i (by omega)).1]
          · rw [if_pos (by omega), if_neg y, if_neg z, (hg.2 (i - 1) (by omega)).1]
      · by_cases z : i = p
        · subst z
          rw [sI_1, if_pos ⟨rfl, rfl⟩, sI_1, if_neg (by omega), sI_1, if_pos ⟨rfl, rfl⟩, if_neg (by omega), if_pos rfl, hsb, ← jv0, z_or]
        · rw [sI_1, if_neg (fun q => z q.2), sI_1, if_neg (by omega), sI_1, if_neg (fun q => z q.2), sJ_1, b2 i (by omega), a1]
          have hne : ∀ j, j < (Lk R W).length → sb R (W ++ [c]) (kc R ((Lk R W).getD j 0)) = sb R W (kc R ((Lk R W).getD j 0)) := by
            intro j hj
            have hm : (Lk R W).getD j 0 ∈ W := s3 _ (by rw [gD hj]; exact List.getElem_mem hj)
            rw [sb_add, if_neg (fun q => hnw _ hm q.symm)]
          by_cases y : i < p
          · rw [if_neg (by omega), if_pos y, hne i (by omega), (hg.2 i (by omega)).2]
          · rw [if_pos (by omega), if_neg y, if_neg z, hne (i - 1) (by omega), (hg.2 (i - 1) (by omega)).2]
  · refine ⟨fun k j q => ?_, fun k j q => ?_, ?_⟩
    · rw [sI_1, if_neg (by omega), sI_1, if_neg (by omega), sI_1, if_neg (by omega), sJ_1, b1.at _ _ (by omega), a1]
    · rw [sI_2, sI_2, sI_2, sJ_21, if_neg (fun y => q y.1), b1.1, a3 k j q]
    · rw [sI_2, sI_2, sI_2, sJ_22, b1.1, a2]
theorem nt32 (hw : WB 500 R N fr) {μ : Mm} {W : List Nat} {c : Nat} (hg : GC μ R W) (hc : isW R N c) (hW : ∀ x ∈ W, isW R N x) (hl : (Lk R W).length ≤ 191) : ∃ μ1, sh_X10_note_32 n (lN (kc R c)) (bit c) (jv (psn R (kc R c) (Lk R W))) μ = some μ1 ∧ GC μ1 R (W ++ [c]) ∧ Fw PGC QGC μ μ1 := by
  have l1 : ln (81 + 1) = 192 := rfl
  obtain ⟨h1, h2, h3⟩ := psn_sp R (kc R c) (Lk R W)
  obtain ⟨s1, s2, s3, s4⟩ := Lk_sp R W
  unfold sh_X10_note_32
  rw [hg.1]
  by_cases z : psn R (kc R c) (Lk R W) = (Lk R W).length
  · rw [if_pos (by rw [z])]
    exact nt55 hw hg hc hW hl (fun q => by have := q.1; omega)
  · have hlt : psn R (kc R c) (Lk R W) < (Lk R W).length := by omega
    have hm : isW R N ((Lk R W).getD (psn R (kc R c) (Lk R W)) 0) := hW _ (s3 _ (by rw [gD hlt]; exact List.getElem_mem hlt))
    rw [if_neg (by rw [jv_eq] <;> omega), a9_in (by omega) (by omega), Option.bind_some, Int.toNat_natCast, (hg.2 _ hlt).1]
    by_cases y : kc R ((Lk R W).getD (psn R (kc R c) (Lk R W)) 0) = kc R c
    · rw [if_pos ((lg_cmp_eq _ _).mpr (by rw [y])), nt125 (by omega)]
      have eL : Lk R (W ++ [c]) = Lk R W := by
        rw [Lk_add]
        unfold insW
        rw [if_pos ⟨hlt, y⟩]
      refine ⟨_, rfl, ⟨?_, fun i hi => ?_⟩, Fw.of (Fm.rf.sI (Or.inr rfl))⟩
      · rw [sI_1, if_neg (by omega), hg.1, eL]
      · rw [eL] at hi ⊢
        refine ⟨by rw [sI_2]; exact (hg.2 i hi).1, ?_⟩
        rw [sI_1, sb_add]
        by_cases v : i = psn R (kc R c) (Lk R W)
        · rw [if_pos ⟨rfl, v⟩, v, if_pos y.symm, (hg.2 _ hlt).2]
        · rw [if_neg (fun q => v q.2), if_neg ?_, (hg.2 i hi).2]
          intro e
          rw [← y] at e
          rcases Nat.lt_or_ge i (psn R (kc R c) (Lk R W)) with u | u
          · have := s1 i _ u hlt
            omega
          · have := s1 _ i (show psn R (kc R c) (Lk R W) < i by omega) hi
            omega
    · rw [if_neg (fun q => y ((lNeq (kc_b hw hm) (kc_b hw hc)).mp ((lg_cmp_eq _ _).mp q)))]
      exact nt55 hw hg hc hW hl (fun q => y q.2)
theorem nt3 (hw : WB 500 R N fr) {W : List Nat} {c : Nat} (hc : isW R N c) (hW : ∀ x ∈ W, isW R N x) (hl : (Lk R W).length ≤ 191) {μ : Mm} (hg : GC μ R W) : ∀ (B A : List Nat) (f : Nat), Lk R W = A ++ B → B.length < f → (∀ x ∈ A, kc R x < kc R c) → sh_X10_note_3 n (lN (kc R c)) (bit c) f (jv A.length) μ = sh_X10_note_32 n (lN (kc R c)) (bit c) (jv ((A.length + psn R (kc R c) B : Nat) : Int)) μ := by
  have l1 : ln (81 + 1) = 192 := rfl
  obtain ⟨s1, s2, s3, s4⟩ := Lk_sp R W
  intro B
  induction B with
  | nil =>
    intro A f hA hf hx
    obtain ⟨f, rfl⟩ : ∃ g, f = g + 1 := ⟨f - 1, by omega⟩
    have : (Lk R W).length = A.length := by rw [hA, List.append_nil]
    rw [sh_X10_note_3, hg.1, if_pos (by rw [jv_le] <;> omega)]
    rfl
  | cons b B ih =>
    intro A f hA hf hx
    obtain ⟨f, rfl⟩ : ∃ g, f = g + 1 := ⟨f - 1, by omega⟩
    have hlen : (Lk R W).length = A.length + B.length + 1 := by rw [hA, List.length_append, List.length_cons]; omega
    have hb : (Lk R W).getD A.length 0 = b := by
      rw [hA, List.getD_eq_getElem?_getD, List.getElem?_append_right (Nat.le_refl _), Nat.sub_self]
      rfl
    have hm : isW R N b := hW _ (s3 _ (by rw [hA]; exact List.mem_append_right _ List.mem_cons_self))
    rw [List.length_cons] at hf
    rw [sh_X10_note_3, hg.1, if_neg (by rw [jv_le] <;> omega), a9_in (by omega) (by omega), Option.bind_some, Int.toNat_natCast, (hg.2 A.length (by omega)).1, hb, psn]
    by_cases z : kc R b < kc R c
    · rw [if_neg (fun q => by
        have := (lg_cmp_ge _ _).mp q
        exact Int64.not_lt.mpr this ((lNlt (kc_b hw hm) (kc_b hw hc)).mpr z)), if_pos z, jv_lit (nat_lit 1), jv_add]
      have := ih (A ++ [b]) f (by rw [hA, List.append_assoc]; rfl) (by omega) (fun x h => by
        rcases List.mem_append.mp h with h | h
        · exact hx x h
        · rw [List.mem_singleton.mp h]; exact z)
      rw [List.length_append] at this
      have e1 : ((A.length + [b].length : Nat) : Int) = (A.length : Int) + 1 := rfl
      rw [e1] at this
      rw [this]
      congr 2
      show ((A.length + 1 + psn R (kc R c) B : Nat) : Int) = ((A.length + (psn R (kc R c) B + 1) : Nat) : Int)
      omega
    · rw [if_pos ((lg_cmp_ge _ _).mpr (Int64.not_lt.mp (fun q => z ((lNlt (kc_b hw hm) (kc_b hw hc)).mp q)))), if_neg z]
      rfl
theorem note8 (hn : 200 ≤ n) (hw : WB 500 R N fr) {W : List Nat} {c : Nat} (hc : isW R N c) (hW : ∀ x ∈ W, isW R N x) (hl : W.length ≤ 191) {μ : Mm} (hg : GC μ R W) : ∃ μ1, sh_X10_note n (lN (kc R c)) (bit c) μ = some μ1 ∧ GC μ1 R (W ++ [c]) ∧ Fw PGC QGC μ μ1 := by
  have s2 := (Lk_sp R W).2.1
  unfold sh_X10_note
  have e : sh_X10_note_3 n (lN (kc R c)) (bit c) n (jv 0) μ = _ := nt3 (n := n) hw hc hW (by omega) hg (Lk R W) [] n rfl (by omega) (fun x h => absurd h List.not_mem_nil)
  rw [jv0, e, show ([] : List Nat).length + psn R (kc R c) (Lk R W) = psn R (kc R c) (Lk R W) from Nat.zero_add _]
  exact nt32 hw hg hc hW (by omega)
theorem bit_sh {s w : Nat} (hww : w < 8) : bit (8 * s + w) = (1 : Int32) <<< (jv s &&& 31) := by
  unfold bit
  rw [show (8 * s + w) / 8 = s by omega]
theorem gt17 (hn : 200 ≤ n) (hw : WB 500 R N fr) {s : Nat} (hs : s < N) (k7 : Int32 → Mm → Option Mm) : ∀ (j f w : Nat) (μ : Mm), (w : Int) + j = wct R s → j < f → CB 11 μ R N fr → GC μ R (wal R s ++ wsl s w) → ∃ μ1, sh_X10_gather_17 n 11 k7 f (jv s) (jv w) μ = k7 (jv ((s + 1 : Nat) : Int)) μ1 ∧ GC μ1 R (wal R (s + 1)) ∧ CB 11 μ1 R N fr ∧ Fw PGC QGC μ μ1 := by
  have hN := hw.1
  have hwc := (hw.sec hs).2.2.2.1
  intro j
  induction j with
  | zero =>
    intro f w μ hj hf hb hg
    obtain ⟨f, rfl⟩ : ∃ g, f = g + 1 := ⟨f - 1, by omega⟩
    rw [sh_X10_gather_17, hb.wc hw hs, Option.bind_some, if_pos (by rw [jv_le] <;> omega), jv_lit (nat_lit 1), jv_add]
    refine ⟨μ, rfl, ?_, hb, Fw.rf⟩
    rw [wal, show (wct R s).toNat = w by omega]
    exact hg
  | succ j ih =>
    intro f w μ hj hf hb hg
    obtain ⟨f, rfl⟩ : ∃ g, f = g + 1 := ⟨f - 1, by omega⟩
    have hc : isW R N (8 * s + w) := ⟨by omega, by rw [show (8 * s + w) / 8 = s by omega, show (8 * s + w) % 8 = w by omega]; omega⟩
    have hW : ∀ x ∈ wal R s ++ wsl s w, isW R N x := by
      intro x hx
      rcases List.mem_append.mp hx with h | h
      · exact wal_mem hw s (by omega) x h
      · obtain ⟨v, h1, h2⟩ := wsl_mem _ x h
        exact ⟨by omega, by rw [show x / 8 = s by omega, show x % 8 = v by omega]; omega⟩
    have hlen : (wal R s ++ wsl s w).length ≤ 191 := by
      have := wal_len hw s (by omega)
      rw [List.length_append, wsl_len]
      omega
    obtain ⟨μ1, e1, g1, f1⟩ := note8 (n := n) hn hw hc hW hlen hg
    have ek : pk (lt R s w) = lN (kc R (8 * s + w)) := by
      unfold pk kc
      rw [show (8 * s + w) / 8 = s by omega, show (8 * s + w) % 8 = w by omega]
    have hti := hb.ti hw hs (w := w) (by omega)
    rw [sh_X10_gather_17, hb.wc hw hs, Option.bind_some, if_neg (by rw [jv_le] <;> omega), jv_lit (nat_lit 8), jv_mul, jv_add, hti, Option.bind_some, ek, ← bit_sh (s := s) (w := w) (by omega), e1, Option.bind_some, jv_lit (nat_lit 1), jv_add, show (w : Int) + 1 = ((w + 1 : Nat) : Int) by omega]
    rw [List.append_assoc] at g1
    obtain ⟨μ2, e2, g2, b2, f2⟩ := ih f (w + 1) μ1 (by omega) (by omega) (hb.fw f1 (fun q j a b => by omega) (fun q a b => by omega)) g1
    exact ⟨μ2, e2, g2, b2, f1.tr f2 (fun _ _ y => y) (fun _ y => y)⟩
theorem gt7 (hn : 200 ≤ n) (hw : WB 500 R N fr) : ∀ (j f s : Nat) (μ : Mm), s + j = N → j < f → CB 11 μ R N fr → GC μ R (wal R s) → ∃ μ1, sh_X10_gather_7 n 11 f (jv s) μ = some μ1 ∧ GC μ1 R (wal R N) ∧ Fw PGC QGC μ μ1 := by
  have hN := hw.1
  intro j
  induction j with
  | zero =>
    intro f s μ hj hf hb hg
    obtain ⟨f, rfl⟩ : ∃ g, f = g + 1 := ⟨f - 1, by omega⟩
    rw [sh_X10_gather_7, hb.2.2.1.2.1, if_pos (by rw [jv_le] <;> omega)]
    refine ⟨μ, rfl, ?_, Fw.rf⟩
    rw [← show s = N by omega]
    exact hg
  | succ j ih =>
    intro f s μ hj hf hb hg
    obtain ⟨f, rfl⟩ : ∃ g, f = g + 1 := ⟨f - 1, by omega⟩
    have hwc := (hw.sec (s := s) (by omega)).2.2.2.1
    obtain ⟨μ1, e1, g1, b1, f1⟩ := gt17 (n := n) hn hw (s := s) (by omega) (fun (x2 : Int32) (μ : Mm) => sh_X10_gather_7 n 11 f x2 μ) (wct R s).toNat n 0 μ (by omega) (by omega) hb (by rw [wsl, List.append_nil]; exact hg)
    have e1' : sh_X10_gather_17 n 11 (fun (x2 : Int32) (μ : Mm) => sh_X10_gather_7 n 11 f x2 μ) n (jv s) (jv 0) μ = _ := e1
    rw [sh_X10_gather_7, hb.2.2.1.2.1, if_neg (by rw [jv_le] <;> omega), jv0, e1']
    obtain ⟨μ2, e2, g2, f2⟩ := ih f (s + 1) μ1 (by omega) (by omega) b1 g1
    exact ⟨μ2, e2, g2, f1.tr f2 (fun _ _ y => y) (fun _ y => y)⟩
theorem gat (hn : 200 ≤ n) (hw : WB 500 R N fr) {μ : Mm} (hb : CB 11 μ R N fr) : ∃ μ1, sh_X10_gather n 11 μ = some μ1 ∧ GC μ1 R (wal R N) ∧ Fw PGC QGC μ μ1 := by
  have hN := hw.1
  unfold sh_X10_gather
  simp only [jv_lit]
  rw [pt_eq, Option.bind_some]
  have f0 : Fm PGC μ (sI μ 80 2 (jv 0)) := Fm.rf.sI (Or.inl rfl)
  obtain ⟨μ1, e1, g1, f1⟩ := gt7 (n := n) hn hw N n 0 (sI μ 80 2 (jv 0)) (by omega) (by omega) (hb.fr f0 (fun q j a b => by omega)) ⟨by rw [sI_1, if_pos ⟨rfl, rfl⟩]; rfl, fun i hi => absurd hi (by show ¬ i < 0; omega)⟩
  have e1' : sh_X10_gather_7 n 11 n (jv 0) (sI μ 80 2 (jv 0)) = _ := e1
  exact ⟨μ1, e1', g1, (Fw.of f0).tr f1 (fun _ _ y => y) (fun _ y => y)⟩
end GTH
