/-! INPUT AND OUTPUT of both sides; the word that is asked for -/
def EA (μ : Mm) (I O : List Int) : Prop := Tx 1 μ I ∧ Ix μ I ∧ Tx 3 μ O ∧ (μ.1 306 49 = jv O.length ∧ ∀ i, i < O.length → μ.1 330 i = jv (O.getD i 0)) ∧ μ.1 0 3 = μ.1 306 11 ∧ μ.1 0 4 = μ.1 306 12
theorem EA.kv {μ μ' : Mm} {I O : List Int} {P : Nat → Nat → Prop} {Q : Nat → Prop} (h : EA μ I O) (hf : Fw P Q μ μ') (hp : ∀ k j, P k j → PV k j) : EA μ' I O := by
  obtain ⟨⟨a1, a2, a3⟩, ⟨b1, b2, b3, b4⟩, ⟨c1, c2, c3⟩, ⟨d1, d2⟩, e1, e2⟩ := h
  have g : ∀ k j, ¬ PV k j → μ'.1 k j = μ.1 k j := fun k j q => hf.1 k j (fun y => q (hp k j y))
  refine ⟨⟨a1, by rw [g _ _ (by omega), a2], fun i hi => by rw [g _ _ (by omega), a3 i hi]⟩, ⟨b1, b2, by rw [g _ _ (by omega), b3], fun i hi => by rw [g _ _ (by omega), b4 i hi]⟩, ⟨c1, by rw [g _ _ (by omega), c2], fun i hi => by rw [g _ _ (by omega), c3 i hi]⟩, ⟨by rw [g _ _ (by omega), d1], fun i hi => by rw [g _ _ (by omega), d2 i hi]⟩, ?_, ?_⟩
  · rw [g _ _ (by omega), g _ _ (by omega), e1]
  · rw [g _ _ (by omega), g _ _ (by omega), e2]
section FND
variable {n : Nat} {R : Nat → Int} {N fr : Nat}
theorem QS.kv {μ μ' : Mm} {P : Nat → Nat → Prop} {Q : Nat → Prop} (h : QS μ R N fr) (hf : Fw P Q μ μ') (hp : ∀ k j, P k j → k < 11 ∨ PV k j) (hq : ∀ k, Q k → QV k) : QS μ' R N fr := ⟨h.1, h.2.1.fw hf (fun q j a b y => by have := hp q j y; omega) (fun q a b y => by have := hq q y; omega), h.2.2.1.fw hf (fun q j a b y => by have := hp q j y; omega), h.2.2.2.fw hf (fun i _ y => by have := hp 307 i y; omega)⟩
theorem kc_1 (hw : WB 500 R N fr) {c : Nat} (h : isW R N c) : 0 < kc R c := by
  have hs := (hw.sec h.1).2.2.2.2.1 _ h.2
  have := (dig_b hs.1 (p := 0) (by omega)).2.2 hs.2
  unfold kc pkn
  omega
theorem ixC (hw : WB 500 R N fr) {μ : Mm} (hg : GC μ R (wal R N)) {K : Int64} : ∀ (k f i : Nat), i + k = (Lk R (wal R N)).length → k < f → sh_X10_indexOf_2 n K μ f (jv i) = some (jv (fnd (fun i => lN (kc R ((Lk R (wal R N)).getD i 0)) = K) k i)) := by
  have hN := hw.1
  have hlen := (Lk_sp R (wal R N)).2.1
  have hlw := wal_len hw N (Nat.le_refl _)
  have l1 : ln (81 + 1) = 192 := rfl
  intro k
  induction k with
  | zero =>
    intro f i hi hf
    obtain ⟨f, rfl⟩ : ∃ g, f = g + 1 := ⟨f - 1, by omega⟩
    rw [sh_X10_indexOf_2, hg.1, if_pos (by rw [jv_le] <;> omega)]
    rfl
  | succ k ih =>
    intro f i hi hf
    obtain ⟨f, rfl⟩ : ∃ g, f = g + 1 := ⟨f - 1, by omega⟩
    rw [sh_X10_indexOf_2, hg.1, if_neg (by rw [jv_le] <;> omega), a9_in (by omega) (by omega), Option.bind_some, Int.toNat_natCast, (hg.2 i (by omega)).1, jv_lit (nat_lit 1), jv_add, show (i : Int) + 1 = ((i + 1 : Nat) : Int) by omega, ih f (i + 1) (by omega) (by omega), fnd]
    by_cases z : lN (kc R ((Lk R (wal R N)).getD i 0)) = K
    · rw [if_pos ((lg_cmp_eq _ _).mpr z), if_pos z]
    · rw [if_neg (fun q => z ((lg_cmp_eq _ _).mp q)), if_neg z]
abbrev isF (R : Nat → Int) (N : Nat) (I : List Int) (i : Nat) : Prop := isWd I ∧ kc R ((Lk R (wal R N)).getD i 0) = pkn (ltS I 0 I.length)
theorem fwM (hn : 200 ≤ n) (hw : WB 500 R N fr) {μ : Mm} {I : List Int} (hm : MB 307 μ R) (hi : Ix μ I) (hg : GM μ R (wal R N)) [DecidablePred (isF R N I)] : ∀ (k f i : Nat) (d : Int), i + k = (Lk R (wal R N)).length → k < f → sh_X12_findWord_13 n f (jv d) (jv i) μ = some (jv (lst (isF R N I) d k i), sI μ 306 5 (jv 0)) := by
  have hN := hw.1
  have hlen := (Lk_sp R (wal R N)).2.1
  have hlw := wal_len hw N (Nat.le_refl _)
  have l1 : ln 327 = 192 := rfl
  intro k
  induction k with
  | zero =>
    intro f i d hj hf
    obtain ⟨f, rfl⟩ : ∃ g, f = g + 1 := ⟨f - 1, by omega⟩
    rw [sh_X12_findWord_13, hg.1, if_pos (by rw [jv_le] <;> omega)]
    rfl
  | succ k ih =>
    intro f i d hj hf
    obtain ⟨f, rfl⟩ : ∃ g, f = g + 1 := ⟨f - 1, by omega⟩
    have hp : i < (Lk R (wal R N)).length := by omega
    have hx : isW R N ((Lk R (wal R N)).getD i 0) := wal_mem hw N (Nat.le_refl _) _ ((Lk_sp R (wal R N)).2.2.1 _ (by rw [gD hp]; exact List.getElem_mem hp))
    have hx1 := hx.1
    have ho := hx.ok hw
    have ev := hg.2 i hp
    rw [sh_X12_findWord_13, hg.1, if_neg (by rw [jv_le] <;> omega), lst]
    have hF : isF R N I i ↔ (isWd I ∧ pkn (lt R ((Lk R (wal R N)).getD i 0 / 8) ((Lk R (wal R N)).getD i 0 % 8)) = pkn (ltS I 0 I.length)) := Iff.rfl
    generalize (Lk R (wal R N)).getD i 0 = x at ev hx1 ho hF
    simp only [jv_lit]
    rw [ld_jv (by omega) (by omega), Option.bind_some, Int.toNat_natCast, ev, dv_jv (by omega) (by omega) (by omega) (by omega), Option.bind_some, Option.bind_some, rm_jv (by omega) (by omega) (by omega) (by omega), Option.bind_some, show (x : Int) / 8 = ((x / 8 : Nat) : Int) by omega, show (x : Int) % 8 = ((x % 8 : Nat) : Int) by omega, jv_add, show (i : Int) + 1 = ((i + 1 : Nat) : Int) by omega]
    rcases iiM (n := n) hn hm hi (s := x / 8) (w := x % 8) (by omega) (by omega) ho with ⟨a, b⟩ | ⟨a, b⟩
    · rw [b, Option.bind_some, if_neg (show ¬ jv 1 = jv 0 by decide), if_pos (hF.mpr a)]
      exact ih f (i + 1) i (by omega) (by omega)
    · rw [b, Option.bind_some, if_pos (show jv 0 = jv 0 from rfl), if_neg (fun q => a (hF.mp q))]
      exact ih f (i + 1) d (by omega) (by omega)
abbrev PVF : Nat → Nat → Prop := fun k j => PV k j ∨ k = 1 ∧ j = 1 ∨ k = 306 ∧ j = 5
theorem q_findWord (hn : 2000 ≤ n) {μ : Mm} {I O : List Int} (hq : QS μ R N fr) (hio : EA μ I O) : ∃ v μ1 μ2, sh_X11_findWord n μ = some (v, μ1) ∧ sh_X12_findWord n μ1 = some (v, μ2) ∧ Fw PVF QV μ μ2 ∧ QS μ2 R N fr ∧ EA μ2 [] O := by
  have hw := hq.1
  have hN := hw.1
  obtain ⟨hx1, hix, hrest⟩ := id hio
  have hlen := (Lk_sp R (wal R N)).2.1
  have hlw := wal_len hw N (Nat.le_refl _)
  -- the class
  have e2 := wb8 (n := n) (by omega) hx1 (a := 0) (m := I.length) (by omega) hix.2.1
  rw [Nat.zero_add] at e2
  have e2' : sh_X8_wordBetween n 1 (jv 0) (jv I.length) μ = _ := e2
  have f0 : Fm (fun k j => k = 1 ∧ j = 1) μ (sI μ 1 1 (jv 0)) := Fm.rf.sI ⟨rfl, rfl⟩
  have q0 : QS (sI μ 1 1 (jv 0)) R N fr := hq.kv (Fw.of (Q := QV) f0) (fun k j y => by omega) (fun _ y => y)
  obtain ⟨μ1, e3, g3, f3⟩ := gat (n := n) (by omega) hw q0.2.1
  have q1 : QS μ1 R N fr := q0.kv f3 (fun k j y => Or.inr (PGC_V k j y)) QGC_V
  have F1 : Fw PVF QV μ μ1 := (Fw.of (P := PVF) (Q := QV) (f0.mono (fun k j y => Or.inr (Or.inl y)))).tr f3 (fun k j y => Or.inl (PGC_V k j y)) QGC_V
  generalize hK : (if I.length ≤ 12 ∧ ∀ p, p < I.length → 97 ≤ I.getD (0 + p) 0 ∧ I.getD (0 + p) 0 ≤ 122 then pk (ltS I 0 I.length) else 0) = K at e2'
  have e4 : sh_X10_indexOf_2 n K μ1 n (jv 0) = _ := ixC (n := n) hw g3 (K := K) (Lk R (wal R N)).length n 0 (by omega) (by omega)
  -- the model
  have f5 : Fm PQ μ1 (sI μ1 306 0 (jv 0)) := Fm.rf.sI (by omega)
  obtain ⟨μ2, e6, g6, f6⟩ := lwA (n := n) (by omega) hw (q1.2.2.2.r00 (v := jv 0))
  have F2 : Fw PVF QV μ μ2 := (F1.tr (Fw.of (Q := QV) f5) (fun k j y => Or.inl (Or.inl y)) (fun _ y => y)).tr (Fw.of (Q := QV) f6) (fun k j y => Or.inl (PGM_V k j y)) (fun _ y => y)
  have F02 : Fw PV QV (sI μ 1 1 (jv 0)) μ2 := ((f3.mono PGC_V QGC_V).tr (Fw.of (Q := QV) f5) (fun k j y => Or.inl y) (fun _ y => y)).tr (Fw.of (Q := QV) f6) PGM_V (fun _ y => y)
  have q2 : QS μ2 R N fr := q1.kv ((Fw.of (P := PV) (Q := QV) (f5.mono (fun k j y => Or.inl y))).tr (Fw.of (Q := QV) f6) PGM_V (fun _ y => y)) (fun k j y => Or.inr y) (fun _ y => y)
  have hix2 : Ix μ2 I := ⟨hix.1, hix.2.1, by rw [F02.1 _ _ (by omega), sI_1, if_neg (by omega), hix.2.2.1], fun i hi => by rw [F02.1 _ _ (by omega), sI_1, if_neg (by omega), hix.2.2.2 i hi]⟩
  have dP : DecidablePred (isF R N I) := fun i => Classical.propDecidable _
  have e7 : sh_X12_findWord_13 n n (jv (-1)) (jv 0) μ2 = _ := fwM (n := n) (by omega) hw q2.2.2.2 hix2 g6 (Lk R (wal R N)).length n 0 (-1) (by omega) (by omega)
  -- alike
  have hs := (Lk_sp R (wal R N)).1
  have hkc : ∀ i, i < (Lk R (wal R N)).length → isW R N ((Lk R (wal R N)).getD i 0) := fun i hi => wal_mem hw N (Nat.le_refl _) _ ((Lk_sp R (wal R N)).2.2.1 _ (by rw [gD hi]; exact List.getElem_mem hi))
  have hiff : ∀ i, i < (Lk R (wal R N)).length → (isF R N I i ↔ lN (kc R ((Lk R (wal R N)).getD i 0)) = K) := by
    intro i hi
    have hb := kc_b hw (hkc i hi)
    have h1 := kc_1 hw (hkc i hi)
    by_cases z : I.length ≤ 12 ∧ ∀ p, p < I.length → 97 ≤ I.getD (0 + p) 0 ∧ I.getD (0 + p) 0 ≤ 122
    · rw [if_pos z] at hK
      have hb2 := pkn_b (ltS_ok z.2)
      rw [← hK]
      unfold pk
      rw [lNeq hb (by omega)]
      exact ⟨fun q => q.2, fun q => ⟨z, q⟩⟩
    · rw [if_neg z, show (0 : Int64) = lN 0 from rfl] at hK
      rw [← hK, lNeq hb (by omega)]
      exact ⟨fun q => absurd q.1 z, fun q => by omega⟩
  have same : lst (isF R N I) (-1) (Lk R (wal R N)).length 0 = fnd (fun i => lN (kc R ((Lk R (wal R N)).getD i 0)) = K) (Lk R (wal R N)).length 0 := by
    rcases fnd_sp (fun i => lN (kc R ((Lk R (wal R N)).getD i 0)) = K) (Lk R (wal R N)).length 0 with ⟨a, b⟩ | ⟨j, a, b, c, d, e⟩
    · rw [a]
      exact lst_no _ _ 0 _ (fun j h1 h2 q => b j h1 h2 ((hiff j (by omega)).mp q))
    · rw [a]
      have hjF : isF R N I j := (hiff j (by omega)).mpr d
      have hu : ∀ i, i < (Lk R (wal R N)).length → isF R N I i → i = j := by
        intro i hi q
        have e1 := q.2
        have e2 := hjF.2
        rcases Nat.lt_or_ge i j with u | u
        · have := hs i j u (by omega)
          omega
        · by_cases v : i = j
          · exact v
          · have := hs j i (by omega) hi
            omega
      have split : ∀ (k i : Nat) (d0 : Int), i ≤ j → j < i + k → i + k = (Lk R (wal R N)).length → lst (isF R N I) d0 k i = j := by
        intro k
        induction k with
        | zero => intro i d0 h1 h2 h3; omega
        | succ k ih =>
          intro i d0 h1 h2 h3
          rw [lst]
          by_cases u : i = j
          · rw [if_pos (by rw [u]; exact hjF), lst_no _ k (i + 1) _ (fun j' x y q => by have := hu j' (by omega) q; omega), u]
          · rw [if_neg (fun q => u (hu i (by omega) q))]
            exact ih (i + 1) d0 (by omega) (by omega) (by omega)
      exact split _ 0 (-1) (Nat.zero_le _) (by omega) (by omega)
  have fe : Fm (fun k j => k = 306 ∧ j = 5) μ2 (sI μ2 306 5 (jv 0)) := Fm.rf.sI ⟨rfl, rfl⟩
  refine ⟨jv (fnd (fun i => lN (kc R ((Lk R (wal R N)).getD i 0)) = K) (Lk R (wal R N)).length 0), μ1, sI μ2 306 5 (jv 0), ?_, ?_, F2.tr (Fw.of (Q := QV) fe) (fun k j y => Or.inr (Or.inr y)) (fun _ y => y), ?_, ?_⟩
  · unfold sh_X11_findWord sh_X8_length sh_X8_cut sh_X10_indexOf
    simp only [jv_lit]
    rw [Option.bind_some, hx1.2.1, e2', Option.bind_some, pt_eq, Option.bind_some, Option.bind_some, e3, Option.bind_some, e4]
    rfl
  · unfold sh_X12_findWord
    simp only [jv_lit]
    rw [pt_eq, Option.bind_some, e6, Option.bind_some, jv_neg, e7, same]
  · refine ⟨q2.1, q2.2.1.fr fe (fun q j a b => by omega), q2.2.2.1.kp fe (fun q j a b => by omega), q2.2.2.2.fr fe (fun i _ => by omega)⟩
  · have hio2 := hrest
    obtain ⟨⟨c1, c2, c3⟩, ⟨d1, d2⟩, e1, e2⟩ := hio2
    have g : ∀ k j, ¬ PV k j → ¬ (k = 1 ∧ j = 1) → ¬ (k = 306 ∧ j = 5) → (sI μ2 306 5 (jv 0)).1 k j = μ.1 k j := fun k j a b c => by
      rw [fe.at _ _ c, F02.1 _ _ a, sI_1, if_neg b]
    refine ⟨⟨Nat.zero_le _, ?_, fun i hi => absurd hi (by show ¬ i < 0; omega)⟩, ⟨Nat.zero_le _, fun i hi => absurd hi (by show ¬ i < 0; omega), ?_, fun i hi => absurd hi (by show ¬ i < 0; omega)⟩, ⟨c1, by rw [g _ _ (by omega) (by omega) (by omega), c2], fun i hi => by rw [g _ _ (by omega) (by omega) (by omega), c3 i hi]⟩, ⟨by rw [g _ _ (by omega) (by omega) (by omega), d1], fun i hi => by rw [g _ _ (by omega) (by omega) (by omega), d2 i hi]⟩, ?_, ?_⟩
    · rw [fe.at _ _ (by omega), F02.1 _ _ (by omega), sI_1, if_pos ⟨rfl, rfl⟩]
      rfl
    · rw [sI_1, if_pos ⟨rfl, rfl⟩]
      rfl
    · rw [g _ _ (by omega) (by omega) (by omega), g _ _ (by omega) (by omega) (by omega), e1]
    · rw [g _ _ (by omega) (by omega) (by omega), g _ _ (by omega) (by omega) (by omega), e2]
end FND
