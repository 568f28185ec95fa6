/-! A SECTION put into the book: both agree -/
theorem pas3 {a b c : Int} (ha : a = 0 ∨ a = 1) (hb : b = 0 ∨ b = 1) (hc : c = 0 ∨ c = 1) {μ : Mm} : sh_X12_passes3 (jv a) (jv b) (jv c) μ = some (jv (if a = 1 ∧ b = 1 ∧ c = 1 then 1 else 0), sI μ 306 0 (jv (if a = 0 then 1 else if b = 0 then 2 else if c = 0 then 3 else 0))) := by
  rcases ha with rfl | rfl <;> rcases hb with rfl | rfl <;> rcases hc with rfl | rfl <;> rfl
section INB
variable {n : Nat} {R : Nat → Int} {N fr : Nat} {I O : List Int}
theorem in98 (hn : 16001 ≤ n) (hw : WB 500 R N fr) {ν : Mm} (hm : MB 307 ν R) (hi : Ix ν I) {z y l : Int} (hz : i32 z) (hy : i32 y) (hl : i32 l) : ∃ a b c ν1, Fm PSi ν ν1 ∧ sh_X12_insert n (jv z) (jv y) (jv l) ν = sh_X12_insert_98 n (jv z) (jv y) (jv l) (jv a) (jv b) (jv c) ν1 ∧ (a = 0 ∨ a = 1) ∧ (b = 0 ∨ b = 1) ∧ (c = 0 ∨ c = 1) ∧ (a = 1 ↔ 0 ≤ z ∧ z ≤ N) ∧ (0 ≤ z ∧ z ≤ N → (b = 1 ↔ (1 ≤ y ∧ y ≤ 4) ∧ (0 ≤ l ∧ l ≤ 500) ∧ tiV I (tiS I 0) = 1 ∧ okIn R N fr z.toNat (ptN N fr z.toNat) y)) ∧ (c = 1 ↔ N < 24) := by
  have hN := hw.1
  have e81 : ∀ (ν1 : Mm) (s1 s2 : Int32), MB 307 ν1 R → sh_X12_insert_81 n (jv z) (jv y) (jv l) s1 s2 ν1 = sh_X12_insert_98 n (jv z) (jv y) (jv l) s1 s2 (jv (if N < 24 then 1 else 0)) ν1 := by
    intro ν1 s1 s2 h1
    unfold sh_X12_insert_81
    rw [jv_lit (nat_lit 9), mbl9 h1, Option.bind_some, hN.1, jv_lit (nat_lit 24)]
    by_cases q : N < 24
    · rw [if_neg (by rw [jv_le] <;> omega), if_pos q]
      rfl
    · rw [if_pos (by rw [jv_le] <;> omega), if_neg q]
      rfl
  have hc : (if N < 24 then (1 : Int) else 0) = 0 ∨ (if N < 24 then (1 : Int) else 0) = 1 := by split <;> omega
  have hc1 : (if N < 24 then (1 : Int) else 0) = 1 ↔ N < 24 := by split <;> omega
  have ha : (if 0 ≤ z ∧ z ≤ N then (1 : Int) else 0) = 0 ∨ (if 0 ≤ z ∧ z ≤ N then (1 : Int) else 0) = 1 := by split <;> omega
  have ha1 : (if 0 ≤ z ∧ z ≤ N then (1 : Int) else 0) = 1 ↔ 0 ≤ z ∧ z ≤ N := by split <;> omega
  -- where the arguments can't be
  have no : ∀ ν1, Fm PSi ν ν1 → MB 307 ν1 R → (0 ≤ z ∧ z ≤ N → ¬ ((1 ≤ y ∧ y ≤ 4) ∧ (0 ≤ l ∧ l ≤ 500) ∧ tiV I (tiS I 0) = 1 ∧ okIn R N fr z.toNat (ptN N fr z.toNat) y)) → ∃ a b c ν2, Fm PSi ν ν2 ∧ sh_X12_insert_80 n (jv z) (jv y) (jv l) (jv (if 0 ≤ z ∧ z ≤ N then 1 else 0)) ν1 = sh_X12_insert_98 n (jv z) (jv y) (jv l) (jv a) (jv b) (jv c) ν2 ∧ (a = 0 ∨ a = 1) ∧ (b = 0 ∨ b = 1) ∧ (c = 0 ∨ c = 1) ∧ (a = 1 ↔ 0 ≤ z ∧ z ≤ N) ∧ (0 ≤ z ∧ z ≤ N → (b = 1 ↔ (1 ≤ y ∧ y ≤ 4) ∧ (0 ≤ l ∧ l ≤ 500) ∧ tiV I (tiS I 0) = 1 ∧ okIn R N fr z.toNat (ptN N fr z.toNat) y)) ∧ (c = 1 ↔ N < 24) := by
    intro ν1 hf h1 hno
    refine ⟨_, 0, _, ν1, hf, ?_, ha, Or.inl rfl, hc, ha1, fun q => ⟨fun w => absurd w (by decide), fun w => absurd w (hno q)⟩, hc1⟩
    unfold sh_X12_insert_80
    rw [e81 ν1 _ _ h1]
    rfl
  unfold i32 at hz hy hl
  have li24 : (0 : Int64) = (jv 0).toInt64 := li0
  unfold sh_X12_insert
  simp only [jv_lit]
  rw [mbl9 hm, Option.bind_some, hN.1, li0, in_b (by unfold i32; omega) (by unfold i32; omega) (by unfold i32; omega), Option.bind_some, li1, li4, in_b (by unfold i32; omega) (by unfold i32; omega) (by unfold i32; omega), Option.bind_some]
  by_cases q1 : 1 ≤ y ∧ y ≤ 4
  · rw [if_pos q1, if_neg (show ¬ jv 1 = jv 0 by decide), li500, in_b (by unfold i32; omega) (by unfold i32; omega) (by unfold i32; omega), Option.bind_some]
    by_cases q2 : 0 ≤ l ∧ l ≤ 500
    · obtain ⟨ν1, e1, f1⟩ := ittM (n := n) (by omega) hi
      have m1 : MB 307 ν1 R := hm.fr f1 (fun i _ => by omega)
      rw [if_pos q2, if_neg (show ¬ jv 1 = jv 0 by decide), e1, Option.bind_some]
      by_cases q3 : tiV I (tiS I 0) = 1
      · rw [show jv (tiV I (tiS I 0)) = jv 1 by rw [q3], if_neg (show ¬ jv 1 = jv 0 by decide)]
        unfold sh_X12_insert_52
        rw [if_neg (show ¬ jv 1 = (0 : Int32) by decide)]
        by_cases q4 : 0 ≤ z ∧ z ≤ N
        · obtain ⟨s, rfl⟩ : ∃ s : Nat, z = s := ⟨z.toNat, by omega⟩
          have ec := cbM (s := s) (lv := y) hw m1 (by omega) q1
          rw [if_neg (show ¬ jv (if 0 ≤ (s : Int) ∧ (s : Int) ≤ N then 1 else 0) = (0 : Int32) by rw [if_pos q4]; decide), ec, Option.bind_some]
          by_cases q5 : okIn R N fr s (ptN N fr s) y
          · rw [if_pos q5, if_neg (show ¬ jv 1 = (0 : Int32) by decide)]
            refine ⟨_, 1, _, ν1, f1, ?_, ha, Or.inr rfl, hc, ha1, fun _ => ⟨fun _ => ⟨q1, q2, q3, by rw [Int.toNat_natCast]; exact q5⟩, fun _ => rfl⟩, hc1⟩
            unfold sh_X12_insert_76
            rw [e81 ν1 _ _ m1]
            rfl
          · rw [if_neg q5, if_pos (show jv 0 = (0 : Int32) by decide)]
            exact no ν1 f1 m1 (fun _ w => q5 (by have := w.2.2.2; rw [Int.toNat_natCast] at this; exact this))
        · rw [if_pos (show jv (if 0 ≤ z ∧ z ≤ N then 1 else 0) = (0 : Int32) by rw [if_neg q4]; decide)]
          refine ⟨_, 1, _, ν1, f1, ?_, ha, Or.inr rfl, hc, ha1, fun w => absurd w q4, hc1⟩
          unfold sh_X12_insert_76
          rw [e81 ν1 _ _ m1]
          rfl
      · have h0 : tiV I (tiS I 0) = 0 := tiV_b.resolve_right q3
        rw [show jv (tiV I (tiS I 0)) = jv 0 by rw [h0], if_pos (show jv 0 = jv 0 from rfl)]
        unfold sh_X12_insert_51 sh_X12_insert_52
        rw [if_pos rfl]
        exact no ν1 f1 m1 (fun _ w => q3 w.2.2.1)
    · rw [if_neg q2, if_pos (show jv 0 = jv 0 from rfl)]
      unfold sh_X12_insert_51 sh_X12_insert_52
      rw [if_pos rfl]
      exact no ν Fm.rf hm (fun _ w => q2 w.2.1)
  · rw [if_neg q1, if_pos (show jv 0 = jv 0 from rfl)]
    unfold sh_X12_insert_51 sh_X12_insert_52
    rw [if_pos rfl]
    exact no ν Fm.rf hm (fun _ w => q1 w.1)
theorem q_insert (hn : 120000 ≤ n) {μ : Mm} (h : ST μ I O R N fr) (a b d : Int32) : Qs [2, 1, 0] μ I O (sh_X11_insert n a b d μ) (sh_X12_insert n a b d) := by
  have hq := h.qs
  have hw := hq.1
  have hN := hw.1
  obtain ⟨z, z1, z2, rfl⟩ := jv_ex a
  obtain ⟨y, y1, y2, rfl⟩ := jv_ex b
  obtain ⟨l, l1, l2, rfl⟩ := jv_ex d
  have hio := h.2.2.2.1
  -- where nothing is changed
  have out : ∀ (e : Nat) (i : Nat) (μ1 : Mm), ST μ1 I O R N fr → ([2, 1, 0] : List Nat)[i]? = some e → (i = 0 → ¬ (0 ≤ z ∧ z ≤ N)) → (0 < i → 0 ≤ z ∧ z ≤ N) → (i = 1 → ¬ ((1 ≤ y ∧ y ≤ 4) ∧ (0 ≤ l ∧ l ≤ 500) ∧ tiV I (tiS I 0) = 1 ∧ okIn R N fr z.toNat (ptN N fr z.toNat) y)) → (1 < i → ((1 ≤ y ∧ y ≤ 4) ∧ (0 ≤ l ∧ l ≤ 500) ∧ tiV I (tiS I 0) = 1 ∧ okIn R N fr z.toNat (ptN N fr z.toNat) y) ∧ ¬ N < 24) → i < 3 → Qs [2, 1, 0] μ I O (some (.inl (e, μ1))) (sh_X12_insert n (jv z) (jv y) (jv l)) := by
    intro e i μ1 s1 he h0 h1 h2 h3 h4
    obtain ⟨a, b, c, ν1, f1, e1, ha, hb, hc, ka, kb, kc⟩ := in98 (n := n) (by omega) hw s1.qs.2.2.2 s1.2.2.2.1.2.1 (z := z) (y := y) (l := l) ⟨z1, z2⟩ ⟨y1, y2⟩ ⟨l1, l2⟩
    have s2 : ST ν1 I O R N fr := s1.kv (Fw.of (f1.mono (fun k j w => by omega)))
    have hno : ¬ (a = 1 ∧ b = 1 ∧ c = 1) := by
      rintro ⟨q1, q2, q3⟩
      have w1 := ka.mp q1
      have w2 := (kb w1).mp q2
      have w3 := kc.mp q3
      rcases (by omega : i = 0 ∨ i = 1 ∨ i = 2) with rfl | rfl | rfl
      · exact h0 rfl w1
      · exact h2 rfl w2
      · exact (h3 (by omega)).2 w3
    have eo : sh_X12_insert n (jv z) (jv y) (jv l) μ1 = some (jv 0, sI ν1 306 0 (jv ((i : Int) + 1))) := by
      rw [e1]
      unfold sh_X12_insert_98
      rw [pas3 ha hb hc, Option.bind_some, if_neg hno, if_pos (show jv 0 = (0 : Int32) by decide)]
      congr 3
      rcases (by omega : i = 0 ∨ i = 1 ∨ i = 2) with rfl | rfl | rfl
      · have : a = 0 := ha.resolve_right (fun q => h0 rfl (ka.mp q))
        rw [if_pos this]
        rfl
      · have hz := h1 (by omega)
        have q1 : a = 1 := ka.mpr hz
        have q2 : b = 0 := hb.resolve_right (fun q => h2 rfl ((kb hz).mp q))
        rw [if_neg (by omega), if_pos q2]
        rfl
      · have hz := h1 (by omega)
        have q1 : a = 1 := ka.mpr hz
        obtain ⟨w1, w2⟩ := h3 (by omega)
        have q2 : b = 1 := (kb hz).mpr w1
        have q3 : c = 0 := hc.resolve_right (fun q => w2 (kc.mp q))
        rw [if_neg (by omega), if_neg (by omega), if_pos q3]
        rfl
    exact ⟨.inl e, μ1, jv 0, sI ν1 306 0 (jv ((i : Int) + 1)), I, O, R, N, fr, rfl, eo, ⟨i, he, by rw [sI_1, if_pos ⟨rfl, rfl⟩]⟩, s2.th _⟩
  unfold sh_X11_insert sh_X11_insert_18
  rw [hq.2.1.2.2.1.2.1]
  by_cases hz0 : z < 0
  · rw [if_pos (by rw [jv_lit (nat_lit 0), jv_lt] <;> omega)]
    exact out 2 0 μ h rfl (fun _ w => by omega) (fun w => by omega) (fun w => by omega) (fun w => by omega) (by omega)
  · rw [if_neg (by rw [jv_lit (nat_lit 0), jv_lt] <;> omega)]
    by_cases hzN : z ≤ N
    · rw [if_pos (by rw [jv_le] <;> omega), ckLv ⟨y1, y2⟩, Option.bind_some]
      have hz : 0 ≤ z ∧ z ≤ N := ⟨by omega, hzN⟩
      by_cases hy : 1 ≤ y ∧ y ≤ 4
      · rw [if_pos hy, Sum.elim_inr, ckLen ⟨l1, l2⟩, Option.bind_some]
        by_cases hl : 0 ≤ l ∧ l ≤ 500
        · obtain ⟨μ1, e1, f1, t1⟩ := rtC (n := n) (by omega) hio.1 hio.2.1.2.1
          have h1 : ST μ1 I O R N fr := h.sr.kv (f1.mono (fun k j w => by omega) (fun k w => by omega))
          rw [if_pos hl, Sum.elim_inr]
          unfold sh_X11_checkTitle
          rw [e1, Option.bind_some]
          by_cases hv : tiV I (tiS I 0) = 0
          · rw [hv, if_pos (show jv 0 = (0 : Int32) from rfl), Option.bind_some, Sum.elim_inl]
            exact out 1 1 μ1 h1 rfl (fun w => by omega) (fun _ => hz) (fun _ w => by rw [hv] at w; exact absurd w.2.2.1 (by decide)) (fun w => by omega) (by omega)
          · obtain ⟨x, hx, hx0, hv1⟩ := tiV_1 hv
            obtain ⟨s, rfl⟩ : ∃ s : Nat, z = s := ⟨z.toNat, by omega⟩
            have hs : s ≤ N := by omega
            have hpt := ptN_b hs hN.2.2
            have hp01 : ptN N fr s = 0 ∨ ptN N fr s = 1 := by omega
            rw [hv1, if_neg one_ne, Option.bind_some, Sum.elim_inr, pnC hw h1.qs.2.1 hs, Option.bind_some, lsI hw h1.qs.2.1 hs hpt hy, Option.bind_some]
            by_cases ho : okIn R N fr s (ptN N fr s) y
            · rw [if_pos ho, if_neg one_ne, h1.qs.2.1.2.2.1.2.1]
              by_cases h24 : N < 24
              · rw [if_pos (show jv (N : Int) < (24 : Int32) by rw [jv_lit (nat_lit 24), jv_lt] <;> omega)]
                have ht := t1 x hx hx0
                have hok := okW.of (Nat.zero_le _) hx
                obtain ⟨hF, hlow, hfrm⟩ := insF_of (R := R) (N := N) (s := s) (lv := y) (ln := l) (pt := ptN N fr s) (I := I) (p := 0) hs hok.1.2
                have hw' := hw.ins h24 hs hF hy hl hpt hok ho
                obtain ⟨hsn, hL, h22, hio1, hun⟩ := id h1
                obtain ⟨u, nx, hunr⟩ := hun
                obtain ⟨hu, hnx, h8, h7, h47, hpast⟩ := id hunr
                obtain ⟨μ2, e2, s2, a7, a8, f2⟩ := kfu (nx := nx) (u := u) hsn hu hnx h8 h7
                have c2 : CB 11 μ2 R N fr := hsn.2.1.fw f2 (fun q j a b w => by omega) (fun q a b w => by omega)
                obtain ⟨μ3, e3, ⟨n2, n3⟩, n4, n5, f3⟩ := opC (k := 11) (pt := ptN N fr s) c2.1 h24 hs c2.2.2.1.2.1 c2.2.2.1.2.2 hp01
                have l15 : ln (14 + 1) = 24 := rfl
                have l17 : ln (16 + 1) = 24 := rfl
                have f4 : Fm (fun k j => (k = 15 ∨ k = 17) ∧ j = s) μ3 (sI (sI μ3 15 s (jv y)) 17 s (jv l)) := (Fm.rf.sI (by omega)).sI (by omega)
                have e53 : (sI (sI μ3 15 s (jv y)) 17 s (jv l)).1 5 3 = jv x := by rw [f4.at _ _ (by omega), f3.1 _ _ (by omega), f2.1 _ _ (by omega)]; exact ht.1
                have v15 : (sI (sI μ3 15 s (jv y)) 17 s (jv l)).1 15 s = jv y := by rw [sI_1, if_neg (by omega), sI_1, if_pos ⟨rfl, rfl⟩]
                have v17 : (sI (sI μ3 15 s (jv y)) 17 s (jv l)).1 17 s = jv l := by rw [sI_1, if_pos ⟨rfl, rfl⟩]
                have e4 : sh_X5_put 14 (jv s) (jv y) μ3 = some (sI μ3 15 s (jv y)) := by rw [p5_in (by omega) (by omega), Int.toNat_natCast]
                have e5 : sh_X5_put 16 (jv s) (jv l) (sI μ3 15 s (jv y)) = some (sI (sI μ3 15 s (jv y)) 17 s (jv l)) := by rw [p5_in (by omega) (by omega), Int.toNat_natCast]
                generalize hμ5 : (sI (sI μ3 15 s (jv y)) 17 s (jv l)) = μ5 at *
                obtain ⟨μ6, e6, w1, w2, w3, f6⟩ := enC (n := n) (by omega) (k := 11) rfl rfl (by omega) (s := s) (by omega) hok.1.2 (μ := μ5)
                have f7 : Fm (fun k j => k = 1 ∧ j = 1) μ6 (sI μ6 1 1 (jv 0)) := Fm.rf.sI ⟨rfl, rfl⟩
                have c7 : CB 11 (sI μ6 1 1 (jv 0)) (tiR (insB R N s y l (ptN N fr s)) s I 0 x) (N + 1) (if ptN N fr s = 0 then fr + 1 else fr) := by
                  refine CB.ins hw c2 hs hF hok (fun i hi => ?_) ?_ ?_ ?_ (fun j hj hjs => ⟨?_, ?_, ?_, fun w hww => ?_⟩) ⟨?_, ?_, ?_, fun w hww => ?_⟩
                  · rw [f7.at _ _ (by omega), f6.1 _ _ (by omega), f4.at _ _ (by omega), f3.1 _ _ (by omega)]
                  · rw [f7.at _ _ (by omega), f6.1 _ _ (by omega), f4.at _ _ (by omega), f3.1 _ _ (by omega)]
                  · rw [f7.at _ _ (by omega), f6.1 _ _ (by omega), f4.at _ _ (by omega)]
                    exact n2
                  · rw [f7.at _ _ (by omega), f6.1 _ _ (by omega), f4.at _ _ (by omega)]
                    exact n3
                  · rw [f7.at _ _ (by omega), f6.1 _ _ (by omega), f4.at _ _ (by omega)]
                    exact (n4 j hj hjs).1
                  · rw [f7.at _ _ (by omega), f6.1 _ _ (by omega), f4.at _ _ (by omega)]
                    exact (n4 j hj hjs).2.1
                  · rw [f7.at _ _ (by omega), f6.1 _ _ (by omega), f4.at _ _ (by omega)]
                    exact (n4 j hj hjs).2.2.1
                  · rw [f7.1, w3 _ (by omega), f4.1]
                    exact (n4 j hj hjs).2.2.2.2 w hww
                  · rw [f7.at _ _ (by omega), f6.1 _ _ (by omega)]
                    exact v15
                  · rw [f7.at _ _ (by omega), f6.1 _ _ (by omega)]
                    exact v17
                  · rw [f7.at _ _ (by omega)]
                    exact w1
                  · rw [f7.1, w2 w hww, f4.1, f3.2.1 _ _ (by omega), f2.2.1 _ _ (by omega)]
                    exact ht.2 w hww
                obtain ⟨μ8, e8, f8, L8⟩ := layA (n := n) (t := 38) (kb := 11) (by omega) hw' (by omega) hL.1 (by omega) c7
                have F18 : Fw (fun k j => k = 0 ∧ (j = 7 ∨ j = 8) ∨ 144 ≤ k ∧ k ≤ 305 ∨ k = 11 ∧ j ≠ 0 ∨ 12 ≤ k ∧ k ≤ 23 ∨ k = 1 ∧ j = 1 ∨ 38 ≤ k ∧ k ≤ 79) (fun k => 144 ≤ k ∧ k ≤ 305 ∨ k = 21) μ1 μ8 := (((((f2.mono (fun k j w => by omega) (fun k w => by omega)).tr f3 (fun k j w => by omega) (fun k w => by omega)).tr (Fw.of (Q := fun _ => False) f4) (fun k j w => by omega) (fun _ w => w.elim)).tr f6 (fun k j w => by omega) (fun k w => by omega)).tr (Fw.of (Q := fun _ => False) f7) (fun k j w => by omega) (fun _ w => w.elim)).tr (Fw.of (Q := fun _ => False) f8) (fun k j w => by omega) (fun _ w => w.elim)
                have m8 : MB 307 μ8 R := h1.qs.2.2.2.fw F18 (fun i _ => by omega)
                have i8 : Ix μ8 I := ⟨hio1.2.1.1, hio1.2.1.2.1, by rw [F18.1 _ _ (by omega)]; exact hio1.2.1.2.2.1, fun i hi => by rw [F18.1 _ _ (by omega)]; exact hio1.2.1.2.2.2 i hi⟩
                obtain ⟨a, b, c, ν1, g1, d1, ha, hb, hc, ka, kb, kc⟩ := in98 (n := n) (by omega) hw m8 i8 (z := s) (y := y) (l := l) ⟨z1, z2⟩ ⟨y1, y2⟩ ⟨l1, l2⟩
                have qa : a = 1 := ka.mpr hz
                have qb : b = 1 := (kb hz).mpr ⟨hy, hl, hv1, by rw [Int.toNat_natCast]; exact ho⟩
                have qc : c = 1 := kc.mpr h24
                have g2 : Fm (fun k j => k = 306 ∧ j = 0) ν1 (sI ν1 306 0 (jv 0)) := Fm.rf.sI ⟨rfl, rfl⟩
                obtain ⟨ν3, d3, u3, g3⟩ := keep2 (n := n) hn (ν := sI ν1 306 0 (jv 0)) hunr hsn e2 (fun k j q1 q2 => by rw [g2.at _ _ (by omega), g1.at _ _ (by omega), f8.at _ _ (by omega), f7.at _ _ (by omega), f6.1 _ _ (by omega), f4.at _ _ (by omega), f3.1 _ _ (by omega)]) (fun k j q => by rw [g2.1, g1.1, f8.1, f7.1, f6.2.1 _ _ (by omega), f4.1, f3.2.1 _ _ (by omega)]) (by rw [g2.1, g1.1, f8.1, f7.1, f6.2.2, f4.1, f3.2.2])
                have m3 : MB 307 ν3 R := ((m8.fr g1 (fun i _ => by omega)).fr g2 (fun i _ => by omega)).fr g3 (fun i _ => by omega)
                have i3 : Ix ν3 I := ((i8.kp g1 (by omega) (fun j => by omega)).kp g2 (by omega) (fun j => by omega)).kp g3 (by omega) (fun j => by omega)
                obtain ⟨ν4, d4, m4, g4⟩ := mvM (n := n) (by omega) hw h24 hs m3
                have t0 : sh_X12_set (jv s) (jv 0) (jv y) ν4 = _ := m4.st (w := 0) (by omega) (by omega) (jv y)
                have m5 := m4.up (j := 12 + 102 * s + 0) (v := y) (by omega)
                have t1' : sh_X12_set (jv s) (jv 1) (jv l) (sI ν4 307 (12 + 102 * s + 0) (jv y)) = _ := m5.st (w := 1) (by omega) (by omega) (jv l)
                have m6 := m5.up (j := 12 + 102 * s + 1) (v := l) (by omega)
                have t2 : sh_X12_set (jv s) (jv 2) (jv (ptN N fr s)) (sI (sI ν4 307 (12 + 102 * s + 0) (jv y)) 307 (12 + 102 * s + 1) (jv l)) = _ := m6.st (w := 2) (by omega) (by omega) (jv (ptN N fr s))
                have m7 := m6.up (j := 12 + 102 * s + 2) (v := ptN N fr s) (by omega)
                have t4 : sh_X12_set (jv s) (jv 4) (jv (-1)) (sI (sI (sI ν4 307 (12 + 102 * s + 0) (jv y)) 307 (12 + 102 * s + 1) (jv l)) 307 (12 + 102 * s + 2) (jv (ptN N fr s))) = _ := m7.st (w := 4) (by omega) (by omega) (jv (-1))
                have m9 := m7.up (j := 12 + 102 * s + 4) (v := -1) (by omega)
                have t5 : sh_X12_set (jv s) (jv 5) (jv 0) (sI (sI (sI (sI ν4 307 (12 + 102 * s + 0) (jv y)) 307 (12 + 102 * s + 1) (jv l)) 307 (12 + 102 * s + 2) (jv (ptN N fr s))) 307 (12 + 102 * s + 4) (jv (-1))) = _ := m9.st (w := 5) (by omega) (by omega) (jv 0)
                have m10 := m9.up (j := 12 + 102 * s + 5) (v := 0) (by omega)
                have g5 : Fm (fun k j => k = 307 ∧ j < 2460) ν4 (sI (sI (sI (sI (sI ν4 307 (12 + 102 * s + 0) (jv y)) 307 (12 + 102 * s + 1) (jv l)) 307 (12 + 102 * s + 2) (jv (ptN N fr s))) 307 (12 + 102 * s + 4) (jv (-1))) 307 (12 + 102 * s + 5) (jv 0)) := ((((Fm.rf.sI ⟨rfl, by omega⟩).sI ⟨rfl, by omega⟩).sI ⟨rfl, by omega⟩).sI ⟨rfl, by omega⟩).sI ⟨rfl, by omega⟩
                have i10 := (i3.kp g4 (by omega) (fun j => by omega)).kp g5 (by omega) (fun j => by omega)
                generalize hν5 : (sI (sI (sI (sI (sI ν4 307 (12 + 102 * s + 0) (jv y)) 307 (12 + 102 * s + 1) (jv l)) 307 (12 + 102 * s + 2) (jv (ptN N fr s))) 307 (12 + 102 * s + 4) (jv (-1))) 307 (12 + 102 * s + 5) (jv 0)) = ν5 at *
                obtain ⟨ν6, d6, m11, a9, g6⟩ := taT (n := n) (by omega) (s := s) (by omega) hx hx0 i10 m10
                have hR9 : tiR (insB R N s y l (ptN N fr s)) s I 0 x 9 = ((N + 1 : Nat) : Int) := by rw [hF.1]; omega
                have l9 : ld ν6 307 (jv 9) = some (jv ((N + 1 : Nat) : Int)) := by
                  have := mbl9 m11
                  rw [show (bup (bup (bup (bup (bup (movR R N s) (12 + 102 * s + 0) y) (12 + 102 * s + 1) l) (12 + 102 * s + 2) (ptN N fr s)) (12 + 102 * s + 4) (-1)) (12 + 102 * s + 5) 0) = insB R N s y l (ptN N fr s) from rfl, hR9] at this
                  exact this
                have G86 : Fm (fun k j => k = 306 ∧ (j = 0 ∨ j = 47 ∨ 5 ≤ j ∧ j ≤ 10) ∨ k = 329 ∨ k = 307 ∧ j < 2460) μ8 ν6 := (((((g1.mono (fun k j w => by omega)).tr g2 (fun k j w => by omega)).tr g3 (fun k j w => by omega)).tr g4 (fun k j w => by omega)).tr g5 (fun k j w => by omega)).tr g6 (fun k j w => by omega)
                have F : Fw (fun k j => k = 0 ∧ (j = 7 ∨ j = 8) ∨ 144 ≤ k ∧ k ≤ 305 ∨ k = 11 ∧ j ≠ 0 ∨ 12 ≤ k ∧ k ≤ 23 ∨ k = 1 ∧ j = 1 ∨ 38 ≤ k ∧ k ≤ 79 ∨ k = 306 ∧ (j = 0 ∨ j = 47 ∨ 5 ≤ j ∧ j ≤ 10) ∨ k = 329 ∨ k = 307 ∧ j < 2460) (fun k => 144 ≤ k ∧ k ≤ 305 ∨ k = 21) μ1 ν6 := (F18.mono (fun k j w => by omega) (fun _ w => w)).tr (Fw.of (Q := fun _ => False) G86) (fun k j w => by omega) (fun _ w => w.elim)
                have c9 : CB 11 ν6 (tiR (insB R N s y l (ptN N fr s)) s I 0 x) (N + 1) (if ptN N fr s = 0 then fr + 1 else fr) := (c7.fr f8 (fun q j a b w => by omega)).fr G86 (fun q j a b w => by omega)
                have e1z : ν6.1 1 1 = jv 0 := by rw [G86.at _ _ (by omega), f8.at _ _ (by omega), sI_1, if_pos ⟨rfl, rfl⟩]
                have o23 : ∀ j, ν6.1 23 j = μ3.1 23 j := fun j => by rw [G86.at _ _ (by omega), f8.at _ _ (by omega), f7.at _ _ (by omega), f6.1 _ _ (by omega), f4.at _ _ (by omega)]
                have c82 : μ8.1 11 2 = jv ((N + 1 : Nat) : Int) := by rw [f8.at _ _ (by omega)]; exact c7.2.2.1.2.1
                refine ⟨.inr (jv ((N + 1 : Nat) : Int)), μ8, jv ((N + 1 : Nat) : Int), ν6, [], O, _, _, _, ?_, ?_, ⟨?_, rfl⟩, ⟨hw', c9, m11.2.2, ?_⟩, L8.kp G86 (fun q j a b w => by omega), by rw [F.2.2]; exact h22, hio1.inp2 ⟨Nat.zero_le _, e1z, fun i hi => absurd hi (by show ¬ i < 0; omega)⟩ ⟨Nat.zero_le _, fun i hi => absurd hi (by show ¬ i < 0; omega), a9, fun i hi => absurd hi (by show ¬ i < 0; omega)⟩ (fun k j w => F.1 _ _ (by omega)), u3.fw (Fw.of (P := fun k j => k = 306 ∧ 5 ≤ j ∧ j ≤ 10 ∨ k = 307 ∧ j < 2460) (Q := fun _ => False) (((g4.mono (fun k j w => by omega)).tr g5 (fun k j w => by omega)).tr g6 (fun k j w => by omega))) (fun k j w => by omega) (fun _ w => w.elim)⟩
                · rw [e2, Option.bind_some, e3, Option.bind_some, e4, Option.bind_some, e5, Option.bind_some, e53, e6, Option.bind_some]
                  unfold sh_X8_cut
                  rw [jv_lit (nat_lit 0), pt_eq, Option.bind_some, Option.bind_some, e8, Option.bind_some, c82]
                  rfl
                · rw [d1]
                  unfold sh_X12_insert_98
                  rw [pas3 ha hb hc, Option.bind_some, if_pos (⟨qa, qb, qc⟩ : a = 1 ∧ b = 1 ∧ c = 1), if_neg (show ¬ a = 0 by omega), if_neg (show ¬ b = 0 by omega), if_neg (show ¬ c = 0 by omega), if_neg one_ne, d3, Option.bind_some, pfM hw m3 hs, Option.bind_some]
                  simp only [jv_lit]
                  rw [d4, Option.bind_some, t0, Option.bind_some, t1', Option.bind_some, t2, Option.bind_some, jv_neg, t4, Option.bind_some, t5, Option.bind_some, d6, Option.bind_some, l9, Option.bind_some]
                · rw [g6.at _ _ (by omega), g5.at _ _ (by omega), g4.at _ _ (by omega), g3.at _ _ (by omega), sI_1, if_pos ⟨rfl, rfl⟩]
                · refine hsn.2.2.2.mv (hlow 10 (by omega) (by omega)) (hlow 11 (by omega) (by omega)) (fun i hi => F.1 _ _ (by omega)) (F.1 _ _ (by omega)) (fun k j a b => F.1 _ _ (by omega)) (fun k j a b => F.2.1 _ _ (by omega)) (fun j hj => ?_)
                  by_cases w : j = s
                  · rw [w]
                    exact Or.inl ⟨hfrm, by rw [o23]; exact n5.2.2⟩
                  · refine Or.inr ⟨sh2 s j, by unfold sh2; split <;> omega, (hF.f hj w).2.2.2.2.2.1, (hF.f hj w).2.2.2.2.2.2, ?_⟩
                    rw [o23]
                    exact ((n4 j hj w).2.2.2.1).trans (f2.1 _ _ (by omega))
              · rw [if_neg (show ¬ jv (N : Int) < (24 : Int32) by rw [jv_lit (nat_lit 24), jv_lt] <;> omega)]
                exact out 0 2 μ1 h1 rfl (fun w => by omega) (fun _ => hz) (fun w => by omega) (fun _ => ⟨⟨hy, hl, hv1, by rw [Int.toNat_natCast]; exact ho⟩, h24⟩) (by omega)
            · rw [if_neg ho, if_pos (show jv 0 = (0 : Int32) by decide)]
              exact out 1 1 μ1 h1 rfl (fun w => by omega) (fun _ => hz) (fun _ w => ho (by have := w.2.2.2; rw [Int.toNat_natCast] at this; exact this)) (fun w => by omega) (by omega)
        · rw [if_neg hl, Sum.elim_inl]
          exact out 1 1 μ h rfl (fun w => by omega) (fun _ => hz) (fun _ w => hl w.2.1) (fun w => by omega) (by omega)
      · rw [if_neg hy, Sum.elim_inl]
        exact out 1 1 μ h rfl (fun w => by omega) (fun _ => hz) (fun _ w => hy w.1) (fun w => by omega) (by omega)
    · rw [if_neg (by rw [jv_le] <;> omega)]
      exact out 2 0 μ h rfl (fun _ w => hzN w.2) (fun w => by omega) (fun w => by omega) (fun w => by omega) (by omega)
end INB
