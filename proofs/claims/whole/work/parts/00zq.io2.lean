/-! CALLS that change input or output -/
abbrev PE : Nat → Nat → Prop := fun k j => k ≤ 9 ∧ ¬ (k = 0 ∧ (j = 7 ∨ j = 8)) ∨ 80 ≤ k ∧ k ≤ 143 ∨ k = 306 ∧ j ≠ 47 ∨ k = 308 ∨ k = 309 ∨ 310 ≤ k ∧ k ≤ 328 ∨ k = 330
theorem PV_E : ∀ k j, PV k j → PE k j := fun k j h => by omega
theorem PQ_E : ∀ k j, PQ k j → PE k j := fun k j h => by omega
theorem EA.inp {μ μ' : Mm} {I I' O : List Int} (h : EA μ I O) (h1 : Tx 1 μ' I') (h2 : Ix μ' I') (hs : ∀ k j, (k = 3 ∨ k = 4 ∨ k = 306 ∧ (j = 49 ∨ j = 11 ∨ j = 12) ∨ k = 330 ∨ k = 0) → μ'.1 k j = μ.1 k j) : EA μ' I' O := by
  obtain ⟨_, _, ⟨c1, c2, c3⟩, ⟨d1, d2⟩, e1, e2⟩ := h
  refine ⟨h1, h2, ⟨c1, by rw [hs _ _ (by omega), c2], fun i hi => by rw [hs _ _ (by omega), c3 i hi]⟩, ⟨by rw [hs _ _ (by omega), d1], fun i hi => by rw [hs _ _ (by omega), d2 i hi]⟩, ?_, ?_⟩
  · rw [hs _ _ (by omega), hs _ _ (by omega), e1]
  · rw [hs _ _ (by omega), hs _ _ (by omega), e2]
theorem EA.out {μ μ' : Mm} {I O O' : List Int} (h : EA μ I O) (h1 : Tx 3 μ' O') (h2 : μ'.1 306 49 = jv O'.length) (h3 : ∀ i, i < O'.length → μ'.1 330 i = jv (O'.getD i 0)) (hs : ∀ k j, (k = 1 ∨ k = 2 ∨ k = 306 ∧ (j = 5 ∨ j = 11 ∨ j = 12) ∨ k = 309 ∨ k = 0) → μ'.1 k j = μ.1 k j) : EA μ' I O' := by
  obtain ⟨⟨a1, a2, a3⟩, ⟨b1, b2, b3, b4⟩, _, _, e1, e2⟩ := h
  refine ⟨⟨a1, by rw [hs _ _ (by omega), a2], fun i hi => by rw [hs _ _ (by omega), a3 i hi]⟩, ⟨b1, b2, by rw [hs _ _ (by omega), b3], fun i hi => by rw [hs _ _ (by omega), b4 i hi]⟩, h1, ⟨h2, h3⟩, ?_, ?_⟩
  · rw [hs _ _ (by omega), hs _ _ (by omega), e1]
  · rw [hs _ _ (by omega), hs _ _ (by omega), e2]
section IOQ
variable {n : Nat} {R : Nat → Int} {N fr : Nat}
theorem QS.ke {μ μ' : Mm} (h : QS μ R N fr) (hf : Fw PE QV μ μ') : QS μ' R N fr := ⟨h.1, h.2.1.fw hf (fun q j a b y => by omega) (fun q a b y => by omega), h.2.2.1.fw hf (fun q j a b y => by omega), h.2.2.2.fw hf (fun i _ y => by omega)⟩
theorem len4 (v : Int32) : (b4 v).length = 4 := rfl
theorem Ix.kp {μ μ' : Mm} {I : List Int} {P : Nat → Nat → Prop} (h : Ix μ I) (hf : Fm P μ μ') (h1 : ¬ P 306 5) (h2 : ∀ j, ¬ P 309 j) : Ix μ' I := ⟨h.1, h.2.1, by rw [hf.at _ _ h1, h.2.2.1], fun i hi => by rw [hf.at _ _ (h2 i), h.2.2.2 i hi]⟩
theorem Tx.kp {t : Nat} {μ μ' : Mm} {L : List Int} {P : Nat → Nat → Prop} (h : Tx t μ L) (hf : Fm P μ μ') (h1 : ¬ P t 1) (h2 : ∀ j, ¬ P (t + 1) j) : Tx t μ' L := ⟨h.1, by rw [hf.at _ _ h1, h.2.1], fun i hi => by rw [hf.at _ _ (h2 i), h.2.2 i hi]⟩
theorem q_append (hn : 10 ≤ n) {μ : Mm} {I O : List Int} (hio : EA μ I O) (a b c d e : Int32) : ∃ x μ1 v μ2 I', sh_X11_append a b c d e μ = some (Sum.elim (fun e => .inl (e, μ1)) (fun r => .inr (r, μ1)) x) ∧ sh_X12_append n a b c d e μ1 = some (v, μ2) ∧ Fw PE QV μ μ2 ∧ Ag [0] x v (μ2.1 306 0) ∧ EA μ2 I' O := by
  obtain ⟨hx, hi, _⟩ := id hio
  have hl := hi.1
  have lk : ∀ (L : List Int) (v : Int32), (L ++ b4 v).length = L.length + 4 := fun L v => by rw [List.length_append, len4]
  unfold sh_X11_append sh_X8_length
  rw [Option.bind_some, hx.2.1]
  simp only [jv_lit]
  rw [jv_add]
  unfold sh_X12_append sh_X12_append_19
  simp only [jv_lit]
  by_cases z : I.length + 20 ≤ 1100
  · rw [if_pos (by rw [jv_le] <;> omega)]
    obtain ⟨μ1, e1, x1, f1⟩ := p4 hx (by omega) a
    obtain ⟨μ2, e2, x2, f2⟩ := p4 x1 (by rw [lk]; omega) b
    obtain ⟨μ3, e3, x3, f3⟩ := p4 x2 (by rw [lk, lk]; omega) c
    obtain ⟨μ4, e4, x4, f4⟩ := p4 x3 (by rw [lk, lk, lk]; omega) d
    obtain ⟨μ5, e5, x5, f5⟩ := p4 x4 (by rw [lk, lk, lk, lk]; omega) e
    have F : Fm (PT 1) μ μ5 := (((f1.tr f2 (fun _ _ y => y)).tr f3 (fun _ _ y => y)).tr f4 (fun _ _ y => y)).tr f5 (fun _ _ y => y)
    have f6 : Fm (fun k j => k = 306 ∧ j = 0) μ5 (sI μ5 306 0 (jv 0)) := Fm.rf.sI ⟨rfl, rfl⟩
    have i6 : Ix (sI μ5 306 0 (jv 0)) I := (hi.kp F (by omega) (fun j => by omega)).kp f6 (by omega) (fun j => by omega)
    obtain ⟨ν1, d1, i1, g1⟩ := ap4 hn i6 (by omega) a
    obtain ⟨ν2, d2, i2, g2⟩ := ap4 hn i1 (by rw [lk]; omega) b
    obtain ⟨ν3, d3, i3, g3⟩ := ap4 hn i2 (by rw [lk, lk]; omega) c
    obtain ⟨ν4, d4, i4, g4⟩ := ap4 hn i3 (by rw [lk, lk, lk]; omega) d
    obtain ⟨ν5, d5, i5, g5⟩ := ap4 hn i4 (by rw [lk, lk, lk, lk]; omega) e
    have G : Fm PI (sI μ5 306 0 (jv 0)) ν5 := (((g1.tr g2 (fun _ _ y => y)).tr g3 (fun _ _ y => y)).tr g4 (fun _ _ y => y)).tr g5 (fun _ _ y => y)
    have e306 : μ5.1 306 5 = jv I.length := by rw [F.at _ _ (by omega), hi.2.2.1]
    refine ⟨.inr (jv (I ++ b4 a ++ b4 b ++ b4 c ++ b4 d ++ b4 e).length), μ5, jv (I ++ b4 a ++ b4 b ++ b4 c ++ b4 d ++ b4 e).length, ν5, I ++ b4 a ++ b4 b ++ b4 c ++ b4 d ++ b4 e, ?_, ?_, ?_, ⟨?_, ?_⟩, ?_⟩
    · rw [e1, Option.bind_some, e2, Option.bind_some, e3, Option.bind_some, e4, Option.bind_some, e5, Option.bind_some, Option.bind_some, x5.2.1]
      rfl
    · rw [e306, jv_add, if_neg (by rw [jv_lt] <;> omega), pas1, Option.bind_some, if_neg (show ¬ jv 1 = jv 0 by decide), d1, Option.bind_some, d2, Option.bind_some, d3, Option.bind_some, d4, Option.bind_some, d5, Option.bind_some, i5.2.2.1]
    · exact ((Fw.of (P := PE) (Q := QV) (F.mono (fun k j y => by omega))).tr (Fw.of (Q := QV) f6) (fun k j y => by omega) (fun _ y => y)).tr (Fw.of (Q := QV) G) (fun k j y => by omega) (fun _ y => y)
    · rw [G.at _ _ (by omega), sI_1, if_pos ⟨rfl, rfl⟩]
    · rfl
    · refine hio.inp ((x5.kp f6 (by omega) (fun j => by omega)).kp G (by omega) (fun j => by omega)) i5 (fun k j q => ?_)
      rw [G.at _ _ (by omega), f6.at _ _ (by omega), F.at _ _ (by omega)]
  · rw [if_neg (by rw [jv_le] <;> omega)]
    have f6 : Fm (fun k j => k = 306 ∧ j = 0) μ (sI μ 306 0 (jv 1)) := Fm.rf.sI ⟨rfl, rfl⟩
    refine ⟨.inl 0, μ, jv 0, sI μ 306 0 (jv 1), I, rfl, ?_, Fw.of (f6.mono (fun k j y => by omega)), ⟨0, rfl, by rw [sI_1, if_pos ⟨rfl, rfl⟩]; rfl⟩, hio.kv (Fw.of (Q := QV) f6) (fun k j y => by omega)⟩
    rw [hi.2.2.1, jv_add, if_pos (by rw [jv_lt] <;> omega), pas0, Option.bind_some, if_pos (show jv 0 = jv 0 from rfl)]
theorem take_g {L : List Int} {a i : Nat} (h : i < a) : (L.take a).getD i 0 = L.getD i 0 := by
  rw [List.getD_eq_getElem?_getD, List.getElem?_take_of_lt h, ← List.getD_eq_getElem?_getD]
theorem q_truncate {μ : Mm} {I O : List Int} (hio : EA μ I O) (a : Int32) : ∃ x μ1 μ2 I', sh_X11_truncate a μ = some (Sum.elim (fun e => .inl (e, μ1)) (fun _ => .inr μ1) x) ∧ sh_X12_truncate a μ1 = some μ2 ∧ Fw PE QV μ μ2 ∧ Ag [1] x (jv 0) (μ2.1 306 0) ∧ EA μ2 I' O := by
  obtain ⟨hx, hi, _⟩ := id hio
  have hl := hi.1
  obtain ⟨z, h1, h2, rfl⟩ := jv_ex a
  unfold sh_X11_truncate sh_X11_truncate_15 sh_X8_length sh_X8_cut
  simp only [jv_lit]
  rw [Option.bind_some, hx.2.1]
  have eM : ∀ ν : Mm, ν.1 306 5 = jv I.length → sh_X12_truncate (jv z) ν = if 0 ≤ z ∧ z ≤ I.length then some (sI (sI ν 306 0 (jv 0)) 306 5 (jv z)) else some (sI ν 306 0 (jv 1)) := by
    intro ν h5
    unfold sh_X12_truncate
    rw [h5, li0, in_b ⟨h1, h2⟩ (by unfold i32; omega) (by unfold i32; omega), Option.bind_some, pas, Option.bind_some]
    by_cases y : 0 ≤ z ∧ z ≤ I.length
    · simp only [if_pos y]
      rw [if_neg one_ne]
      rfl
    · simp only [if_neg y]
      rw [if_pos zro]
  by_cases y : 0 ≤ z ∧ z ≤ I.length
  · obtain ⟨k, rfl⟩ : ∃ k : Nat, z = k := ⟨z.toNat, by omega⟩
    have hk : k ≤ I.length := by omega
    rw [if_neg (by rw [jv_lt] <;> omega), if_pos (by rw [jv_le] <;> omega), pt_eq, Option.bind_some]
    have f1 : Fm (fun k j => k = 1 ∧ j = 1) μ (sI μ 1 1 (jv k)) := Fm.rf.sI ⟨rfl, rfl⟩
    have f2 : Fm (fun k j => k = 306 ∧ (j = 0 ∨ j = 5)) (sI μ 1 1 (jv k)) (sI (sI (sI μ 1 1 (jv k)) 306 0 (jv 0)) 306 5 (jv k)) := (Fm.rf.sI (by omega)).sI (by omega)
    have htl : (I.take k).length = k := by rw [List.length_take]; omega
    refine ⟨.inr (jv 0), sI μ 1 1 (jv k), _, I.take k, rfl, by rw [eM _ (by rw [sI_1, if_neg (by omega)]; exact hi.2.2.1), if_pos y], (Fw.of (P := PE) (Q := QV) (f1.mono (fun k j y => by omega))).tr (Fw.of (Q := QV) f2) (fun k j y => by omega) (fun _ y => y), ⟨by rw [sI_1, if_neg (by omega), sI_1, if_pos ⟨rfl, rfl⟩], rfl⟩, ?_⟩
    refine hio.inp ⟨by rw [htl]; show k ≤ ln 2; have : ln 2 = 1100 := rfl; omega, ?_, fun i hi2 => ?_⟩ ⟨by rw [htl]; omega, fun i hi2 => ?_, ?_, fun i hi2 => ?_⟩ (fun q j w => ?_)
    · rw [f2.at _ _ (by omega), sI_1, if_pos ⟨rfl, rfl⟩, htl]
    · rw [htl] at hi2
      rw [f2.at _ _ (by omega), f1.at _ _ (by omega), hx.2.2 i (by omega), take_g hi2]
    · rw [htl] at hi2
      rw [take_g hi2]
      exact hi.2.1 i (by omega)
    · rw [sI_1, if_pos ⟨rfl, rfl⟩, htl]
    · rw [htl] at hi2
      rw [f2.at _ _ (by omega), f1.at _ _ (by omega), hi.2.2.2 i (by omega), take_g hi2]
    · rw [f2.at _ _ (by omega), f1.at _ _ (by omega)]
  · have f6 : Fm (fun k j => k = 306 ∧ j = 0) μ (sI μ 306 0 (jv 1)) := Fm.rf.sI ⟨rfl, rfl⟩
    have fin : ∃ x μ1 μ2 I', (some (.inl (1, μ)) : Option ((Nat × Mm) ⊕ Mm)) = some (Sum.elim (fun e => .inl (e, μ1)) (fun (_ : Int32) => .inr μ1) x) ∧ sh_X12_truncate (jv z) μ1 = some μ2 ∧ Fw PE QV μ μ2 ∧ Ag [1] x (jv 0) (μ2.1 306 0) ∧ EA μ2 I' O := ⟨.inl 1, μ, sI μ 306 0 (jv 1), I, rfl, by rw [eM _ hi.2.2.1, if_neg y], Fw.of (f6.mono (fun k j y => by omega)), ⟨0, rfl, by rw [sI_1, if_pos ⟨rfl, rfl⟩]; rfl⟩, hio.kv (Fw.of (Q := QV) f6) (fun k j y => by omega)⟩
    by_cases v : z < 0
    · rw [if_pos (by rw [jv_lt] <;> omega)]
      exact fin
    · rw [if_neg (by rw [jv_lt] <;> omega), if_neg (by rw [jv_le] <;> omega)]
      exact fin
theorem q_errorCode {μ : Mm} {I O : List Int} (hio : EA μ I O) : Qn μ (sh_X11_errorCode μ) (sh_X12_errorCode μ) := by
  unfold sh_X11_errorCode sh_X12_errorCode
  rw [pt_eq, Option.bind_some, sI_1, if_neg (by omega), ← hio.2.2.2.2.1]
  exact ⟨_, _, rfl, rfl, Fm.rf.sI (by omega)⟩
theorem q_errorPosition {μ : Mm} {I O : List Int} (hio : EA μ I O) : Qn μ (sh_X11_errorPosition μ) (sh_X12_errorPosition μ) := by
  unfold sh_X11_errorPosition sh_X12_errorPosition
  rw [pt_eq, Option.bind_some, sI_1, if_neg (by omega), ← hio.2.2.2.2.2]
  exact ⟨_, _, rfl, rfl, Fm.rf.sI (by omega)⟩
theorem q_outputByte {μ : Mm} {I O : List Int} (hio : EA μ I O) (a : Int32) : Qr [2] μ (sh_X11_outputByte a μ) (sh_X12_outputByte a μ) := by
  obtain ⟨_, _, hx, ⟨h49, h330⟩, _⟩ := id hio
  have l1 : ln (3 + 1) = 14400 := rfl
  have l2 : ln 330 = 16000 := rfl
  have hl := hx.1
  obtain ⟨z, h1, h2, rfl⟩ := jv_ex a
  unfold sh_X11_outputByte sh_X11_outputByte_15 sh_X12_outputByte sh_X8_length
  rw [h49, jv_lit (nat_lit 1), jv_sub, li0, in_b ⟨h1, h2⟩ (by unfold i32; omega) (by unfold i32; omega), Option.bind_some, Option.bind_some, pas, Option.bind_some, hx.2.1]
  simp only [jv_lit, Option.bind_some]
  by_cases y : 0 ≤ z ∧ z ≤ (O.length : Int) - 1
  · simp only [if_pos y]
    obtain ⟨k, rfl⟩ : ∃ k : Nat, z = k := ⟨z.toNat, by omega⟩
    rw [if_neg (show ¬ jv (k : Int) < jv 0 by rw [jv_lt] <;> omega), if_pos (show jv (k : Int) < _ by rw [jv_lt] <;> omega), hx.g (by omega), Option.bind_some, if_neg (show ¬ jv 1 = jv 0 by decide), ld_jv (by omega) (by omega), Int.toNat_natCast, sI_1, if_neg (by omega), h330 k (by omega)]
    exact ⟨_, _, _, rfl, rfl, Fm.rf.sI (by omega), by rw [sI_1, if_pos ⟨rfl, rfl⟩], rfl⟩
  · simp only [if_neg y]
    rw [if_pos trivial]
    have fin : Qr [2] μ (some (.inl 2)) (some (jv 0, sI μ 306 0 (jv 1))) := ⟨_, _, _, rfl, rfl, Fm.rf.sI (by omega), 0, rfl, by rw [sI_1, if_pos ⟨rfl, rfl⟩]; rfl⟩
    by_cases v : z < 0
    · rw [if_pos (by rw [jv_lt] <;> omega)]
      exact fin
    · rw [if_neg (by rw [jv_lt] <;> omega), if_neg (by rw [jv_lt] <;> omega)]
      exact fin
end IOQ
