/-! INPUT: bytes that come and go -/
def nb (v : Int32) : Int32 := vp_nar .byte v.toInt8.toInt32
def bt (v : Int32) : Int := (nb v).toInt
theorem nb_8 (v : Int32) : nb v = v.toInt8.toInt32 := by
  unfold nb
  rw [vp_nar_byte, Int8.toInt8_toInt32]
theorem bt_jv (v : Int32) : jv (bt v) = nb v := jv_of _
theorem bt_b (v : Int32) : -128 ≤ bt v ∧ bt v ≤ 127 := by
  unfold bt
  rw [nb_8, Int8.toInt_toInt32]
  have h1 := v.toInt8.le_toInt
  have h2 := v.toInt8.toInt_lt
  omega
theorem nb_nb (v : Int32) : nb (jv (bt v)) = nb v := by rw [bt_jv, nb_8, nb_8, Int8.toInt8_toInt32]
theorem put_v {t : Nat} {μ : Mm} (v : Int32) : sh_X8_put t v μ = sh_X8_put t (jv (bt v)) μ := by
  unfold sh_X8_put
  have e : vp_nar .byte (jv (bt v)).toInt8.toInt32 = vp_nar .byte v.toInt8.toInt32 := nb_nb v
  rw [e]
theorem putv {t : Nat} {μ : Mm} {L : List Int} (h : Tx t μ L) (hc : L.length < ln (t + 1)) (v : Int32) : Wr (Tx t) (PT t) μ L (sh_X8_put t v μ) [bt v] := by
  rw [put_v]
  exact put8 h hc (bt_b v).1 (bt_b v).2
def b4 (v : Int32) : List Int := [bt (v >>> ((24 : Int32) &&& 31)), bt (v >>> ((16 : Int32) &&& 31)), bt (v >>> ((8 : Int32) &&& 31)), bt v]
theorem p4 {μ : Mm} {L : List Int} (h : Tx 1 μ L) (hc : L.length + 4 ≤ 1100) (v : Int32) : Wr (Tx 1) (PT 1) μ L (sh_X8_putFour 1 v μ) (b4 v) := by
  have l1 : ln (1 + 1) = 1100 := rfl
  unfold sh_X8_putFour b4
  refine Wr.bind (S := [_]) (putv h (by omega) _) (fun μ1 h1 _ => ?_)
  refine Wr.bind (S := [_]) (putv h1 (by rw [len1]; omega) _) (fun μ2 h2 _ => ?_)
  refine Wr.bind (S := [_]) (putv h2 (by rw [len1, len1]; omega) _) (fun μ3 h3 _ => ?_)
  exact (putv h3 (by rw [len1, len1, len1]; omega) _).last
/-- the model's input -/
abbrev PI : Nat → Nat → Prop := fun k j => k = 306 ∧ j = 5 ∨ k = 309
theorem ap1 {μ : Mm} {L : List Int} (h : Ix μ L) (hc : L.length < 1100) (v : Int32) : ∃ μ1, ((st μ 309 (μ.1 306 5) (nb v)).bind fun μ1 => (pt μ1 306 5 ((μ1.1 306 5) + (1 : Int32))).bind fun μ2 => some μ2) = some μ1 ∧ Ix μ1 (L ++ [bt v]) ∧ Fm PI μ μ1 := by
  have l1 : ln 309 = 1100 := rfl
  obtain ⟨h1, h2, h3, h4⟩ := h
  rw [h3, st_jv (by omega) (by omega), Option.bind_some, pt_eq, Option.bind_some, Int.toNat_natCast]
  refine ⟨_, rfl, ⟨by rw [len1]; omega, fun i hi => ?_, ?_, fun i hi => ?_⟩, (Fm.rf.sI (Or.inr rfl)).sI (Or.inl ⟨rfl, rfl⟩)⟩
  · rw [len1] at hi
    by_cases z : i = L.length
    · rw [z, getD_end]
      exact bt_b v
    · rw [getD_app (by omega)]
      exact h2 i (by omega)
  · rw [sI_1, if_pos ⟨rfl, rfl⟩, sI_1, if_neg (by omega), h3, jv_lit (nat_lit 1), jv_add, len1]
    rfl
  · rw [len1] at hi
    rw [sI_1, if_neg (by omega), sI_1]
    by_cases z : i = L.length
    · rw [if_pos ⟨rfl, z⟩, z, getD_end, bt_jv]
    · rw [if_neg (fun q => z q.2), getD_app (by omega), h4 i (by omega)]
theorem ap4 {n : Nat} (hn : 10 ≤ n) {μ : Mm} {L : List Int} (h : Ix μ L) (hc : L.length + 4 ≤ 1100) (v : Int32) : ∃ μ1, sh_X12_appendFour n v μ = some μ1 ∧ Ix μ1 (L ++ b4 v) ∧ Fm PI μ μ1 := by
  have st1 : ∀ (f : Nat) (x y : Int32) (μ : Mm) (L : List Int), ¬ x < (0 : Int32) → x + (-8 : Int32) = y → Ix μ L → L.length < 1100 → ∃ μ1, sh_X12_appendFour_3 n v (f + 1) x μ = sh_X12_appendFour_3 n v f y μ1 ∧ Ix μ1 (L ++ [bt (v >>> (x &&& 31))]) ∧ Fm PI μ μ1 := by
    intro f x y μ L hx hy hi hl
    obtain ⟨μ1, e, i1, f1⟩ := ap1 hi hl (v >>> (x &&& 31))
    refine ⟨μ1, ?_, i1, f1⟩
    rw [sh_X12_appendFour_3, if_neg hx, hy]
    have e2 : (st μ 309 (μ.1 306 5) (vp_nar .byte ((v >>> (x &&& 31)).toInt8.toInt32))) = (st μ 309 (μ.1 306 5) (nb (v >>> (x &&& 31)))) := rfl
    rw [e2]
    cases hs : st μ 309 (μ.1 306 5) (nb (v >>> (x &&& 31))) with
    | none => rw [hs] at e; exact absurd e (by simp)
    | some μ9 =>
      rw [hs, Option.bind_some, pt_eq, Option.bind_some] at e
      rw [Option.bind_some, pt_eq, Option.bind_some]
      rw [Option.some.inj e]
  obtain ⟨g, rfl⟩ : ∃ g, n = g + 5 := ⟨n - 5, by omega⟩
  unfold sh_X12_appendFour
  obtain ⟨μ1, e1, i1, f1⟩ := st1 (g + 4) 24 16 μ L (by decide) (by decide) h (by omega)
  obtain ⟨μ2, e2, i2, f2⟩ := st1 (g + 3) 16 8 μ1 _ (by decide) (by decide) i1 (by rw [len1]; omega)
  obtain ⟨μ3, e3, i3, f3⟩ := st1 (g + 2) 8 0 μ2 _ (by decide) (by decide) i2 (by rw [len1, len1]; omega)
  obtain ⟨μ4, e4, i4, f4⟩ := st1 (g + 1) 0 (-8) μ3 _ (by decide) (by decide) i3 (by rw [len1, len1, len1]; omega)
  refine ⟨μ4, ?_, ?_, ((f1.tr f2 (fun _ _ y => y)).tr f3 (fun _ _ y => y)).tr f4 (fun _ _ y => y)⟩
  · rw [e1, e2, e3, e4, sh_X12_appendFour_3, if_pos (by decide)]
  · rw [show v >>> ((0 : Int32) &&& 31) = v by rw [show ((0 : Int32) &&& 31) = 0 by decide]; exact Int32.shiftRight_zero] at i4
    rw [List.append_assoc, List.append_assoc, List.append_assoc] at i4
    exact i4
