/-! FIGURES, roman and arabic, by the model; roman by both; widths -/
theorem len1 (S : List Int) (c : Int) : (S ++ [c]).length = S.length + 1 := by simp
theorem arM_1 {n f : Nat} {v : Int} {μ : Mm} {L : List Int} (h0 : 0 ≤ v) (h9 : v < 10000) (h : Mx μ L) (hl : L.length + 1 ≤ 16000) : Wr Mx PM μ L (sh_X12_putNumber_20 n (jv v) (f + 2) (jv 1) μ) [48 + v % 10] := by
  rw [sh_X12_putNumber_20, if_neg (by rw [jv_lit (nat_lit 0), jv_le] <;> omega), dv_jv (by omega) (by omega) (by omega) (by omega), Option.bind_some]
  simp only [jv_lit]
  rw [rm_jv (by omega) (by omega) (by omega) (by omega), Option.bind_some, jv_add, Int.ediv_one]
  refine (Wr.bind (T := []) (putM h (by omega) (by omega) (by omega)) (fun μ1 hx hf1 => ?_)).as (List.append_nil _)
  rw [dv_jv (by omega) (by omega) (by omega) (by omega), Option.bind_some, sh_X12_putNumber_20, if_pos (by rw [jv_lit (nat_lit 0), jv_le] <;> omega)]
  exact Wr.nil hx
theorem arM_s {n f : Nat} {v p : Int} {S : List Int} {μ : Mm} {L : List Int} (hp : p = 10 ∨ p = 100 ∨ p = 1000) (h0 : 0 ≤ v) (h9 : v < 10000) (h : Mx μ L) (hl : L.length + 1 ≤ 16000) (k : ∀ μ1, Mx μ1 (L ++ [48 + v / p % 10]) → Wr Mx PM μ1 (L ++ [48 + v / p % 10]) (sh_X12_putNumber_20 n (jv v) f (jv (p / 10)) μ1) S) : Wr Mx PM μ L (sh_X12_putNumber_20 n (jv v) (f + 1) (jv p) μ) ((48 + v / p % 10) :: S) := by
  have hd : 0 ≤ v / p := Int.ediv_nonneg h0 (by omega)
  have hd2 : v / p ≤ v := Int.ediv_le_self p h0
  rw [sh_X12_putNumber_20, if_neg (by rw [jv_lit (nat_lit 0), jv_le] <;> omega), dv_jv (by omega) (by omega) (by omega) (by omega), Option.bind_some]
  simp only [jv_lit]
  rw [rm_jv (by omega) (by omega) (by omega) (by omega), Option.bind_some, jv_add]
  refine Wr.bind (S := [48 + v / p % 10]) (putM h (by omega) (by omega) (by omega)) (fun μ1 hx hf1 => ?_)
  rw [dv_jv (by omega) (by omega) (by omega) (by omega), Option.bind_some]
  exact k μ1 hx
theorem arM {n : Nat} {v : Int} {μ : Mm} {L : List Int} (hn : 12 ≤ n) (h0 : 0 ≤ v) (h9 : v < 10000) (h : Mx μ L) (hl : L.length + 4 ≤ 16000) : Wr Mx PM μ L (sh_X12_putNumber n (jv v) μ) (ar v) := by
  obtain ⟨m, rfl⟩ : ∃ m, n = m + 12 := ⟨n - 12, by omega⟩
  unfold sh_X12_putNumber
  have up : ∀ (p : Int) (f : Nat), (p = 1 ∨ p = 10 ∨ p = 100) → p * 10 ≤ v → sh_X12_putNumber_2 (m + 12) (jv v) (f + 1) (jv p) μ = sh_X12_putNumber_2 (m + 12) (jv v) f (jv (p * 10)) μ := by
    intro p f hp hv
    have hd2 : v / p ≤ v := Int.ediv_le_self p h0
    have hd : 10 ≤ v / p := by rcases hp with rfl | rfl | rfl <;> omega
    rw [sh_X12_putNumber_2, dv_jv (by omega) (by omega) (by omega) (by omega), Option.bind_some, if_neg (by rw [jv_lit (nat_lit 10), jv_lt] <;> omega), nm_eq, jv_lit (nat_lit 10), jv_mul]
  have dn : ∀ (p : Int) (f : Nat), (p = 1 ∨ p = 10 ∨ p = 100 ∨ p = 1000) → v < p * 10 → sh_X12_putNumber_2 (m + 12) (jv v) (f + 1) (jv p) μ = sh_X12_putNumber_20 (m + 12) (jv v) (m + 12) (jv p) μ := by
    intro p f hp hv
    have hd2 : v / p ≤ v := Int.ediv_le_self p h0
    have hd3 : 0 ≤ v / p := Int.ediv_nonneg h0 (by omega)
    have hd : v / p < 10 := by rcases hp with rfl | rfl | rfl | rfl <;> omega
    rw [sh_X12_putNumber_2, dv_jv (by omega) (by omega) (by omega) (by omega), Option.bind_some, if_pos (by rw [jv_lit (nat_lit 10), jv_lt] <;> omega)]
  rw [jv_lit (nat_lit 1)]
  unfold ar arN
  split
  · rw [dn 1 _ (by omega) (by omega)]
    exact arM_1 h0 h9 h (by omega)
  · rw [up 1 _ (by omega) (by omega)]
    split
    · rw [dn _ _ (by omega) (by omega)]
      refine arM_s (p := 10) (by omega) h0 h9 h (by omega) (fun μ1 hx => ?_)
      exact arM_1 h0 h9 hx (by rw [len1]; omega)
    · rw [up _ _ (by omega) (by omega)]
      split
      · rw [dn _ _ (by omega) (by omega)]
        refine arM_s (p := 100) (by omega) h0 h9 h (by omega) (fun μ1 hx => ?_)
        refine arM_s (p := 10) (by omega) h0 h9 hx (by rw [len1]; omega) (fun μ1 hx => ?_)
        exact arM_1 h0 h9 hx (by rw [len1, len1]; omega)
      · rw [up _ _ (by omega) (by omega), dn _ _ (by omega) (by omega)]
        refine arM_s (p := 1000) (by omega) h0 h9 h (by omega) (fun μ1 hx => ?_)
        refine arM_s (p := 100) (by omega) h0 h9 hx (by rw [len1]; omega) (fun μ1 hx => ?_)
        refine arM_s (p := 10) (by omega) h0 h9 hx (by rw [len1, len1]; omega) (fun μ1 hx => ?_)
        exact arM_1 h0 h9 hx (by rw [len1, len1, len1]; omega)
/-! roman -/
def rof (d a b c : Int) : List Int := if d = 9 then [a, c] else if d = 4 then [a, b] else (if d < 5 then [] else [b]) ++ List.replicate (d % 5).toNat a
def ro (v : Int) : List Int := List.replicate (v / 1000).toNat 109 ++ (rof (v / 100 % 10) 99 100 109 ++ (rof (v / 10 % 10) 120 108 99 ++ rof (v % 10) 105 118 120))
theorem rof_len {d a b c : Int} (h0 : 0 ≤ d) (h9 : d ≤ 9) : (rof d a b c).length ≤ 4 := by
  unfold rof
  split
  · exact Nat.le_of_ble_eq_true rfl
  · split
    · exact Nat.le_of_ble_eq_true rfl
    · split
      · rw [List.length_append, List.length_replicate]
        show 0 + _ ≤ 4
        omega
      · rw [List.length_append, List.length_replicate]
        show 1 + _ ≤ 4
        omega
theorem ro_len {v : Int} (h0 : 0 ≤ v) (h9 : v < 4000) : (ro v).length ≤ 15 := by
  have h1 := rof_len (d := v / 100 % 10) (a := 99) (b := 100) (c := 109) (by omega) (by omega)
  have h2 := rof_len (d := v / 10 % 10) (a := 120) (b := 108) (c := 99) (by omega) (by omega)
  have h3 := rof_len (d := v % 10) (a := 105) (b := 118) (c := 120) (by omega) (by omega)
  unfold ro
  rw [List.length_append, List.length_append, List.length_append, List.length_replicate]
  omega
theorem rof8_l {n t : Nat} {a b c d : Int} (h1 : -128 ≤ a) (h2 : a ≤ 127) : ∀ (k f : Nat) (μ : Mm) (L : List Int), Tx t μ L → L.length + k ≤ ln (t + 1) → k < f → Wr (Tx t) (PT t) μ L (sh_X8_putRomanFigure_53 n t (jv d) (jv a) (jv b) (jv c) f (jv k) μ) (List.replicate k a) := by
  intro k
  induction k with
  | zero =>
    intro f μ L h hl hf
    obtain ⟨f, rfl⟩ : ∃ g, f = g + 1 := ⟨f - 1, by omega⟩
    rw [sh_X8_putRomanFigure_53, if_pos (by rw [jv_lit (nat_lit 0), jv_le] <;> omega)]
    exact Wr.nil h
  | succ k ih =>
    intro f μ L h hl hf
    have := ln_lt (t + 1)
    obtain ⟨f, rfl⟩ : ∃ g, f = g + 1 := ⟨f - 1, by omega⟩
    rw [sh_X8_putRomanFigure_53, if_neg (by rw [jv_lit (nat_lit 0), jv_le] <;> omega)]
    refine Wr.bind (S := [a]) (put8 h (by omega) h1 h2) (fun μ1 hx hf1 => ?_)
    rw [jv_lit (nat_lit 1), jv_neg, jv_add, show ((k + 1 : Nat) : Int) + -1 = (k : Int) by omega]
    exact ih f μ1 _ hx (by rw [len1]; omega) (by omega)
theorem rof8 {n t : Nat} {a b c d : Int} {μ : Mm} {L : List Int} (hn : 6 ≤ n) (h0 : 0 ≤ d) (h9 : d ≤ 9) (ha : -128 ≤ a ∧ a ≤ 127) (hb : -128 ≤ b ∧ b ≤ 127) (hc : -128 ≤ c ∧ c ≤ 127) (h : Tx t μ L) (hl : L.length + 5 ≤ ln (t + 1)) : Wr (Tx t) (PT t) μ L (sh_X8_putRomanFigure n t (jv d) (jv a) (jv b) (jv c) μ) (rof d a b c) := by
  unfold sh_X8_putRomanFigure rof
  simp only [jv_lit]
  by_cases q9 : d = 9
  · rw [if_pos (by rw [q9]), if_pos q9]
    refine Wr.bind (S := [a]) (T := [c]) (put8 h (by omega) ha.1 ha.2) (fun μ1 hx hf1 => ?_)
    exact (put8 hx (by rw [len1]; omega) hc.1 hc.2).last
  · rw [if_neg (by rw [jv_eq] <;> omega), if_neg q9]
    by_cases q4 : d = 4
    · rw [if_pos (by rw [q4]), if_pos q4]
      refine Wr.bind (S := [a]) (T := [b]) (put8 h (by omega) ha.1 ha.2) (fun μ1 hx hf1 => ?_)
      exact (put8 hx (by rw [len1]; omega) hb.1 hb.2).last
    · rw [if_neg (by rw [jv_eq] <;> omega), if_neg q4]
      by_cases q5 : d < 5
      · rw [if_pos (by rw [jv_lt] <;> omega), if_pos q5, rm_jv (by omega) (by omega) (by omega) (by omega), Option.bind_some, List.nil_append, show d % 5 = (((d % 5).toNat : Nat) : Int) by omega]
        exact rof8_l ha.1 ha.2 _ n μ L h (by omega) (by omega)
      · rw [if_neg (by rw [jv_lt] <;> omega), if_neg q5]
        refine Wr.bind (S := [b]) (put8 h (by omega) hb.1 hb.2) (fun μ1 hx hf1 => ?_)
        rw [rm_jv (by omega) (by omega) (by omega) (by omega), Option.bind_some, show d % 5 = (((d % 5).toNat : Nat) : Int) by omega]
        exact rof8_l ha.1 ha.2 _ n μ1 _ hx (by rw [len1]; omega) (by omega)
theorem ro8 {n t : Nat} {v : Int} {μ : Mm} {L : List Int} (hn : 12 ≤ n) (h0 : 0 ≤ v) (h9 : v < 4000) (h : Tx t μ L) (hl : L.length + 20 ≤ ln (t + 1)) : Wr (Tx t) (PT t) μ L (sh_X8_putRoman n t (jv v) μ) (ro v) := by
  have r1 := rof_len (d := v / 100 % 10) (a := 99) (b := 100) (c := 109) (by omega) (by omega)
  have r2 := rof_len (d := v / 10 % 10) (a := 120) (b := 108) (c := 99) (by omega) (by omega)
  unfold sh_X8_putRoman ro
  simp only [jv_lit]
  rw [dv_jv (by omega) (by omega) (by omega) (by omega), Option.bind_some, show jv (v / 1000) = jv ((v / 1000).toNat : Int) by congr 1; omega]
  refine Wr.bind (tim8 (by omega) (by omega) h (by omega) (by omega)) (fun μ1 hx1 hf1 => ?_)
  have l1 : (L ++ List.replicate (v / 1000).toNat (109 : Int)).length = L.length + (v / 1000).toNat := by rw [List.length_append, List.length_replicate]
  rw [dv_jv (by omega) (by omega) (by omega) (by omega), Option.bind_some, rm_jv (by omega) (by omega) (by omega) (by omega), Option.bind_some]
  refine Wr.bind (rof8 (by omega) (by omega) (by omega) (by omega) (by omega) (by omega) hx1 (by rw [l1]; omega)) (fun μ2 hx2 hf2 => ?_)
  rw [dv_jv (by omega) (by omega) (by omega) (by omega), Option.bind_some, rm_jv (by omega) (by omega) (by omega) (by omega), Option.bind_some]
  refine Wr.bind (rof8 (by omega) (by omega) (by omega) (by omega) (by omega) (by omega) hx2 (by rw [List.length_append, l1]; omega)) (fun μ3 hx3 hf3 => ?_)
  rw [rm_jv (by omega) (by omega) (by omega) (by omega), Option.bind_some]
  exact (rof8 (by omega) (by omega) (by omega) (by omega) (by omega) (by omega) hx3 (by rw [List.length_append, List.length_append, l1]; omega)).last
theorem rofM_l {n : Nat} {a b c d N : Int} (h1 : -128 ≤ a) (h2 : a ≤ 127) (hN : N ≤ 100) : ∀ (k f : Nat) (i : Int) (μ : Mm) (L : List Int), Mx μ L → 0 ≤ i → i + k = N → L.length + k ≤ 16000 → k < f → Wr Mx PM μ L (sh_X12_putRomanFigure_67 n (jv d) (jv a) (jv b) (jv c) f (jv N) (jv i) μ) (List.replicate k a) := by
  intro k
  induction k with
  | zero =>
    intro f i μ L h hi hk hl hf
    obtain ⟨f, rfl⟩ : ∃ g, f = g + 1 := ⟨f - 1, by omega⟩
    rw [sh_X12_putRomanFigure_67, if_pos (by rw [jv_le] <;> omega)]
    exact Wr.nil h
  | succ k ih =>
    intro f i μ L h hi hk hl hf
    obtain ⟨f, rfl⟩ : ∃ g, f = g + 1 := ⟨f - 1, by omega⟩
    rw [sh_X12_putRomanFigure_67, if_neg (by rw [jv_le] <;> omega)]
    refine Wr.bind (S := [a]) (putM h (by omega) h1 h2) (fun μ1 hx hf1 => ?_)
    rw [jv_lit (nat_lit 1), jv_add]
    exact ih f _ μ1 _ hx (by omega) (by omega) (by rw [len1]; omega) (by omega)
theorem rofM {n : Nat} {a b c d : Int} {μ : Mm} {L : List Int} (hn : 6 ≤ n) (h0 : 0 ≤ d) (h9 : d ≤ 9) (ha : -128 ≤ a ∧ a ≤ 127) (hb : -128 ≤ b ∧ b ≤ 127) (hc : -128 ≤ c ∧ c ≤ 127) (h : Mx μ L) (hl : L.length + 5 ≤ 16000) : Wr Mx PM μ L (sh_X12_putRomanFigure n (jv d) (jv a) (jv b) (jv c) μ) (rof d a b c) := by
  unfold sh_X12_putRomanFigure rof
  by_cases q9 : d = 9
  · subst q9
    unfold sh_X12_putRomanFigure_11 sh_X12_putRomanFigure_16 sh_X12_putRomanFigure_28 sh_X12_putRomanFigure_44
    simp (disch := omega) only [jv_lit, jv_eq, jv_lt, reduceIte, Int.reduceEq, Int.reduceLT]
    refine Wr.bind (S := [a]) (T := [c]) (putM h (by omega) ha.1 ha.2) (fun μ1 hx hf1 => ?_)
    refine (Wr.bind (T := []) (putM hx (by rw [len1]; omega) hc.1 hc.2) (fun μ2 hx2 hf2 => ?_)).as (List.append_nil _)
    exact rofM_l (N := 0) ha.1 ha.2 (by omega) 0 n 0 μ2 _ hx2 (by omega) (by omega) (by rw [len1, len1]; omega) (by omega)
  · by_cases q4 : d = 4
    · subst q4
      unfold sh_X12_putRomanFigure_11 sh_X12_putRomanFigure_16 sh_X12_putRomanFigure_28 sh_X12_putRomanFigure_44
      simp (disch := omega) only [jv_lit, jv_eq, jv_lt, reduceIte, Int.reduceEq, Int.reduceLT]
      refine Wr.bind (S := [a]) (T := [b]) (putM h (by omega) ha.1 ha.2) (fun μ1 hx hf1 => ?_)
      refine (Wr.bind (T := []) (putM hx (by rw [len1]; omega) hb.1 hb.2) (fun μ2 hx2 hf2 => ?_)).as (List.append_nil _)
      exact rofM_l (N := 0) ha.1 ha.2 (by omega) 0 n 0 μ2 _ hx2 (by omega) (by omega) (by rw [len1, len1]; omega) (by omega)
    · unfold sh_X12_putRomanFigure_16 sh_X12_putRomanFigure_28 sh_X12_putRomanFigure_44
      simp only [jv_lit]
      rw [if_neg (by rw [jv_eq] <;> omega), if_neg (by rw [jv_eq] <;> omega), if_neg (by rw [jv_eq] <;> omega), if_neg q9, if_neg q4]
      have last : ∀ (μ1 : Mm) (S : List Int), Mx μ1 S → S.length + 5 ≤ 16001 → Wr Mx PM μ1 S (if jv d = jv 4 then sh_X12_putRomanFigure_67 n (jv d) (jv a) (jv b) (jv c) n (jv 0) (jv 0) μ1 else if jv d = jv 9 then sh_X12_putRomanFigure_67 n (jv d) (jv a) (jv b) (jv c) n (jv 0) (jv 0) μ1 else (rm (jv d) (jv 5)).bind fun v3 => sh_X12_putRomanFigure_67 n (jv d) (jv a) (jv b) (jv c) n v3 (jv 0) μ1) (List.replicate (d % 5).toNat a) := by
        intro μ1 S hx hS
        rw [if_neg (by rw [jv_eq] <;> omega), if_neg (by rw [jv_eq] <;> omega), rm_jv (by omega) (by omega) (by omega) (by omega), Option.bind_some]
        exact rofM_l ha.1 ha.2 (by omega) _ n 0 μ1 S hx (by omega) (by omega) (by omega) (by omega)
      by_cases q5 : d < 5
      · rw [if_pos (by rw [jv_lt] <;> omega), if_pos q5, List.nil_append]
        exact last μ L h (by omega)
      · rw [if_neg (by rw [jv_lt] <;> omega), if_neg (by rw [jv_lt] <;> omega), if_neg q5]
        refine Wr.bind (S := [b]) (putM h (by omega) hb.1 hb.2) (fun μ1 hx hf1 => ?_)
        exact last μ1 _ hx (by rw [len1]; omega)
theorem roM_l {n : Nat} {v : Int} (hn : 12 ≤ n) (h0 : 0 ≤ v) (h9 : v < 4000) : ∀ (k f : Nat) (i : Int) (μ : Mm) (L : List Int), Mx μ L → 0 ≤ i → i + k = v / 1000 → L.length + k + 20 ≤ 16000 → k < f → Wr Mx PM μ L (sh_X12_putRoman_2 n (jv v) f (jv i) μ) (List.replicate k 109 ++ (rof (v / 100 % 10) 99 100 109 ++ (rof (v / 10 % 10) 120 108 99 ++ rof (v % 10) 105 118 120))) := by
  have r1 := rof_len (d := v / 100 % 10) (a := 99) (b := 100) (c := 109) (by omega) (by omega)
  have r2 := rof_len (d := v / 10 % 10) (a := 120) (b := 108) (c := 99) (by omega) (by omega)
  intro k
  induction k with
  | zero =>
    intro f i μ L h hi hk hl hf
    obtain ⟨f, rfl⟩ : ∃ g, f = g + 1 := ⟨f - 1, by omega⟩
    rw [sh_X12_putRoman_2]
    simp only [jv_lit]
    rw [dv_jv (by omega) (by omega) (by omega) (by omega), Option.bind_some, if_pos (by rw [jv_le] <;> omega), dv_jv (by omega) (by omega) (by omega) (by omega), Option.bind_some, rm_jv (by omega) (by omega) (by omega) (by omega), Option.bind_some]
    rw [List.replicate_zero, List.nil_append]
    refine Wr.bind (rofM (by omega) (by omega) (by omega) (by omega) (by omega) (by omega) h (by omega)) (fun μ2 hx2 hf2 => ?_)
    rw [dv_jv (by omega) (by omega) (by omega) (by omega), Option.bind_some, rm_jv (by omega) (by omega) (by omega) (by omega), Option.bind_some]
    refine Wr.bind (rofM (by omega) (by omega) (by omega) (by omega) (by omega) (by omega) hx2 (by rw [List.length_append]; omega)) (fun μ3 hx3 hf3 => ?_)
    rw [rm_jv (by omega) (by omega) (by omega) (by omega), Option.bind_some]
    exact (rofM (by omega) (by omega) (by omega) (by omega) (by omega) (by omega) hx3 (by rw [List.length_append, List.length_append]; omega)).last
  | succ k ih =>
    intro f i μ L h hi hk hl hf
    obtain ⟨f, rfl⟩ : ∃ g, f = g + 1 := ⟨f - 1, by omega⟩
    rw [sh_X12_putRoman_2]
    simp only [jv_lit]
    rw [dv_jv (by omega) (by omega) (by omega) (by omega), Option.bind_some, if_neg (by rw [jv_le] <;> omega)]
    refine Wr.bind (S := [109]) (putM h (by omega) (by omega) (by omega)) (fun μ1 hx hf1 => ?_)
    rw [jv_add]
    exact ih f _ μ1 _ hx (by omega) (by omega) (by rw [len1]; omega) (by omega)
theorem roM {n : Nat} {v : Int} {μ : Mm} {L : List Int} (hn : 12 ≤ n) (h0 : 0 ≤ v) (h9 : v < 4000) (h : Mx μ L) (hl : L.length + 30 ≤ 16000) : Wr Mx PM μ L (sh_X12_putRoman n (jv v) μ) (ro v) := by
  unfold sh_X12_putRoman ro
  rw [jv_lit (nat_lit 0)]
  exact roM_l hn h0 h9 _ n 0 μ L h (by omega) (by omega) (by omega) (by omega)
/-! widths of signs -/
def wd (c : Int) : Int := if c = 32 then 1 else if c = 46 then 1 else if c = 49 then 1 else if c = 102 then 1 else if c = 105 then 1 else if c = 106 then 1 else if c = 108 then 1 else if c = 109 then 3 else if c = 114 then 1 else if c = 116 then 1 else if c = 119 then 3 else 2
def wsum (L : List Int) : Int := (L.map wd).sum
theorem ite_jv {p : Prop} [Decidable p] {a b : Int} : (if p then some (jv a) else some (jv b)) = some (jv (if p then a else b)) := by split <;> rfl
theorem sw_jv {c : Int} {μ : Mm} (h1 : -1000 ≤ c) (h2 : c ≤ 1000) : sh_X11_signWidth (jv c) μ = some (jv (wd c)) := by
  unfold sh_X11_signWidth wd
  simp (disch := omega) only [jv_lit, jv_eq, ite_jv]
theorem wo_jv {c : Int} {μ : Mm} (h1 : -1000 ≤ c) (h2 : c ≤ 1000) : sh_X12_widthOf (jv c) μ = some (jv (wd c)) := by
  unfold sh_X12_widthOf wd
  simp (disch := omega) only [jv_lit, jv_eq, ite_jv]
  congr 2
  by_cases a1 : c = 32
  · subst a1; rfl
  by_cases a2 : c = 46
  · subst a2; rfl
  by_cases a3 : c = 49
  · subst a3; rfl
  simp only [a1, a2, a3, if_false]
  by_cases a4 : c = 109
  · subst a4; rfl
  simp only [a4, if_false]
theorem wd_b (c : Int) : 1 ≤ wd c ∧ wd c ≤ 3 := by
  unfold wd
  repeat (first | (split; omega) | omega)
theorem wsum_nil : wsum [] = 0 := rfl
theorem wsum_cons {c : Int} {L : List Int} : wsum (c :: L) = wd c + wsum L := by simp [wsum]
theorem wsum_app {L M : List Int} : wsum (L ++ M) = wsum L + wsum M := by simp [wsum]
theorem wsum_rep {c : Int} {k : Nat} : wsum (List.replicate k c) = k * wd c := by
  induction k with
  | zero => simp [wsum]
  | succ k ih => rw [List.replicate_succ, wsum_cons, ih]; rw [show ((k + 1 : Nat) : Int) * wd c = k * wd c + wd c by rw [Int.natCast_add, Int.add_mul]; simp]; omega
theorem wsum_b (L : List Int) : 0 ≤ wsum L ∧ wsum L ≤ 3 * L.length := by
  induction L with
  | nil => exact ⟨Int.le_refl _, Int.le_refl _⟩
  | cons c L ih =>
    have := wd_b c
    rw [wsum_cons, List.length_cons]
    omega
theorem aw_s {n f : Nat} {v0 : Int32} {a v : Int} {μ : Mm} (h0 : 0 < v) (h9 : v < 10000) : sh_X11_arabicWidth_4 n v0 μ (f + 1) (jv a) (jv v) = sh_X11_arabicWidth_4 n v0 μ f (jv (a + wd (48 + v % 10))) (jv (v / 10)) := by
  rw [sh_X11_arabicWidth_4]
  simp only [jv_lit]
  rw [if_neg (by rw [jv_le] <;> omega), rm_jv (by omega) (by omega) (by omega) (by omega), Option.bind_some, jv_add, sw_jv (by omega) (by omega), Option.bind_some, nm_eq, dv_jv (by omega) (by omega) (by omega) (by omega), Option.bind_some, jv_add]
theorem aw_0 {n f : Nat} {v0 : Int32} {a : Int} {μ : Mm} : sh_X11_arabicWidth_4 n v0 μ (f + 1) (jv a) (jv 0) = some (jv a) := by
  rw [sh_X11_arabicWidth_4, if_pos (by rw [jv_lit (nat_lit 0), jv_le] <;> omega)]
theorem aw8 {n : Nat} {v : Int} {μ : Mm} (hn : 12 ≤ n) (h0 : 0 < v) (h9 : v < 10000) : sh_X11_arabicWidth n (jv v) μ = some (jv (wsum (ar v))) := by
  obtain ⟨m, rfl⟩ : ∃ m, n = m + 12 := ⟨n - 12, by omega⟩
  unfold sh_X11_arabicWidth
  simp only [jv_lit]
  rw [aw_s h0 h9]
  unfold ar arN
  split
  · rw [show v / 10 = 0 by omega, aw_0]
    simp only [dgl, wsum_cons, wsum_nil]
    congr 2
    omega
  · rw [aw_s (by omega) (by omega)]
    split
    · rw [show v / 10 / 10 = 0 by omega, aw_0]
      simp only [dgl, wsum_cons, wsum_nil]
      congr 2
      omega
    · rw [aw_s (by omega) (by omega)]
      split
      · rw [show v / 10 / 10 / 10 = 0 by omega, aw_0, show v / 10 / 10 = v / 100 by omega]
        simp only [dgl, wsum_cons, wsum_nil]
        congr 2
        omega
      · rw [aw_s (by omega) (by omega), show v / 10 / 10 / 10 / 10 = 0 by omega, aw_0, show v / 10 / 10 / 10 = v / 1000 by omega, show v / 10 / 10 = v / 100 by omega]
        simp only [dgl, wsum_cons, wsum_nil]
        congr 2
        omega
theorem rw_f {d a b c : Int} {μ : Mm} (h0 : 0 ≤ d) (h9 : d ≤ 9) : sh_X11_romanFigureWidth (jv d) (jv (wd a)) (jv (wd b)) (jv (wd c)) μ = some (jv (wsum (rof d a b c))) := by
  unfold sh_X11_romanFigureWidth rof
  simp only [jv_lit]
  by_cases q9 : d = 9
  · rw [if_pos (by rw [q9]), if_pos q9, jv_add]
    simp only [wsum_cons, wsum_nil]
    congr 2
    omega
  · rw [if_neg (by rw [jv_eq] <;> omega), if_neg q9]
    by_cases q4 : d = 4
    · rw [if_pos (by rw [q4]), if_pos q4, jv_add]
      simp only [wsum_cons, wsum_nil]
      congr 2
      omega
    · rw [if_neg (by rw [jv_eq] <;> omega), if_neg q4]
      have e : (((d % 5).toNat : Nat) : Int) = d % 5 := by omega
      by_cases q5 : d < 5
      · rw [if_pos (by rw [jv_lt] <;> omega), if_pos q5, rm_jv (by omega) (by omega) (by omega) (by omega), Option.bind_some, jv_mul, jv_add, List.nil_append, wsum_rep, e, Int.zero_add]
      · rw [if_neg (by rw [jv_lt] <;> omega), if_neg q5, rm_jv (by omega) (by omega) (by omega) (by omega), Option.bind_some, jv_mul, jv_add, List.singleton_append, wsum_cons, wsum_rep, e]
theorem rw8 {v : Int} {μ : Mm} (h0 : 0 ≤ v) (h9 : v < 4000) : sh_X11_romanWidth (jv v) μ = some (jv (wsum (ro v))) := by
  unfold sh_X11_romanWidth
  simp only [jv_lit]
  rw [dv_jv (by omega) (by omega) (by omega) (by omega), Option.bind_some, rm_jv (by omega) (by omega) (by omega) (by omega), Option.bind_some]
  simp (disch := omega) only [sw_jv, Option.bind_some]
  rw [rw_f (by omega) (by omega), Option.bind_some, dv_jv (by omega) (by omega) (by omega) (by omega), Option.bind_some, rm_jv (by omega) (by omega) (by omega) (by omega), Option.bind_some]
  rw [rw_f (by omega) (by omega), Option.bind_some, rm_jv (by omega) (by omega) (by omega) (by omega), Option.bind_some, rw_f (by omega) (by omega), Option.bind_some, dv_jv (by omega) (by omega) (by omega) (by omega), Option.bind_some, jv_mul, jv_add, jv_add, jv_add]
  unfold ro
  rw [wsum_app, wsum_app, wsum_app, wsum_rep, show (((v / 1000).toNat : Nat) : Int) = v / 1000 by omega]
  congr 2
  omega
/-- the model's width of its text -/
theorem twM {n : Nat} {L : List Int} (hr : ∀ i, i < L.length → -128 ≤ L.getD i 0 ∧ L.getD i 0 ≤ 127) {μ : Mm} (h : Mx μ L) : ∀ (k f i : Nat) (a : Int), i + k = L.length → k < f → sh_X12_textWidth_4 n (jv 0) μ f (jv a) (jv i) = some (jv (a + wsum (L.drop i))) := by
  intro k
  have hl := h.1
  induction k with
  | zero =>
    intro f i a hi hf
    obtain ⟨f, rfl⟩ : ∃ g, f = g + 1 := ⟨f - 1, by omega⟩
    rw [sh_X12_textWidth_4, h.2.1, if_pos (by rw [jv_le] <;> omega), List.drop_eq_nil_of_le (by omega), wsum_nil, Int.add_zero]
  | succ k ih =>
    intro f i a hi hf
    obtain ⟨f, rfl⟩ : ∃ g, f = g + 1 := ⟨f - 1, by omega⟩
    have hln : ln 310 = 16000 := rfl
    have hc := hr i (by omega)
    rw [sh_X12_textWidth_4, h.2.1, if_neg (by rw [jv_le] <;> omega), ld_jv (by omega) (by omega), Option.bind_some, Int.toNat_natCast, h.2.2 i (by omega), wo_jv (by omega) (by omega), Option.bind_some, nm_eq, jv_lit (nat_lit 1), jv_add, jv_add]
    have := ih f (i + 1) (a + wd (L.getD i 0)) (by omega) (by omega)
    rw [show ((i : Int) + 1) = ((i + 1 : Nat) : Int) by omega, this, List.drop_eq_getElem_cons (show i < L.length by omega), wsum_cons, List.getD_eq_getElem?_getD, List.getElem?_eq_getElem (show i < L.length by omega), Option.getD_some, Int.add_assoc]
theorem tw {n : Nat} {L : List Int} (hn : 16000 < n) (hr : ∀ i, i < L.length → -128 ≤ L.getD i 0 ∧ L.getD i 0 ≤ 127) {μ : Mm} (h : Mx μ L) : sh_X12_textWidth n (jv 0) μ = some (jv (wsum L)) := by
  have hl := h.1
  unfold sh_X12_textWidth
  have := twM (n := n) hr h L.length n 0 0 (by omega) (by omega)
  rw [jv_lit (nat_lit 0)]
  rw [show jv ((0 : Nat) : Int) = jv 0 from rfl] at this
  rw [this, List.drop_zero, Int.zero_add]
