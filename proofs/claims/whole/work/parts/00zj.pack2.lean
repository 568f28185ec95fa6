/-! WORDS read from a text and compared by the model -/
section WBT
variable {n : Nat} {R : Nat → Int} {N fr : Nat}
/-- the letters that stand in a text from a on -/
def ltS (L : List Int) (a m : Nat) : Nat → Int := fun p => if p < m then L.getD (a + p) 0 else 0
theorem ltS_ok {L : List Int} {a m : Nat} (h : ∀ p, p < m → 97 ≤ L.getD (a + p) 0 ∧ L.getD (a + p) 0 ≤ 122) : okL (ltS L a m) := by
  intro p hp
  unfold ltS
  by_cases z : p < m
  · rw [if_pos z]
    exact Or.inr (h p z)
  · rw [if_neg z]
    exact Or.inl rfl
theorem Tx.g {t : Nat} {μ : Mm} {L : List Int} (h : Tx t μ L) {i : Nat} (hi : i < L.length) : sh_X8_at t (jv i) μ = some (jv (L.getD i 0)) := by
  have hln := ln_lt (t + 1)
  have h1 := h.1
  unfold sh_X8_at
  rw [h.2.1, jv_lit (nat_lit 0), jv_nI, if_neg (by rw [jv_lt] <;> omega), if_neg (by rw [jv_le] <;> omega), if_neg (by rw [jv_le] <;> omega), ld_jv (by omega) (by omega), Option.bind_some, Int.toNat_natCast, h.2.2 i hi]
theorem wb_l {t : Nat} {μ : Mm} {L : List Int} (hx : Tx t μ L) {a m : Nat} (ham : a + m ≤ L.length) (hm : m ≤ 12) (hr : ∀ i, i < L.length → -128 ≤ L.getD i 0 ∧ L.getD i 0 ≤ 127) : ∀ (j f k : Nat), k + j = m → j < f → (∀ p, p < k → 97 ≤ L.getD (a + p) 0 ∧ L.getD (a + p) 0 ≤ 122) → sh_X8_wordBetween_15 n t (jv a) (jv ((a + m : Nat) : Int)) μ f (pk (ltS L a k)) (jv ((a + k : Nat) : Int)) = some (if ∀ p, p < m → 97 ≤ L.getD (a + p) 0 ∧ L.getD (a + p) 0 ≤ 122 then pk (ltS L a m) else 0) := by
  have hln := ln_lt (t + 1)
  have h1 := hx.1
  intro j
  induction j with
  | zero =>
    intro f k hk hf hl
    obtain ⟨f, rfl⟩ : ∃ g, f = g + 1 := ⟨f - 1, by omega⟩
    have ek : k = m := by omega
    subst ek
    rw [sh_X8_wordBetween_15, if_pos (by rw [jv_le] <;> omega), if_pos hl]
  | succ j ih =>
    intro f k hk hf hl
    obtain ⟨f, rfl⟩ : ∃ g, f = g + 1 := ⟨f - 1, by omega⟩
    have hb := hr (a + k) (by omega)
    rw [sh_X8_wordBetween_15, if_neg (by rw [jv_le] <;> omega), hx.g (by omega), Option.bind_some]
    simp only [nm_eq]
    rw [show jv (L.getD (a + k) 0) - (97 : Int32) + (1 : Int32) = jv (L.getD (a + k) 0 - 96) by simp only [jv_lit]; rw [jv_sub, jv_add]; congr 1; omega]
    by_cases z : 97 ≤ L.getD (a + k) 0 ∧ L.getD (a + k) 0 ≤ 122
    · rw [if_neg (fun q => by rw [lg_cmp_lt, li1, lt64, jv_lt (by omega) (by omega) (by omega) (by omega)] at q; omega), if_pos ((lg_cmp_le _ _).mpr (by rw [li26, le64, jv_le (by omega) (by omega) (by omega) (by omega)]; omega))]
      have hk2 : ∀ p, p < k + 1 → 97 ≤ L.getD (a + p) 0 ∧ L.getD (a + p) 0 ≤ 122 := fun p hp => by
        by_cases y : p = k
        · rw [y]; exact z
        · exact hl p (by omega)
      have e : pk (ltS L a k) ||| ((jv (L.getD (a + k) 0 - 96)).toInt64 <<< (((55 : Int32) - ((5 : Int32) * (jv ((a + k : Nat) : Int) - jv a))).toInt64 &&& 63)) = pk (ltS L a (k + 1)) := by
        have h := pk_or (l := ltS L a k) (m := ltS L a (k + 1)) (k := k) (by omega) (ltS_ok hl) (fun p h1 _ => by unfold ltS; rw [if_neg (by omega)]) (fun p _ h2 => by
          unfold ltS
          by_cases y : p < k
          · rw [if_pos y, if_pos (by omega)]
          · rw [if_neg y, if_neg (by omega)]) (by unfold ltS; rw [if_pos (by omega)]; exact z)
        have e1 : ltS L a (k + 1) k = L.getD (a + k) 0 := by unfold ltS; rw [if_pos (by omega)]
        rw [e1] at h
        rw [jl_N (by omega) (by omega), show (55 : Int32) - (5 : Int32) * (jv ((a + k : Nat) : Int) - jv a) = nI (55 - 5 * k) by rw [jv_nI]; simp only [jv_lit]; rw [jv_sub, jv_mul, jv_sub]; congr 1; omega]
        exact h
      rw [e, jv_lit (nat_lit 1), jv_add, show ((a + k : Nat) : Int) + 1 = ((a + (k + 1) : Nat) : Int) by omega]
      exact ih f (k + 1) (by omega) (by omega) hk2
    · have hno : ¬ ∀ p, p < m → 97 ≤ L.getD (a + p) 0 ∧ L.getD (a + p) 0 ≤ 122 := fun q => z (q k (by omega))
      rw [if_neg hno]
      by_cases y : L.getD (a + k) 0 < 97
      · rw [if_pos ((lg_cmp_lt _ _).mpr (by rw [li1, lt64, jv_lt (by omega) (by omega) (by omega) (by omega)]; omega))]
      · rw [if_neg (fun q => by rw [lg_cmp_lt, li1, lt64, jv_lt (by omega) (by omega) (by omega) (by omega)] at q; omega), if_neg (fun q => by rw [lg_cmp_le, li26, le64, jv_le (by omega) (by omega) (by omega) (by omega)] at q; omega)]
theorem pk_0 : pk (fun _ => 0) = 0 := by decide
theorem wb8 {t : Nat} {μ : Mm} {L : List Int} (hn : 20 ≤ n) (hx : Tx t μ L) {a m : Nat} (ham : a + m ≤ L.length) (hr : ∀ i, i < L.length → -128 ≤ L.getD i 0 ∧ L.getD i 0 ≤ 127) : sh_X8_wordBetween n t (jv a) (jv ((a + m : Nat) : Int)) μ = some (if m ≤ 12 ∧ ∀ p, p < m → 97 ≤ L.getD (a + p) 0 ∧ L.getD (a + p) 0 ≤ 122 then pk (ltS L a m) else 0) := by
  have hln := ln_lt (t + 1)
  have h1 := hx.1
  unfold sh_X8_wordBetween
  rw [jv_lit (nat_lit 12), jv_sub]
  by_cases z : m ≤ 12
  · rw [if_pos (by rw [jv_le] <;> omega)]
    simp only [nm_eq]
    have e0 : ltS L a 0 = fun _ => 0 := by
      funext p
      unfold ltS
      rw [if_neg (by omega)]
    have := wb_l (n := n) hx ham z hr m n 0 (by omega) (by omega) (fun p hp => absurd hp (by omega))
    rw [e0, pk_0, Nat.add_zero] at this
    rw [this]
    congr 1
    by_cases y : ∀ p, p < m → 97 ≤ L.getD (a + p) 0 ∧ L.getD (a + p) 0 ≤ 122
    · rw [if_pos y, if_pos ⟨z, y⟩]
    · rw [if_neg y, if_neg (fun q => y q.2)]
  · rw [if_neg (by rw [jv_le] <;> omega), if_neg (fun q => z q.1)]
/-! the model compares -/
def cmpd (l m : Nat → Int) : Nat → Nat → Int
  | 0, _ => 0
  | j + 1, k => if l k = m k then cmpd l m j (k + 1) else l k - m k
theorem cmpd_sp (l m : Nat → Int) : ∀ j k, cmpd l m j k = 0 ∧ (∀ p, k ≤ p → p < k + j → l p = m p) ∨ ∃ i, k ≤ i ∧ i < k + j ∧ (∀ p, k ≤ p → p < i → l p = m p) ∧ l i ≠ m i ∧ cmpd l m j k = l i - m i := by
  intro j
  induction j with
  | zero => intro k; exact Or.inl ⟨rfl, fun p h1 h2 => absurd h2 (by omega)⟩
  | succ j ih =>
    intro k
    rw [cmpd]
    by_cases z : l k = m k
    · rw [if_pos z]
      rcases ih (k + 1) with ⟨h1, h2⟩ | ⟨i, h1, h2, h3, h4, h5⟩
      · refine Or.inl ⟨h1, fun p h3 h4 => ?_⟩
        by_cases y : p = k
        · rw [y]; exact z
        · exact h2 p (by omega) (by omega)
      · refine Or.inr ⟨i, by omega, by omega, fun p h6 h7 => ?_, h4, h5⟩
        by_cases y : p = k
        · rw [y]; exact z
        · exact h3 p (by omega) (by omega)
    · rw [if_neg z]
      exact Or.inr ⟨k, Nat.le_refl _, by omega, fun p h1 h2 => absurd h2 (by omega), z, rfl⟩
theorem cmpd_pk {l m : Nat → Int} (hl : okL l) (hm : okL m) : (cmpd l m 12 0 = 0 ↔ pkn l = pkn m) ∧ (0 < cmpd l m 12 0 ↔ pkn m < pkn l) ∧ -122 ≤ cmpd l m 12 0 ∧ cmpd l m 12 0 ≤ 122 := by
  rcases cmpd_sp l m 12 0 with ⟨h1, h2⟩ | ⟨i, h1, h2, h3, h4, h5⟩
  · have := (pkn_eq hl hm).mpr (fun p hp => h2 p (by omega) (by omega))
    rw [h1]
    omega
  · have hi : i < 12 := by omega
    have a := hl i hi
    have b := hm i hi
    rw [h5]
    by_cases z : l i < m i
    · have := pkn_lt hl hm hi (fun p hp => h3 p (by omega) hp) z
      omega
    · have := pkn_lt hm hl hi (fun p hp => (h3 p (by omega) hp).symm) (by omega)
      omega
theorem cpM_l {q : Nat} {μ : Mm} (hm : MB q μ R) {s w t v : Nat} (hs : s < 24) (hw : w < 8) (ht : t < 24) (hv : v < 8) (hl : okL (lt R s w)) (hl2 : okL (lt R t v)) : ∀ (j f k : Nat), k + j = 12 → j < f → sh_X12_compare_3 n (jv s) (jv w) (jv t) (jv v) μ f (jv k) = some (jv (cmpd (lt R s w) (lt R t v) j k)) := by
  intro j
  induction j with
  | zero =>
    intro f k hk hf
    obtain ⟨f, rfl⟩ : ∃ g, f = g + 1 := ⟨f - 1, by omega⟩
    rw [sh_X12_compare_3, if_pos (by rw [jv_lit (nat_lit 12), jv_le] <;> omega)]
    rfl
  | succ j ih =>
    intro f k hk hf
    obtain ⟨f, rfl⟩ : ∃ g, f = g + 1 := ⟨f - 1, by omega⟩
    have a := hl k (by omega)
    have b := hl2 k (by omega)
    rw [sh_X12_compare_3, if_neg (by rw [jv_lit (nat_lit 12), jv_le] <;> omega), hm.lt hs hw (by omega), Option.bind_some, hm.lt ht hv (by omega), Option.bind_some, cmpd]
    by_cases z : lt R s w k = lt R t v k
    · rw [if_pos (by rw [z]), if_pos z, jv_lit (nat_lit 1), jv_add, show (k : Int) + 1 = ((k + 1 : Nat) : Int) by omega]
      exact ih f (k + 1) (by omega) (by omega)
    · rw [if_neg (by rw [jv_eq] <;> omega), if_neg z, Option.bind_some, Option.bind_some, jv_sub]
theorem cpM {q : Nat} {μ : Mm} (hn : 20 ≤ n) (hm : MB q μ R) {s w t v : Nat} (hs : s < 24) (hw : w < 8) (ht : t < 24) (hv : v < 8) (hl : okL (lt R s w)) (hl2 : okL (lt R t v)) : sh_X12_compare n (jv s) (jv w) (jv t) (jv v) μ = some (jv (cmpd (lt R s w) (lt R t v) 12 0)) := by
  unfold sh_X12_compare
  rw [jv_lit (nat_lit 0)]
  exact cpM_l (n := n) hm hs hw ht hv hl hl2 12 n 0 (by omega) (by omega)
end WBT
