/-! WORDS packed: read from a text, in the alphabet's order -/
theorem le64 (a b : Int32) : a.toInt64 ≤ b.toInt64 ↔ a ≤ b := by
  rw [Int64.le_iff_toInt_le, Int32.le_iff_toInt_le, Int32.toInt_toInt64, Int32.toInt_toInt64]
theorem li26 : (26 : Int64) = (jv 26).toInt64 := by decide
theorem jl_N {d : Int} (h0 : 0 ≤ d) (h1 : d ≤ 2147483647) : (jv d).toInt64 = lN d.toNat := by
  apply Int64.toInt_inj.mp
  rw [Int32.toInt_toInt64, jv_toInt (by omega) h1, lN_toInt (by omega)]
  omega
theorem dig_l {c : Int} (h : 97 ≤ c ∧ c ≤ 122) : dig c = (c - 96).toNat := by
  unfold dig
  rw [if_neg (by omega)]
theorem dig_0 : dig 0 = 0 := rfl
theorem pk_or {l m : Nat → Int} {k : Nat} (hk : k < 12) (hl : okL l) (hz : ∀ p, k ≤ p → p < 12 → l p = 0) (he : ∀ p, p < 12 → p ≠ k → m p = l p) (hc : 97 ≤ m k ∧ m k ≤ 122) : pk l ||| (lN (m k - 96).toNat <<< ((nI (55 - 5 * k)).toInt64 &&& 63)) = pk m := by
  unfold pk
  rw [wb_shl _ (by omega)]
  have hd : dig (m k) = (m k - 96).toNat := dig_l hc
  have hdb : (m k - 96).toNat ≤ 26 := by omega
  have z : ∀ p, k ≤ p → p < 12 → dig (l p) = 0 := fun p h1 h2 => by rw [hz p h1 h2]; rfl
  have e : ∀ p, p < 12 → p ≠ k → dig (m p) = dig (l p) := fun p h1 h2 => by rw [he p h1 h2]
  have b0 := (dig_b hl (p := 0) (by omega)).1
  have b1 := (dig_b hl (p := 1) (by omega)).1
  have b2 := (dig_b hl (p := 2) (by omega)).1
  have b3 := (dig_b hl (p := 3) (by omega)).1
  have b4 := (dig_b hl (p := 4) (by omega)).1
  have b5 := (dig_b hl (p := 5) (by omega)).1
  have b6 := (dig_b hl (p := 6) (by omega)).1
  have b7 := (dig_b hl (p := 7) (by omega)).1
  have b8 := (dig_b hl (p := 8) (by omega)).1
  have b9 := (dig_b hl (p := 9) (by omega)).1
  have b10 := (dig_b hl (p := 10) (by omega)).1
  have b11 := (dig_b hl (p := 11) (by omega)).1
  have key : pkn l = 2 ^ (60 - 5 * k) * (pkn l / 2 ^ (60 - 5 * k)) ∧ pkn m = pkn l + (m k - 96).toNat * 2 ^ (55 - 5 * k) ∧ (m k - 96).toNat * 2 ^ (55 - 5 * k) < 2 ^ (60 - 5 * k) := by
    generalize (m k - 96).toNat = d at *
    unfold pkn
    rcases tw12 hk with rfl | rfl | rfl | rfl | rfl | rfl | rfl | rfl | rfl | rfl | rfl | rfl
    · have := z 0 (by omega) (by omega); have := z 1 (by omega) (by omega); have := z 2 (by omega) (by omega); have := z 3 (by omega) (by omega); have := z 4 (by omega) (by omega); have := z 5 (by omega) (by omega); have := z 6 (by omega) (by omega); have := z 7 (by omega) (by omega); have := z 8 (by omega) (by omega); have := z 9 (by omega) (by omega); have := z 10 (by omega) (by omega); have := z 11 (by omega) (by omega)
      have := e 1 (by omega) (by omega); have := e 2 (by omega) (by omega); have := e 3 (by omega) (by omega); have := e 4 (by omega) (by omega); have := e 5 (by omega) (by omega); have := e 6 (by omega) (by omega); have := e 7 (by omega) (by omega); have := e 8 (by omega) (by omega); have := e 9 (by omega) (by omega); have := e 10 (by omega) (by omega); have := e 11 (by omega) (by omega)
      simp only [Nat.reduceMul, Nat.reduceSub, Nat.reducePow]
      omega
    · have := z 1 (by omega) (by omega); have := z 2 (by omega) (by omega); have := z 3 (by omega) (by omega); have := z 4 (by omega) (by omega); have := z 5 (by omega) (by omega); have := z 6 (by omega) (by omega); have := z 7 (by omega) (by omega); have := z 8 (by omega) (by omega); have := z 9 (by omega) (by omega); have := z 10 (by omega) (by omega); have := z 11 (by omega) (by omega)
      have := e 0 (by omega) (by omega); have := e 2 (by omega) (by omega); have := e 3 (by omega) (by omega); have := e 4 (by omega) (by omega); have := e 5 (by omega) (by omega); have := e 6 (by omega) (by omega); have := e 7 (by omega) (by omega); have := e 8 (by omega) (by omega); have := e 9 (by omega) (by omega); have := e 10 (by omega) (by omega); have := e 11 (by omega) (by omega)
      simp only [Nat.reduceMul, Nat.reduceSub, Nat.reducePow]
      omega
    · have := z 2 (by omega) (by omega); have := z 3 (by omega) (by omega); have := z 4 (by omega) (by omega); have := z 5 (by omega) (by omega); have := z 6 (by omega) (by omega); have := z 7 (by omega) (by omega); have := z 8 (by omega) (by omega); have := z 9 (by omega) (by omega); have := z 10 (by omega) (by omega); have := z 11 (by omega) (by omega)
      have := e 0 (by omega) (by omega); have := e 1 (by omega) (by omega); have := e 3 (by omega) (by omega); have := e 4 (by omega) (by omega); have := e 5 (by omega) (by omega); have := e 6 (by omega) (by omega); have := e 7 (by omega) (by omega); have := e 8 (by omega) (by omega); have := e 9 (by omega) (by omega); have := e 10 (by omega) (by omega); have := e 11 (by omega) (by omega)
      simp only [Nat.reduceMul, Nat.reduceSub, Nat.reducePow]
      omega
    · have := z 3 (by omega) (by omega); have := z 4 (by omega) (by omega); have := z 5 (by omega) (by omega); have := z 6 (by omega) (by omega); have := z 7 (by omega) (by omega); have := z 8 (by omega) (by omega); have := z 9 (by omega) (by omega); have := z 10 (by omega) (by omega); have := z 11 (by omega) (by omega)
      have := e 0 (by omega) (by omega); have := e 1 (by omega) (by omega); have := e 2 (by omega) (by omega); have := e 4 (by omega) (by omega); have := e 5 (by omega) (by omega); have := e 6 (by omega) (by omega); have := e 7 (by omega) (by omega); have := e 8 (by omega) (by omega); have := e 9 (by omega) (by omega); have := e 10 (by omega) (by omega); have := e 11 (by omega) (by omega)
      simp only [Nat.reduceMul, Nat.reduceSub, Nat.reducePow]
      omega
    · have := z 4 (by omega) (by omega); have := z 5 (by omega) (by omega); have := z 6 (by omega) (by omega); have := z 7 (by omega) (by omega); have := z 8 (by omega) (by omega); have := z 9 (by omega) (by omega); have := z 10 (by omega) (by omega); have := z 11 (by omega) (by omega)
      have := e 0 (by omega) (by omega); have := e 1 (by omega) (by omega); have := e 2 (by omega) (by omega); have := e 3 (by omega) (by omega); have := e 5 (by omega) (by omega); have := e 6 (by omega) (by omega); have := e 7 (by omega) (by omega); have := e 8 (by omega) (by omega); have := e 9 (by omega) (by omega); have := e 10 (by omega) (by omega); have := e 11 (by omega) (by omega)
      simp only [Nat.reduceMul, Nat.reduceSub, Nat.reducePow]
      omega
    · have := z 5 (by omega) (by omega); have := z 6 (by omega) (by omega); have := z 7 (by omega) (by omega); have := z 8 (by omega) (by omega); have := z 9 (by omega) (by omega); have := z 10 (by omega) (by omega); have := z 11 (by omega) (by omega)
      have := e 0 (by omega) (by omega); have := e 1 (by omega) (by omega); have := e 2 (by omega) (by omega); have := e 3 (by omega) (by omega); have := e 4 (by omega) (by omega); have := e 6 (by omega) (by omega); have := e 7 (by omega) (by omega); have := e 8 (by omega) (by omega); have := e 9 (by omega) (by omega); have := e 10 (by omega) (by omega); have := e 11 (by omega) (by omega)
      simp only [Nat.reduceMul, Nat.reduceSub, Nat.reducePow]
      omega
    · have := z 6 (by omega) (by omega); have := z 7 (by omega) (by omega); have := z 8 (by omega) (by omega); have := z 9 (by omega) (by omega); have := z 10 (by omega) (by omega); have := z 11 (by omega) (by omega)
      have := e 0 (by omega) (by omega); have := e 1 (by omega) (by omega); have := e 2 (by omega) (by omega); have := e 3 (by omega) (by omega); have := e 4 (by omega) (by omega); have := e 5 (by omega) (by omega); have := e 7 (by omega) (by omega); have := e 8 (by omega) (by omega); have := e 9 (by omega) (by omega); have := e 10 (by omega) (by omega); have := e 11 (by omega) (by omega)
      simp only [Nat.reduceMul, Nat.reduceSub, Nat.reducePow]
      omega
    · have := z 7 (by omega) (by omega); have := z 8 (by omega) (by omega); have := z 9 (by omega) (by omega); have := z 10 (by omega) (by omega); have := z 11 (by omega) (by omega)
      have := e 0 (by omega) (by omega); have := e 1 (by omega) (by omega); have := e 2 (by omega) (by omega); have := e 3 (by omega) (by omega); have := e 4 (by omega) (by omega); have := e 5 (by omega) (by omega); have := e 6 (by omega) (by omega); have := e 8 (by omega) (by omega); have := e 9 (by omega) (by omega); have := e 10 (by omega) (by omega); have := e 11 (by omega) (by omega)
      simp only [Nat.reduceMul, Nat.reduceSub, Nat.reducePow]
      omega
    · have := z 8 (by omega) (by omega); have := z 9 (by omega) (by omega); have := z 10 (by omega) (by omega); have := z 11 (by omega) (by omega)
      have := e 0 (by omega) (by omega); have := e 1 (by omega) (by omega); have := e 2 (by omega) (by omega); have := e 3 (by omega) (by omega); have := e 4 (by omega) (by omega); have := e 5 (by omega) (by omega); have := e 6 (by omega) (by omega); have := e 7 (by omega) (by omega); have := e 9 (by omega) (by omega); have := e 10 (by omega) (by omega); have := e 11 (by omega) (by omega)
      simp only [Nat.reduceMul, Nat.reduceSub, Nat.reducePow]
      omega
    · have := z 9 (by omega) (by omega); have := z 10 (by omega) (by omega); have := z 11 (by omega) (by omega)
      have := e 0 (by omega) (by omega); have := e 1 (by omega) (by omega); have := e 2 (by omega) (by omega); have := e 3 (by omega) (by omega); have := e 4 (by omega) (by omega); have := e 5 (by omega) (by omega); have := e 6 (by omega) (by omega); have := e 7 (by omega) (by omega); have := e 8 (by omega) (by omega); have := e 10 (by omega) (by omega); have := e 11 (by omega) (by omega)
      simp only [Nat.reduceMul, Nat.reduceSub, Nat.reducePow]
      omega
    · have := z 10 (by omega) (by omega); have := z 11 (by omega) (by omega)
      have := e 0 (by omega) (by omega); have := e 1 (by omega) (by omega); have := e 2 (by omega) (by omega); have := e 3 (by omega) (by omega); have := e 4 (by omega) (by omega); have := e 5 (by omega) (by omega); have := e 6 (by omega) (by omega); have := e 7 (by omega) (by omega); have := e 8 (by omega) (by omega); have := e 9 (by omega) (by omega); have := e 11 (by omega) (by omega)
      simp only [Nat.reduceMul, Nat.reduceSub, Nat.reducePow]
      omega
    · have := z 11 (by omega) (by omega)
      have := e 0 (by omega) (by omega); have := e 1 (by omega) (by omega); have := e 2 (by omega) (by omega); have := e 3 (by omega) (by omega); have := e 4 (by omega) (by omega); have := e 5 (by omega) (by omega); have := e 6 (by omega) (by omega); have := e 7 (by omega) (by omega); have := e 8 (by omega) (by omega); have := e 9 (by omega) (by omega); have := e 10 (by omega) (by omega)
      simp only [Nat.reduceMul, Nat.reduceSub, Nat.reducePow]
      omega
  obtain ⟨k1, k2, k3⟩ := key
  have := fb_or_sumL (pkn l / 2 ^ (60 - 5 * k)) k3
  rw [← k1] at this
  rw [this, k2]
theorem pkn_lt {l m : Nat → Int} (hl : okL l) (hm : okL m) {k : Nat} (hk : k < 12) (he : ∀ p, p < k → l p = m p) (hlt : l k < m k) : pkn l < pkn m := by
  have hd : ∀ p, p < k → dig (l p) = dig (m p) := fun p h => by rw [he p h]
  have dk : dig (l k) < dig (m k) := by
    have a := dig_b hl hk
    have b := dig_b hm hk
    have c := hl k hk
    have d := hm k hk
    by_cases x : l k = 0
    · rw [a.2.1 x]
      have := b.2.2 (by omega)
      omega
    · have := a.2.2 x
      have := b.2.2 (by omega)
      omega
  have a0 := (dig_b hl (p := 0) (by omega)).1
  have a1 := (dig_b hl (p := 1) (by omega)).1
  have a2 := (dig_b hl (p := 2) (by omega)).1
  have a3 := (dig_b hl (p := 3) (by omega)).1
  have a4 := (dig_b hl (p := 4) (by omega)).1
  have a5 := (dig_b hl (p := 5) (by omega)).1
  have a6 := (dig_b hl (p := 6) (by omega)).1
  have a7 := (dig_b hl (p := 7) (by omega)).1
  have a8 := (dig_b hl (p := 8) (by omega)).1
  have a9 := (dig_b hl (p := 9) (by omega)).1
  have a10 := (dig_b hl (p := 10) (by omega)).1
  have a11 := (dig_b hl (p := 11) (by omega)).1
  unfold pkn
  rcases tw12 hk with rfl | rfl | rfl | rfl | rfl | rfl | rfl | rfl | rfl | rfl | rfl | rfl
  · omega
  · have := hd 0 (by omega); omega
  · have := hd 0 (by omega); have := hd 1 (by omega); omega
  · have := hd 0 (by omega); have := hd 1 (by omega); have := hd 2 (by omega); omega
  · have := hd 0 (by omega); have := hd 1 (by omega); have := hd 2 (by omega); have := hd 3 (by omega); omega
  · have := hd 0 (by omega); have := hd 1 (by omega); have := hd 2 (by omega); have := hd 3 (by omega); have := hd 4 (by omega); omega
  · have := hd 0 (by omega); have := hd 1 (by omega); have := hd 2 (by omega); have := hd 3 (by omega); have := hd 4 (by omega); have := hd 5 (by omega); omega
  · have := hd 0 (by omega); have := hd 1 (by omega); have := hd 2 (by omega); have := hd 3 (by omega); have := hd 4 (by omega); have := hd 5 (by omega); have := hd 6 (by omega); omega
  · have := hd 0 (by omega); have := hd 1 (by omega); have := hd 2 (by omega); have := hd 3 (by omega); have := hd 4 (by omega); have := hd 5 (by omega); have := hd 6 (by omega); have := hd 7 (by omega); omega
  · have := hd 0 (by omega); have := hd 1 (by omega); have := hd 2 (by omega); have := hd 3 (by omega); have := hd 4 (by omega); have := hd 5 (by omega); have := hd 6 (by omega); have := hd 7 (by omega); have := hd 8 (by omega); omega
  · have := hd 0 (by omega); have := hd 1 (by omega); have := hd 2 (by omega); have := hd 3 (by omega); have := hd 4 (by omega); have := hd 5 (by omega); have := hd 6 (by omega); have := hd 7 (by omega); have := hd 8 (by omega); have := hd 9 (by omega); omega
  · have := hd 0 (by omega); have := hd 1 (by omega); have := hd 2 (by omega); have := hd 3 (by omega); have := hd 4 (by omega); have := hd 5 (by omega); have := hd 6 (by omega); have := hd 7 (by omega); have := hd 8 (by omega); have := hd 9 (by omega); have := hd 10 (by omega); omega
/-- the first place where two words differ -/
theorem wd_df (l m : Nat → Int) : (∀ p, p < 12 → l p = m p) ∨ ∃ k, k < 12 ∧ (∀ p, p < k → l p = m p) ∧ l k ≠ m k := by
  have : ∀ j, j ≤ 12 → (∀ p, p < j → l p = m p) ∨ ∃ k, k < 12 ∧ (∀ p, p < k → l p = m p) ∧ l k ≠ m k := by
    intro j
    induction j with
    | zero => intro _; exact Or.inl (fun p h => absurd h (by omega))
    | succ j ih =>
      intro hj
      rcases ih (by omega) with h | h
      · by_cases z : l j = m j
        · refine Or.inl (fun p hp => ?_)
          by_cases y : p = j
          · rw [y]; exact z
          · exact h p (by omega)
        · exact Or.inr ⟨j, by omega, h, z⟩
      · exact Or.inr h
  exact this 12 (Nat.le_refl _)
theorem pkn_eq {l m : Nat → Int} (hl : okL l) (hm : okL m) : pkn l = pkn m ↔ ∀ p, p < 12 → l p = m p := by
  constructor
  · intro h
    rcases wd_df l m with h1 | ⟨k, h1, h2, h3⟩
    · exact h1
    · exfalso
      by_cases z : l k < m k
      · have := pkn_lt hl hm h1 h2 z
        omega
      · have := pkn_lt hm hl h1 (fun p hp => (h2 p hp).symm) (by omega)
        omega
  · intro h
    unfold pkn
    rw [h 0 (by omega), h 1 (by omega), h 2 (by omega), h 3 (by omega), h 4 (by omega), h 5 (by omega), h 6 (by omega), h 7 (by omega), h 8 (by omega), h 9 (by omega), h 10 (by omega), h 11 (by omega)]
theorem lNlt {a b : Nat} (ha : a < 2 ^ 62) (hb : b < 2 ^ 62) : lN a < lN b ↔ a < b := by
  rw [Int64.lt_iff_toInt_lt, pf_lI (by omega), pf_lI (by omega)]
  omega
theorem lNeq {a b : Nat} (ha : a < 2 ^ 62) (hb : b < 2 ^ 62) : lN a = lN b ↔ a = b := by
  rw [← Int64.toInt_inj, pf_lI (by omega), pf_lI (by omega)]
  omega
