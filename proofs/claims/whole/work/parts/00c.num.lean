/-! NUMBERS AND CELLS: what a cell holds is written jv z, z an integer; reads and writes of the flat world at integers -/
def jv (z : Int) : Int32 := Int32.ofInt z
theorem jv_lit (k : Nat) : (no_index (OfNat.ofNat k) : Int32) = jv (no_index (OfNat.ofNat k)) := by
  show Int32.ofNat k = Int32.ofInt (k : Int)
  exact Int32.ofInt_eq_ofNat.symm
theorem jv_nI (k : Nat) : nI k = jv (k : Int) := by
  show Int32.ofNat k = Int32.ofInt (k : Int)
  exact Int32.ofInt_eq_ofNat.symm
theorem jv_add (a b : Int) : jv a + jv b = jv (a + b) := (Int32.ofInt_add a b).symm
theorem jv_sub (a b : Int) : jv a - jv b = jv (a - b) := (Int32.ofInt_sub a b).symm
theorem jv_mul (a b : Int) : jv a * jv b = jv (a * b) := (Int32.ofInt_mul a b).symm
theorem jv_neg (a : Int) : -jv a = jv (-a) := (Int32.ofInt_neg a).symm
theorem jv_toInt {a : Int} (h : -2147483648 ≤ a) (h' : a ≤ 2147483647) : (jv a).toInt = a := Int32.toInt_ofInt_of_le (by omega) (by omega)
theorem jv_of (x : Int32) : jv x.toInt = x := Int32.ofInt_toInt x
theorem jv_ex (x : Int32) : ∃ z : Int, -2147483648 ≤ z ∧ z ≤ 2147483647 ∧ x = jv z := ⟨x.toInt, by have := x.le_toInt; omega, by have := x.toInt_lt; omega, (jv_of x).symm⟩
theorem jv_le {a b : Int} (h1 : -2147483648 ≤ a) (h2 : a ≤ 2147483647) (h3 : -2147483648 ≤ b) (h4 : b ≤ 2147483647) : jv a ≤ jv b ↔ a ≤ b := by
  rw [Int32.le_iff_toInt_le, jv_toInt h1 h2, jv_toInt h3 h4]
theorem jv_lt {a b : Int} (h1 : -2147483648 ≤ a) (h2 : a ≤ 2147483647) (h3 : -2147483648 ≤ b) (h4 : b ≤ 2147483647) : jv a < jv b ↔ a < b := by
  rw [Int32.lt_iff_toInt_lt, jv_toInt h1 h2, jv_toInt h3 h4]
theorem jv_eq {a b : Int} (h1 : -2147483648 ≤ a) (h2 : a ≤ 2147483647) (h3 : -2147483648 ≤ b) (h4 : b ≤ 2147483647) : jv a = jv b ↔ a = b := by
  rw [← Int32.toInt_inj, jv_toInt h1 h2, jv_toInt h3 h4]
theorem jv_ix {a : Int} (h1 : 0 ≤ a) (h2 : a ≤ 2147483647) : ix (jv a) = a.toNat := by
  show (jv a).toNatClampNeg = a.toNat
  rw [← Int32.toNat_toInt, jv_toInt (by omega) h2]
theorem jv_div {a b : Int} (h1 : 0 ≤ a) (h2 : a ≤ 2147483647) (h3 : 0 < b) (h4 : b ≤ 2147483647) : jv a / jv b = jv (a / b) := by
  apply Int32.toInt_inj.mp
  have hb : (jv b) ≠ -1 := by
    intro q
    have := congrArg Int32.toInt q
    rw [jv_toInt (by omega) h4] at this
    have e : (-1 : Int32).toInt = -1 := by decide
    omega
  have hd : a / b ≤ a := Int.ediv_le_self b h1
  have hd0 : 0 ≤ a / b := Int.ediv_nonneg h1 (by omega)
  rw [Int32.toInt_div_of_ne_right _ _ hb, jv_toInt (by omega) h2, jv_toInt (by omega) h4, jv_toInt (by omega) (by omega), Int.tdiv_eq_ediv_of_nonneg h1]
theorem jv_ne0 {b : Int} (h3 : 0 < b) (h4 : b ≤ 2147483647) : ¬ jv b = 0 := by
  intro q
  have := congrArg Int32.toInt q
  rw [jv_toInt (by omega) h4] at this
  have e : (0 : Int32).toInt = 0 := by decide
  omega
theorem dv_jv {a b : Int} (h1 : 0 ≤ a) (h2 : a ≤ 2147483647) (h3 : 0 < b) (h4 : b ≤ 2147483647) : dv (jv a) (jv b) = some (jv (a / b)) := by
  unfold dv
  rw [if_neg (jv_ne0 h3 h4), jv_div h1 h2 h3 h4]
theorem rm_jv {a b : Int} (h1 : 0 ≤ a) (h2 : a ≤ 2147483647) (h3 : 0 < b) (h4 : b ≤ 2147483647) : rm (jv a) (jv b) = some (jv (a % b)) := by
  unfold rm
  rw [if_neg (jv_ne0 h3 h4), jv_div h1 h2 h3 h4, jv_mul, jv_sub]
  congr 2
  have := Int.emod_add_mul_ediv a b
  have e : b * (a / b) = a / b * b := Int.mul_comm _ _
  omega
theorem dv_ex {x y : Int32} (h : ¬ y = 0) : ∃ z, dv x y = some z := ⟨x / y, by unfold dv; rw [if_neg h]⟩
theorem isB_0 : isB (jv 0) = some (jv 0) := by decide
theorem isB_1 : isB (jv 1) = some (jv 1) := by decide
theorem isB_jv {a : Int} (h : a = 0 ∨ a = 1) : isB (jv a) = some (jv a) := by
  rcases h with rfl | rfl
  · exact isB_0
  · exact isB_1
theorem nm_eq {α β : Type} (e : α) (f : α → Option β) : nm e f = f e := rfl
/-- lengths -/
theorem ln_lt (k : Nat) : ln k ≤ 200000 := by
  unfold ln
  rw [List.getD_eq_getElem?_getD]
  cases h : lnL[k]? with
  | none => exact Nat.zero_le _
  | some v =>
    have hm : v ∈ lnL := List.mem_of_getElem? h
    have : ∀ x ∈ lnL, x ≤ 200000 := by decide +kernel
    exact this v hm
theorem inb_jv {a : Int} {n : Nat} (h1 : 0 ≤ a) (h2 : a < n) (h3 : a ≤ 2147483647) : inb (jv a) n = true := by
  have e0 : ¬ jv a < 0 := by
    rw [jv_lit (nat_lit 0), jv_lt (by omega) (by omega) (by omega) (by omega)]
    omega
  simp only [inb, jv_ix h1 h3, Bool.and_eq_true, decide_eq_true_eq]
  exact ⟨e0, by omega⟩
theorem ld_jv {μ : Mm} {k : Nat} {a : Int} (h1 : 0 ≤ a) (h2 : a < ln k) : ld μ k (jv a) = some (μ.1 k a.toNat) := by
  have := ln_lt k
  unfold ld
  rw [if_pos (inb_jv h1 h2 (by omega)), jv_ix h1 (by omega)]
theorem ldJ_jv {μ : Mm} {k : Nat} {a : Int} (h1 : 0 ≤ a) (h2 : a < ln k) : ldJ μ k (jv a) = some (μ.2.1 k a.toNat) := by
  have := ln_lt k
  unfold ldJ
  rw [if_pos (inb_jv h1 h2 (by omega)), jv_ix h1 (by omega)]
theorem st_jv {μ : Mm} {k : Nat} {a : Int} {v : Int32} (h1 : 0 ≤ a) (h2 : a < ln k) : st μ k (jv a) v = some (sI μ k a.toNat v) := by
  have := ln_lt k
  unfold st
  rw [if_pos (inb_jv h1 h2 (by omega)), jv_ix h1 (by omega)]
theorem stJ_jv {μ : Mm} {k : Nat} {a : Int} {v : Int64} (h1 : 0 ≤ a) (h2 : a < ln k) : stJ μ k (jv a) v = some (sJ μ k a.toNat v) := by
  have := ln_lt k
  unfold stJ
  rw [if_pos (inb_jv h1 h2 (by omega)), jv_ix h1 (by omega)]
theorem a5_in {t : Nat} {a : Int} {μ : Mm} (h1 : 0 ≤ a) (h2 : a < ln (t + 1)) : sh_X5_at t (jv a) μ = some (μ.1 (t + 1) a.toNat) := by
  have := ln_lt (t + 1)
  unfold sh_X5_at
  rw [jv_lit (nat_lit 0), jv_nI, if_neg (by rw [jv_lt] <;> omega), if_neg (by rw [jv_le] <;> omega), ld_jv h1 h2]
  rfl
theorem a5_lo {t : Nat} {a : Int} {μ : Mm} (h0 : -2147483648 ≤ a) (h1 : a < 0) : sh_X5_at t (jv a) μ = some (jv 0) := by
  unfold sh_X5_at
  rw [jv_lit (nat_lit 0), if_pos (by rw [jv_lt] <;> omega)]
theorem a5_hi {t : Nat} {a : Int} {μ : Mm} (h1 : ln (t + 1) ≤ a) (h2 : a ≤ 2147483647) : sh_X5_at t (jv a) μ = some (jv 0) := by
  have := ln_lt (t + 1)
  unfold sh_X5_at
  rw [jv_lit (nat_lit 0), jv_nI, if_neg (by rw [jv_lt] <;> omega), if_pos (by rw [jv_le] <;> omega)]
theorem a5_ex {t : Nat} {x : Int32} {μ : Mm} : ∃ v, sh_X5_at t x μ = some v := by
  obtain ⟨a, h1, h2, rfl⟩ := jv_ex x
  by_cases q : a < 0
  · exact ⟨_, a5_lo h1 q⟩
  · by_cases q2 : a < ln (t + 1)
    · exact ⟨_, a5_in (by omega) q2⟩
    · exact ⟨_, a5_hi (by omega) h2⟩
theorem p5_in {t : Nat} {a : Int} {v : Int32} {μ : Mm} (h1 : 0 ≤ a) (h2 : a < ln (t + 1)) : sh_X5_put t (jv a) v μ = some (sI μ (t + 1) a.toNat v) := by
  have := ln_lt (t + 1)
  unfold sh_X5_put
  rw [jv_lit (nat_lit 0), jv_nI, if_neg (by rw [jv_lt] <;> omega), if_neg (by rw [jv_le] <;> omega), st_jv h1 h2]
  rfl
theorem d5_in {t : Nat} {a : Int} {v : Int32} {μ : Mm} (h1 : 0 ≤ a) (h2 : a < ln (t + 1)) : sh_X5_add t (jv a) v μ = some (sI μ (t + 1) a.toNat (μ.1 (t + 1) a.toNat + v)) := by
  have := ln_lt (t + 1)
  unfold sh_X5_add
  rw [jv_lit (nat_lit 0), jv_nI, if_neg (by rw [jv_lt] <;> omega), if_neg (by rw [jv_le] <;> omega), ld_jv h1 h2, Option.bind_some, st_jv h1 h2]
  rfl
theorem d5_lo {t : Nat} {a : Int} {v : Int32} {μ : Mm} (h0 : -2147483648 ≤ a) (h1 : a < 0) : sh_X5_add t (jv a) v μ = some μ := by
  unfold sh_X5_add
  rw [jv_lit (nat_lit 0), if_pos (by rw [jv_lt] <;> omega)]
theorem a9_in {t : Nat} {a : Int} {μ : Mm} (h1 : 0 ≤ a) (h2 : a < ln (t + 1)) : sh_X9_at t (jv a) μ = some (μ.2.1 (t + 1) a.toNat) := by
  have := ln_lt (t + 1)
  unfold sh_X9_at
  rw [jv_lit (nat_lit 0), jv_nI, if_neg (by rw [jv_lt] <;> omega), if_neg (by rw [jv_le] <;> omega), ldJ_jv h1 h2]
  rfl
theorem p9_in {t : Nat} {a : Int} {v : Int64} {μ : Mm} (h1 : 0 ≤ a) (h2 : a < ln (t + 1)) : sh_X9_put t (jv a) v μ = some (sJ μ (t + 1) a.toNat v) := by
  have := ln_lt (t + 1)
  unfold sh_X9_put
  rw [jv_lit (nat_lit 0), jv_nI, if_neg (by rw [jv_lt] <;> omega), if_neg (by rw [jv_le] <;> omega), stJ_jv h1 h2]
  rfl
theorem qu_in {a b : Int} {μ : Mm} (h1 : 0 ≤ a) (h2 : a ≤ 2147483647) (h3 : 0 < b) (h4 : b ≤ 2147483647) : sh_X11_quotient (jv a) (jv b) μ = some (jv (a / b)) := by
  unfold sh_X11_quotient
  rw [jv_lit (nat_lit 0), if_neg (by rw [jv_le] <;> omega), dv_jv h1 h2 h3 h4]
  rfl
theorem qU_in {a b : Int} {μ : Mm} (h1 : 0 ≤ a) (h2 : a + b ≤ 2147483647) (h3 : 0 < b) : sh_X11_quotientUp (jv a) (jv b) μ = some (jv ((a + b - 1) / b)) := by
  unfold sh_X11_quotientUp
  rw [jv_lit (nat_lit 0), jv_lit (nat_lit 1), if_neg (by rw [jv_le] <;> omega), jv_add, jv_sub, dv_jv (by omega) (by omega) h3 (by omega)]
  rfl
theorem qu_ex {x y : Int32} {μ : Mm} : ∃ v, sh_X11_quotient x y μ = some v := by
  unfold sh_X11_quotient
  by_cases h : y ≤ 0
  · exact ⟨_, if_pos h⟩
  · rw [if_neg h]
    obtain ⟨z, hz⟩ := dv_ex (x := x) (y := y) (fun q => h (by rw [q]; exact Int32.le_refl _))
    exact ⟨z, by rw [hz]; rfl⟩
/-- what is not written stays -/
def Fm (P : Nat → Nat → Prop) (μ μ' : Mm) : Prop := μ'.2 = μ.2 ∧ ∀ k j, ¬ P k j → μ'.1 k j = μ.1 k j
theorem Fm.rf {P : Nat → Nat → Prop} {μ : Mm} : Fm P μ μ := ⟨rfl, fun _ _ _ => rfl⟩
theorem Fm.at {P : Nat → Nat → Prop} {μ μ' : Mm} (h : Fm P μ μ') (k j : Nat) (hn : ¬ P k j) : μ'.1 k j = μ.1 k j := h.2 k j hn
theorem Fm.tr {P Q : Nat → Nat → Prop} {μ μ1 μ2 : Mm} (h : Fm P μ μ1) (h2 : Fm Q μ1 μ2) (hs : ∀ k j, Q k j → P k j) : Fm P μ μ2 := ⟨h2.1.trans h.1, fun k j hn => (h2.2 k j (fun q => hn (hs k j q))).trans (h.2 k j hn)⟩
theorem Fm.mono {P Q : Nat → Nat → Prop} {μ μ1 : Mm} (h : Fm Q μ μ1) (hs : ∀ k j, Q k j → P k j) : Fm P μ μ1 := ⟨h.1, fun k j hn => h.2 k j (fun q => hn (hs k j q))⟩
theorem Fm.sI {P : Nat → Nat → Prop} {μ μ1 : Mm} {k0 j0 : Nat} {v : Int32} (h : Fm P μ μ1) (hp : P k0 j0) : Fm P μ (sI μ1 k0 j0 v) := ⟨h.1, fun k j hn => by
  show (if k = k0 ∧ j = j0 then v else μ1.1 k j) = _
  rw [if_neg (fun q => hn (by rw [q.1, q.2]; exact hp))]
  exact h.2 k j hn⟩
theorem sI_1 {μ : Mm} {k j : Nat} {v : Int32} {k' j' : Nat} : (sI μ k j v).1 k' j' = if k' = k ∧ j' = j then v else μ.1 k' j' := rfl
theorem sI_2 {μ : Mm} {k j : Nat} {v : Int32} : (sI μ k j v).2 = μ.2 := rfl
theorem sJ_1 {μ : Mm} {k j : Nat} {v : Int64} : (sJ μ k j v).1 = μ.1 := rfl
theorem sJ_21 {μ : Mm} {k j : Nat} {v : Int64} {k' j' : Nat} : (sJ μ k j v).2.1 k' j' = if k' = k ∧ j' = j then v else μ.2.1 k' j' := rfl
theorem sJ_22 {μ : Mm} {k j : Nat} {v : Int64} : (sJ μ k j v).2.2 = μ.2.2 := rfl
theorem pt_eq {μ : Mm} {k j : Nat} {v : Int32} : pt μ k j v = some (sI μ k j v) := rfl
theorem pz_jv {μ : Mm} {k j : Nat} {a : Int} (h : a = 0 ∨ a = 1) : pz μ k j (jv a) = some (sI μ k j (jv a)) := by
  unfold pz
  rw [if_pos]
  rcases h with rfl | rfl
  · exact Or.inl (by decide)
  · exact Or.inr (by decide)
