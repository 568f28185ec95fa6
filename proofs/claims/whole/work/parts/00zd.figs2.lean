/-! FIGURES above and below their lines, unit by unit from the right -/
def go (a c : Int) : Nat := if a = 0 then (if c = 51 ∨ c = 52 ∨ c = 53 ∨ c = 55 ∨ c = 57 then 1 else 0) else (if c = 54 ∨ c = 56 then 1 else 0)
def ub (a : Int) : List Int → List Nat
  | [] => []
  | c :: cs => List.replicate (wd c).toNat (go a c) ++ ub a cs
def rdg : Nat → Int → List Int
  | 0, _ => []
  | k + 1, v => if v ≤ 0 then [] else (48 + v % 10) :: rdg k (v / 10)
def bv : List Nat → Nat
  | [] => 0
  | b :: bs => b + 2 * bv bs
theorem go_b (a c : Int) : go a c = 0 ∨ go a c = 1 := by
  unfold go
  split <;> split <;> omega
theorem ub_1 (a : Int) : ∀ cs, ∀ x ∈ ub a cs, x ≤ 1 := by
  intro cs
  induction cs with
  | nil => intro x hx; exact absurd hx List.not_mem_nil
  | cons c cs ih =>
    intro x hx
    rw [ub, List.mem_append] at hx
    rcases hx with h | h
    · have := List.eq_of_mem_replicate h
      have := go_b a c
      omega
    · exact ih x h
theorem bv_rep (g : Nat) (w : Nat) (L : List Nat) : bv (List.replicate w g ++ L) = g * (2 ^ w - 1) + 2 ^ w * bv L := by
  induction w with
  | zero => simp
  | succ w ih =>
    rw [List.replicate_succ, List.cons_append, bv, ih, Nat.pow_succ]
    have : 1 ≤ 2 ^ w := Nat.one_le_two_pow
    have e : g * (2 ^ w * 2 - 1) = g + 2 * (g * (2 ^ w - 1)) := by
      rw [← Nat.mul_assoc, Nat.mul_comm 2 g, Nat.mul_assoc]
      have : 2 ^ w * 2 - 1 = 1 + 2 * (2 ^ w - 1) := by omega
      rw [this, Nat.mul_add, Nat.mul_one]
    rw [e, Nat.mul_add, Nat.mul_comm (2 ^ w) 2, Nat.mul_assoc]
    omega
theorem bv_tb : ∀ (L : List Nat), (∀ x ∈ L, x ≤ 1) → ∀ i, (bv L).testBit i = decide (L.getD i 0 = 1) := by
  intro L
  induction L with
  | nil => intro _ i; simp [bv]
  | cons b L ih =>
    intro h i
    have hb := h b List.mem_cons_self
    cases i with
    | zero =>
      rw [Nat.testBit_zero, bv]
      show decide ((b + 2 * bv L) % 2 = 1) = decide (b = 1)
      congr 1
      apply propext
      omega
    | succ i =>
      rw [Nat.testBit_succ, bv, show (b + 2 * bv L) / 2 = bv L by omega]
      exact ih (fun x hx => h x (List.mem_cons_of_mem _ hx)) i
theorem or_m : ∀ u, u < 9 → ∀ w, w < 3 → ∀ A, A < 2 ^ u → (nI A ||| ((((1 : Int32) <<< (nI w &&& 31)) - (1 : Int32)) <<< (nI u &&& 31))) = nI (A + 2 ^ u * (2 ^ w - 1)) := by decide +kernel
theorem and_I (a b : Nat) : nI a &&& nI b = nI (a &&& b) := by
  apply Int32.toBitVec_inj.1
  show BitVec.ofNat 32 a &&& BitVec.ofNat 32 b = BitVec.ofNat 32 (a &&& b)
  apply BitVec.eq_of_getLsbD_eq
  intro i hi
  simp [hi]
theorem wd_d {c : Int} (h : 48 ≤ c ∧ c ≤ 57) : wd c = 1 ∨ wd c = 2 := by
  unfold wd
  split
  · omega
  · split
    · omega
    · split
      · omega
      · split
        · omega
        · split
          · omega
          · split
            · omega
            · split
              · omega
              · split
                · omega
                · split
                  · omega
                  · split
                    · omega
                    · split <;> omega
theorem rdg_d : ∀ (k : Nat) (v : Int), ∀ c ∈ rdg k v, 48 ≤ c ∧ c ≤ 57 := by
  intro k
  induction k with
  | zero => intro v c h; exact absurd h List.not_mem_nil
  | succ k ih =>
    intro v c h
    rw [rdg] at h
    split at h
    · exact absurd h List.not_mem_nil
    · rcases List.mem_cons.mp h with e | e
      · have := Int.emod_nonneg v (show (10 : Int) ≠ 0 by omega)
        have := Int.emod_lt_of_pos v (show (0 : Int) < 10 by omega)
        omega
      · exact ih _ c e
theorem rdg_ar {v : Int} (h0 : 0 < v) (h9 : v < 10000) : (ar v).reverse = rdg 4 v := by
  unfold ar arN
  by_cases h1 : v < 10
  · rw [if_pos h1, rdg, if_neg (by omega), rdg, if_pos (by omega)]
    rfl
  · rw [if_neg h1]
    by_cases h2 : v < 100
    · rw [if_pos h2, rdg, if_neg (by omega), rdg, if_neg (by omega), rdg, if_pos (by omega)]
      rfl
    · rw [if_neg h2]
      by_cases h3 : v < 1000
      · rw [if_pos h3, rdg, if_neg (by omega), rdg, if_neg (by omega), rdg, if_neg (by omega), rdg, if_pos (by omega), show v / 10 / 10 = v / 100 by omega]
        rfl
      · rw [if_neg h3, rdg, if_neg (by omega), rdg, if_neg (by omega), rdg, if_neg (by omega), rdg, if_neg (by omega), rdg, show v / 10 / 10 / 10 = v / 1000 by omega, show v / 10 / 10 = v / 100 by omega]
        rfl
theorem ub_len (a : Int) : ∀ cs : List Int, (∀ c ∈ cs, 48 ≤ c ∧ c ≤ 57) → (ub a cs).length ≤ 2 * cs.length := by
  intro cs
  induction cs with
  | nil => intro _; exact Nat.le_refl _
  | cons c cs ih =>
    intro h
    have h1 := wd_d (h c List.mem_cons_self)
    have h2 := ih (fun x hx => h x (List.mem_cons_of_mem _ hx))
    rw [ub, List.length_append, List.length_replicate, List.length_cons]
    omega
section FG2
variable {n : Nat} {R : Nat → Int} {N fr : Nat}
theorem uoC (a : Int) (ha : a = 0 ∨ a = 1) {v0 : Int32} {μ : Mm} : ∀ (k f : Nat) (A u : Nat) (v : Int), A < 2 ^ u → u + 2 * k ≤ 8 → 0 ≤ v ∧ v < 10 ^ k → k < f → sh_X1_unitsOf_7 n v0 (jv a) μ f (nI A) (nI u) (jv v) = some (nI (A + 2 ^ u * bv (ub a (rdg k v)))) := by
  intro k
  induction k with
  | zero =>
    intro f A u v hA hu hv hf
    obtain ⟨f, rfl⟩ : ∃ g, f = g + 1 := ⟨f - 1, by omega⟩
    have : v = 0 := by have := hv.2; simp at this; omega
    rw [sh_X1_unitsOf_7, if_pos (by rw [jv_lit (nat_lit 0), jv_le] <;> omega)]
    rfl
  | succ k ih =>
    intro f A u v hA hu hv hf
    obtain ⟨f, rfl⟩ : ∃ g, f = g + 1 := ⟨f - 1, by omega⟩
    have hv2 : v < 10000 := by
      have hk : k = 0 ∨ k = 1 ∨ k = 2 ∨ k = 3 := by omega
      have := hv.2
      rcases hk with rfl | rfl | rfl | rfl <;> simp at this <;> omega
    rw [sh_X1_unitsOf_7]
    by_cases z : v ≤ 0
    · rw [if_pos (by rw [jv_lit (nat_lit 0), jv_le] <;> omega), rdg, if_pos z]
      rfl
    · have hm : 0 ≤ v % 10 ∧ v % 10 ≤ 9 := by omega
      have hd : v / 10 < 10 ^ k := by
        have := hv.2
        rw [Int.pow_succ] at this
        omega
      rw [if_neg (by rw [jv_lit (nat_lit 0), jv_le] <;> omega), rdg, if_neg z, ub, bv_rep]
      simp only [jv_lit]
      rw [rm_jv (by omega) (by omega) (by omega) (by omega), Option.bind_some, jv_add, sw_jv (by omega) (by omega), Option.bind_some]
      have hw := wd_d (c := 48 + v % 10) (by omega)
      generalize hc : 48 + v % 10 = c at *
      obtain ⟨w, hwn⟩ : ∃ w : Nat, wd c = w := ⟨(wd c).toNat, by omega⟩
      rw [hwn]
      have p2 : 1 ≤ 2 ^ w := Nat.one_le_two_pow
      -- both ways on
      have on : ∀ g : Nat, (g = 0 ∨ g = 1) → ∀ X : Nat, X = A + 2 ^ u * (g * (2 ^ w - 1)) → X < 2 ^ (u + w) := by
        intro g hg X hX
        rw [Nat.pow_add, hX]
        rcases hg with rfl | rfl
        · have : 2 ^ u * 1 ≤ 2 ^ u * 2 ^ w := Nat.mul_le_mul_left _ p2
          omega
        · have : 2 ^ u * (1 * (2 ^ w - 1)) + 2 ^ u = 2 ^ u * 2 ^ w := by
            rw [Nat.one_mul, Nat.mul_sub, Nat.mul_one]
            have : 2 ^ u * 1 ≤ 2 ^ u * 2 ^ w := Nat.mul_le_mul_left _ p2
            omega
          omega
      have k96 : ∀ g : Nat, (g = 0 ∨ g = 1) → sh_X1_unitsOf_96 n v0 (jv a) μ (fun (x2 : Int32) (x3 : Int32) (x4 : Int32) => sh_X1_unitsOf_7 n v0 (jv a) μ f x2 x3 x4) (nI (A + 2 ^ u * (g * (2 ^ w - 1)))) (nI u) (jv v) (jv w) = some (nI (A + 2 ^ u * (g * (2 ^ w - 1) + 2 ^ w * bv (ub a (rdg k (v / 10)))))) := by
        intro g hg
        unfold sh_X1_unitsOf_96
        simp only [nm_eq, jv_lit]
        rw [dv_jv (by omega) (by omega) (by omega) (by omega), Option.bind_some, jv_nI u, jv_add, show (u : Int) + (w : Int) = ((u + w : Nat) : Int) by omega, ← jv_nI]
        rw [ih f _ (u + w) (v / 10) (on g hg _ rfl) (by omega) ⟨by omega, hd⟩ (by omega)]
        congr 2
        rw [Nat.mul_add, Nat.pow_add, Nat.mul_assoc]
        omega
      have k85 : sh_X1_unitsOf_85 n v0 (jv a) μ (fun (x2 : Int32) (x3 : Int32) (x4 : Int32) => sh_X1_unitsOf_7 n v0 (jv a) μ f x2 x3 x4) (nI A) (nI u) (jv v) (jv w) = some (nI (A + 2 ^ u * (1 * (2 ^ w - 1) + 2 ^ w * bv (ub a (rdg k (v / 10)))))) := by
        unfold sh_X1_unitsOf_85
        simp only [nm_eq]
        rw [← jv_nI w, or_m u (by omega) w (by omega) A hA, jv_nI w]
        have := k96 1 (Or.inr rfl)
        rw [Nat.one_mul] at this ⊢
        exact this
      have k96z : sh_X1_unitsOf_96 n v0 (jv a) μ (fun (x2 : Int32) (x3 : Int32) (x4 : Int32) => sh_X1_unitsOf_7 n v0 (jv a) μ f x2 x3 x4) (nI A) (nI u) (jv v) (jv w) = some (nI (A + 2 ^ u * (0 * (2 ^ w - 1) + 2 ^ w * bv (ub a (rdg k (v / 10)))))) := by
        have := k96 0 (Or.inl rfl)
        rw [Nat.zero_mul, Nat.mul_zero, Nat.add_zero] at this
        rw [Nat.zero_mul]
        exact this
      rw [show (↑w : Int).toNat = w from Int.toNat_natCast w]
      unfold sh_X1_unitsOf_43 sh_X1_unitsOf_48 sh_X1_unitsOf_65 sh_X1_unitsOf_66
      simp only [jv_lit]
      have hc2 : v % 10 = c - 48 := by omega
      rw [hc2]
      have h10 : c = 48 ∨ c = 49 ∨ c = 50 ∨ c = 51 ∨ c = 52 ∨ c = 53 ∨ c = 54 ∨ c = 55 ∨ c = 56 ∨ c = 57 := by omega
      clear ih on k96 hd hm hv2 hc hc2 hw hwn
      rcases ha with rfl | rfl <;> rcases h10 with rfl | rfl | rfl | rfl | rfl | rfl | rfl | rfl | rfl | rfl
      · exact k96z
      · exact k96z
      · exact k96z
      · exact k85
      · exact k85
      · exact k85
      · exact k96z
      · exact k85
      · exact k96z
      · exact k85
      · exact k96z
      · exact k96z
      · exact k96z
      · exact k96z
      · exact k96z
      · exact k96z
      · exact k85
      · exact k96z
      · exact k85
      · exact k96z
end FG2
