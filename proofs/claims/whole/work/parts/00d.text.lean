/-! TEXTS: bytes written one behind the other, by the class into a Text at t, by the model into its text -/
def Wr (X : Mm → List Int → Prop) (P : Nat → Nat → Prop) (μ : Mm) (L : List Int) (o : Option Mm) (S : List Int) : Prop := ∃ μ', o = some μ' ∧ X μ' (L ++ S) ∧ Fm P μ μ'
theorem Wr.bind {X : Mm → List Int → Prop} {P : Nat → Nat → Prop} {μ : Mm} {L S T : List Int} {o : Option Mm} {f : Mm → Option Mm} (h : Wr X P μ L o S) (k : ∀ μ1, X μ1 (L ++ S) → Fm P μ μ1 → Wr X P μ1 (L ++ S) (f μ1) T) : Wr X P μ L (o.bind f) (S ++ T) := by
  obtain ⟨μ1, rfl, hx, hf⟩ := h
  obtain ⟨μ2, e, hx2, hf2⟩ := k μ1 hx hf
  exact ⟨μ2, by rw [Option.bind_some, e], by rw [← List.append_assoc]; exact hx2, hf.tr hf2 (fun _ _ q => q)⟩
theorem Wr.nil {X : Mm → List Int → Prop} {P : Nat → Nat → Prop} {μ : Mm} {L : List Int} (h : X μ L) : Wr X P μ L (some μ) [] := ⟨μ, rfl, by rw [List.append_nil]; exact h, Fm.rf⟩
theorem Wr.as {X : Mm → List Int → Prop} {P : Nat → Nat → Prop} {μ : Mm} {L S T : List Int} {o : Option Mm} (h : Wr X P μ L o S) (e : S = T) : Wr X P μ L o T := e ▸ h
theorem Wr.last {X : Mm → List Int → Prop} {P : Nat → Nat → Prop} {μ : Mm} {L S : List Int} {o : Option Mm} (h : Wr X P μ L o S) : Wr X P μ L (o.bind fun r => some r) S := by
  rw [show (o.bind fun r => some r) = o from by cases o <;> rfl]
  exact h
def Tx (t : Nat) (μ : Mm) (L : List Int) : Prop := L.length ≤ ln (t + 1) ∧ μ.1 t 1 = jv L.length ∧ ∀ i, i < L.length → μ.1 (t + 1) i = jv (L.getD i 0)
def Mx (μ : Mm) (L : List Int) : Prop := L.length ≤ 16000 ∧ μ.1 306 17 = jv L.length ∧ ∀ i, i < L.length → μ.1 310 i = jv (L.getD i 0)
abbrev PT (t : Nat) : Nat → Nat → Prop := fun k _ => k = t ∨ k = t + 1
abbrev PM : Nat → Nat → Prop := fun k j => k = 306 ∧ j = 17 ∨ k = 310
theorem b8 {c : Int} (h1 : -128 ≤ c) (h2 : c ≤ 127) : (jv c).toInt8.toInt32 = jv c := by
  apply Int32.toInt_inj.mp
  rw [Int8.toInt_toInt32, Int32.toInt_toInt8, jv_toInt (by omega) (by omega)]
  exact Int.bmod_eq_of_le (by omega) (by omega)
theorem getD_app {L : List Int} {c : Int} {i : Nat} (h : i < L.length) : (L ++ [c]).getD i 0 = L.getD i 0 := by
  rw [List.getD_eq_getElem?_getD, List.getD_eq_getElem?_getD, List.getElem?_append_left h]
theorem getD_end {L : List Int} {c : Int} : (L ++ [c]).getD L.length 0 = c := by
  rw [List.getD_eq_getElem?_getD, List.getElem?_append_right (Nat.le_refl _)]
  simp
theorem put8 {t : Nat} {μ : Mm} {L : List Int} {c : Int} (h : Tx t μ L) (hc : L.length < ln (t + 1)) (h1 : -128 ≤ c) (h2 : c ≤ 127) : Wr (Tx t) (PT t) μ L (sh_X8_put t (jv c) μ) [c] := by
  obtain ⟨hl, hu, hb⟩ := h
  have hln := ln_lt (t + 1)
  refine ⟨sI (sI μ (t + 1) L.length (jv c)) t 1 (jv (L.length + 1)), ?_, ⟨?_, ?_, ?_⟩, ?_⟩
  · unfold sh_X8_put
    have e0 : ¬ jv (L.length : Int) < 0 := by rw [jv_lit (nat_lit 0), jv_lt] <;> omega
    have e1 : ¬ nI (ln (t + 1)) ≤ jv (L.length : Int) := by rw [jv_nI, jv_le] <;> omega
    rw [hu, if_neg e0, if_neg e1, vp_nar_byte, b8 h1 h2, b8 h1 h2, st_jv (by omega) (by omega), Option.bind_some, pt_eq, Option.bind_some, sI_1, if_neg (by omega), hu, jv_lit (nat_lit 1), jv_add]
    rfl
  · rw [List.length_append]
    exact hc
  · rw [sI_1, if_pos ⟨rfl, rfl⟩, List.length_append]
    rfl
  · intro i hi
    rw [List.length_append] at hi
    rw [sI_1, if_neg (by omega), sI_1]
    by_cases q : i = L.length
    · subst q
      rw [if_pos ⟨rfl, rfl⟩, getD_end]
    · have hi' : i < L.length := by
        have : [c].length = 1 := rfl
        omega
      rw [if_neg (by omega), getD_app hi', hb i hi']
  · exact (Fm.rf.sI (Or.inr rfl)).sI (Or.inl rfl)
theorem putM {μ : Mm} {L : List Int} {c : Int} (h : Mx μ L) (hc : L.length < 16000) (h1 : -128 ≤ c) (h2 : c ≤ 127) : Wr Mx PM μ L (sh_X12_put (jv c) μ) [c] := by
  obtain ⟨hl, hu, hb⟩ := h
  have hln : ln 310 = 16000 := rfl
  refine ⟨sI (sI μ 310 L.length (jv c)) 306 17 (jv (L.length + 1)), ?_, ⟨?_, ?_, ?_⟩, ?_⟩
  · unfold sh_X12_put
    rw [hu, vp_nar_byte, b8 h1 h2, b8 h1 h2, st_jv (by omega) (by omega), Option.bind_some, pt_eq, Option.bind_some, sI_1, if_neg (by omega), hu, jv_lit (nat_lit 1), jv_add]
    rfl
  · rw [List.length_append]
    exact hc
  · rw [sI_1, if_pos ⟨rfl, rfl⟩, List.length_append]
    rfl
  · intro i hi
    rw [List.length_append] at hi
    rw [sI_1, if_neg (by omega), sI_1]
    by_cases q : i = L.length
    · subst q
      rw [if_pos ⟨rfl, rfl⟩, getD_end]
    · have hi' : i < L.length := by
        have : [c].length = 1 := rfl
        omega
      rw [if_neg (by omega), getD_app hi', hb i hi']
  · exact (Fm.rf.sI (Or.inr rfl)).sI (Or.inl ⟨rfl, rfl⟩)
/-- many times the same -/
theorem times8 {n t : Nat} {c N : Int} (h1 : -128 ≤ c) (h2 : c ≤ 127) (hN : N ≤ 2147483647) : ∀ (k f : Nat) (i : Int) (μ : Mm) (L : List Int), Tx t μ L → 0 ≤ i → i + k = N → L.length + k ≤ ln (t + 1) → k < f → Wr (Tx t) (PT t) μ L (sh_X8_putTimes_2 n t (jv c) (jv N) f (jv i) μ) (List.replicate k c) := by
  intro k
  induction k with
  | zero =>
    intro f i μ L h h0 hi hl hf
    obtain ⟨f, rfl⟩ : ∃ g, f = g + 1 := ⟨f - 1, by omega⟩
    rw [sh_X8_putTimes_2, if_pos (by rw [jv_le] <;> omega)]
    exact Wr.nil h
  | succ k ih =>
    intro f i μ L h h0 hi hl hf
    obtain ⟨f, rfl⟩ : ∃ g, f = g + 1 := ⟨f - 1, by omega⟩
    rw [sh_X8_putTimes_2, if_neg (by rw [jv_le] <;> omega)]
    refine Wr.bind (S := [c]) (put8 h (by omega) h1 h2) (fun μ1 hx hf1 => ?_)
    rw [jv_lit (nat_lit 1), jv_add]
    exact ih f (i + 1) μ1 _ hx (by omega) (by omega) (by rw [List.length_append]; show L.length + 1 + k ≤ _; omega) (by omega)
theorem tim8 {n t : Nat} {c : Int} {k : Nat} (h1 : -128 ≤ c) (h2 : c ≤ 127) {μ : Mm} {L : List Int} (h : Tx t μ L) (hl : L.length + k ≤ ln (t + 1)) (hf : k < n) : Wr (Tx t) (PT t) μ L (sh_X8_putTimes n t (jv c) (jv k) μ) (List.replicate k c) := by
  have := ln_lt (t + 1)
  unfold sh_X8_putTimes
  rw [jv_lit (nat_lit 0)]
  exact times8 h1 h2 (by omega) k n 0 μ L h (by omega) (by omega) hl hf
/-! numbers in figures -/
def dgl (v : Int) : Nat → List Int
  | 0 => [48 + v % 10]
  | 1 => [48 + v / 10 % 10, 48 + v % 10]
  | 2 => [48 + v / 100 % 10, 48 + v / 10 % 10, 48 + v % 10]
  | _ => [48 + v / 1000 % 10, 48 + v / 100 % 10, 48 + v / 10 % 10, 48 + v % 10]
def arN (v : Int) : Nat := if v < 10 then 0 else if v < 100 then 1 else if v < 1000 then 2 else 3
def ar (v : Int) : List Int := dgl v (arN v)
theorem ar_len (v : Int) : (ar v).length ≤ 4 := by
  unfold ar arN
  split
  · exact Nat.le_of_ble_eq_true rfl
  · split
    · exact Nat.le_of_ble_eq_true rfl
    · split <;> exact Nat.le_of_ble_eq_true rfl
theorem ar8_1 {n t f : Nat} {v : Int} {μ : Mm} {L : List Int} (h0 : 0 ≤ v) (h9 : v < 10000) (h : Tx t μ L) (hl : L.length + 1 ≤ ln (t + 1)) : Wr (Tx t) (PT t) μ L (sh_X8_putArabic_26 n t (jv v) (f + 2) (jv 1) μ) [48 + v % 10] := by
  rw [sh_X8_putArabic_26, if_neg (by rw [jv_lit (nat_lit 0), jv_le] <;> omega), qu_in (by omega) (by omega) (by omega) (by omega), Option.bind_some]
  simp only [jv_lit]
  rw [rm_jv (by omega) (by omega) (by omega) (by omega), Option.bind_some, jv_add, Int.ediv_one]
  refine (Wr.bind (T := []) (put8 h (by omega) (by omega) (by omega)) (fun μ1 hx hf1 => ?_)).as (List.append_nil _)
  rw [dv_jv (by omega) (by omega) (by omega) (by omega), Option.bind_some, sh_X8_putArabic_26, if_pos (by rw [jv_lit (nat_lit 0), jv_le] <;> omega)]
  exact Wr.nil hx
theorem ar8_s {n t f : Nat} {v p : Int} {S : List Int} {μ : Mm} {L : List Int} (hp : p = 10 ∨ p = 100 ∨ p = 1000) (h0 : 0 ≤ v) (h9 : v < 10000) (h : Tx t μ L) (hl : L.length + 1 ≤ ln (t + 1)) (k : ∀ μ1, Tx t μ1 (L ++ [48 + v / p % 10]) → Wr (Tx t) (PT t) μ1 (L ++ [48 + v / p % 10]) (sh_X8_putArabic_26 n t (jv v) f (jv (p / 10)) μ1) S) : Wr (Tx t) (PT t) μ L (sh_X8_putArabic_26 n t (jv v) (f + 1) (jv p) μ) ((48 + v / p % 10) :: S) := by
  have hd : 0 ≤ v / p := Int.ediv_nonneg h0 (by omega)
  have hd2 : v / p ≤ v := Int.ediv_le_self p h0
  rw [sh_X8_putArabic_26, if_neg (by rw [jv_lit (nat_lit 0), jv_le] <;> omega), qu_in (by omega) (by omega) (by omega) (by omega), Option.bind_some]
  simp only [jv_lit]
  rw [rm_jv (by omega) (by omega) (by omega) (by omega), Option.bind_some, jv_add]
  refine Wr.bind (S := [48 + v / p % 10]) (put8 h (by omega) (by omega) (by omega)) (fun μ1 hx hf1 => ?_)
  rw [dv_jv (by omega) (by omega) (by omega) (by omega), Option.bind_some]
  exact k μ1 hx
theorem ar8 {n t : Nat} {v : Int} {μ : Mm} {L : List Int} (hn : 12 ≤ n) (h0 : 0 ≤ v) (h9 : v < 10000) (h : Tx t μ L) (hl : L.length + 4 ≤ ln (t + 1)) : Wr (Tx t) (PT t) μ L (sh_X8_putArabic n t (jv v) μ) (ar v) := by
  obtain ⟨m, rfl⟩ : ∃ m, n = m + 12 := ⟨n - 12, by omega⟩
  unfold sh_X8_putArabic
  have len1 : ∀ (S : List Int) (c : Int), (S ++ [c]).length = S.length + 1 := fun S c => by simp
  have up : ∀ (p : Int) (f : Nat), (p = 1 ∨ p = 10 ∨ p = 100) → p * 10 ≤ v → sh_X8_putArabic_2 (m + 12) t (jv v) (f + 1) (jv p) μ = sh_X8_putArabic_2 (m + 12) t (jv v) f (jv (p * 10)) μ := by
    intro p f hp hv
    have hd2 : v / p ≤ v := Int.ediv_le_self p h0
    have hd : 10 ≤ v / p := by rcases hp with rfl | rfl | rfl <;> omega
    rw [sh_X8_putArabic_2, if_neg (by rw [jv_lit (nat_lit 1000000000), jv_le] <;> omega), qu_in (by omega) (by omega) (by omega) (by omega), Option.bind_some, if_neg (by rw [jv_lit (nat_lit 10), jv_lt] <;> omega), nm_eq, jv_lit (nat_lit 10), jv_mul]
  have dn : ∀ (p : Int) (f : Nat), (p = 1 ∨ p = 10 ∨ p = 100 ∨ p = 1000) → v < p * 10 → sh_X8_putArabic_2 (m + 12) t (jv v) (f + 1) (jv p) μ = sh_X8_putArabic_26 (m + 12) t (jv v) (m + 12) (jv p) μ := by
    intro p f hp hv
    have hd2 : v / p ≤ v := Int.ediv_le_self p h0
    have hd3 : 0 ≤ v / p := Int.ediv_nonneg h0 (by omega)
    have hd : v / p < 10 := by rcases hp with rfl | rfl | rfl | rfl <;> omega
    rw [sh_X8_putArabic_2, if_neg (by rw [jv_lit (nat_lit 1000000000), jv_le] <;> omega), qu_in (by omega) (by omega) (by omega) (by omega), Option.bind_some, if_pos (by rw [jv_lit (nat_lit 10), jv_lt] <;> omega)]
  rw [jv_lit (nat_lit 1)]
  unfold ar arN
  split
  · rw [dn 1 _ (by omega) (by omega)]
    exact ar8_1 h0 h9 h (by omega)
  · rw [up 1 _ (by omega) (by omega)]
    split
    · rw [dn _ _ (by omega) (by omega)]
      refine ar8_s (p := 10) (by omega) h0 h9 h (by omega) (fun μ1 hx => ?_)
      exact ar8_1 h0 h9 hx (by rw [len1]; omega)
    · rw [up _ _ (by omega) (by omega)]
      split
      · rw [dn _ _ (by omega) (by omega)]
        refine ar8_s (p := 100) (by omega) h0 h9 h (by omega) (fun μ1 hx => ?_)
        refine ar8_s (p := 10) (by omega) h0 h9 hx (by rw [len1]; omega) (fun μ1 hx => ?_)
        exact ar8_1 h0 h9 hx (by rw [len1, len1]; omega)
      · rw [up _ _ (by omega) (by omega), dn _ _ (by omega) (by omega)]
        refine ar8_s (p := 1000) (by omega) h0 h9 h (by omega) (fun μ1 hx => ?_)
        refine ar8_s (p := 100) (by omega) h0 h9 hx (by rw [len1]; omega) (fun μ1 hx => ?_)
        refine ar8_s (p := 10) (by omega) h0 h9 hx (by rw [len1, len1]; omega) (fun μ1 hx => ?_)
        exact ar8_1 h0 h9 hx (by rw [len1, len1, len1]; omega)
