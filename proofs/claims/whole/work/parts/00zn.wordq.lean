/-! CALLS that ask for words -/
abbrev PV : Nat → Nat → Prop := fun k j => PQ k j ∨ 5 ≤ k ∧ k ≤ 9 ∨ 80 ≤ k ∧ k ≤ 143
abbrev QV : Nat → Prop := fun k => 5 ≤ k ∧ k ≤ 9 ∨ 80 ≤ k ∧ k ≤ 143
def Qv (m : List Nat) (μ : Mm) (c : Option ((Nat × Mm) ⊕ (Int32 × Mm))) (d : Mm → Option (Int32 × Mm)) : Prop := ∃ x μ1 v μ2, c = some (Sum.elim (fun e => .inl (e, μ1)) (fun r => .inr (r, μ1)) x) ∧ d μ1 = some (v, μ2) ∧ Fw PV QV μ μ2 ∧ Ag m x v (μ2.1 306 0)
def Qw (μ : Mm) (c : Option (Int32 × Mm)) (d : Mm → Option (Int32 × Mm)) : Prop := ∃ v μ1 μ2, c = some (v, μ1) ∧ d μ1 = some (v, μ2) ∧ Fw PV QV μ μ2
theorem lst_no (P : Nat → Prop) [DecidablePred P] : ∀ (k i : Nat) (d : Int), (∀ j, i ≤ j → j < i + k → ¬ P j) → lst P d k i = d := by
  intro k
  induction k with
  | zero => intro i d _; rfl
  | succ k ih =>
    intro i d h
    rw [lst, if_neg (h i (Nat.le_refl _) (by omega))]
    exact ih (i + 1) d (fun j a b => h j (by omega) (by omega))
theorem lst_fnd (P : Nat → Prop) [DecidablePred P] (h : ∀ i j, P i → P j → i = j) : ∀ (k i : Nat), lst P (-1) k i = fnd P k i := by
  intro k
  induction k with
  | zero => intro i; rfl
  | succ k ih =>
    intro i
    rw [lst, fnd]
    by_cases z : P i
    · rw [if_pos z, if_pos z]
      exact lst_no P k (i + 1) i (fun j a b q => by have := h i j z q; omega)
    · rw [if_neg z, if_neg z]
      exact ih (i + 1)
theorem lst_cg (P Q : Nat → Prop) [DecidablePred P] [DecidablePred Q] : ∀ (k i : Nat) (d : Int), (∀ j, i ≤ j → j < i + k → (P j ↔ Q j)) → lst P d k i = lst Q d k i := by
  intro k
  induction k with
  | zero => intro i d _; rfl
  | succ k ih =>
    intro i d h
    have h1 := h i (Nat.le_refl _) (by omega)
    rw [lst, lst]
    by_cases z : P i
    · rw [if_pos z, if_pos (h1.mp z)]
      exact ih (i + 1) _ (fun j a b => h j (by omega) (by omega))
    · rw [if_neg z, if_neg (fun q => z (h1.mpr q))]
      exact ih (i + 1) _ (fun j a b => h j (by omega) (by omega))
section WQ
variable {n : Nat} {R : Nat → Int} {N fr : Nat}
theorem PGM_V : ∀ k j, PGM k j → PV k j := fun k j h => by omega
theorem PGC_V : ∀ k j, PGC k j → PV k j := fun k j h => by omega
theorem QGC_V : ∀ k, QGC k → QV k := fun k h => by omega
theorem q_wordCount (hn : 200 ≤ n) {μ : Mm} (hq : QS μ R N fr) : Qw μ (sh_X11_wordCount n μ) (sh_X12_wordCount n) := by
  obtain ⟨μ1, e1, g1, f1⟩ := gat (n := n) hn hq.1 hq.2.1
  have f0 : Fm PQ μ1 (sI μ1 306 0 (jv 0)) := Fm.rf.sI (by omega)
  obtain ⟨μ2, e2, g2, f2⟩ := lwA (n := n) hn hq.1 (hq.2.2.2.fw f1 (fun i _ => by omega)).r00
  unfold sh_X11_wordCount
  rw [e1, Option.bind_some, g1.1]
  refine ⟨_, _, μ2, rfl, ?_, ((f1.mono PGC_V QGC_V).tr (Fw.of (Q := QV) f0) (fun k j y => Or.inl y) (fun _ y => y)).tr (Fw.of (Q := QV) f2) PGM_V (fun _ y => y)⟩
  unfold sh_X12_wordCount
  simp only [jv_lit]
  rw [pt_eq, Option.bind_some, e2, Option.bind_some, g2.1]
theorem q_wordSections (hn : 200 ≤ n) {μ : Mm} (hq : QS μ R N fr) (a : Int32) : Qv [2] μ (sh_X11_wordSections n a μ) (sh_X12_wordSections n a) := by
  obtain ⟨z, h1, h2, rfl⟩ := jv_ex a
  obtain ⟨μ1, e1, g1, f1⟩ := gat (n := n) hn hq.1 hq.2.1
  have hm1 := hq.2.2.2.fw f1 (fun i _ => by omega)
  obtain ⟨μ2, e2, g2, f2⟩ := lwA (n := n) hn hq.1 hm1
  have hm2 := hm1.gm f2
  have hlen := (Lk_sp R (wal R N)).2.1
  have hlw := wal_len hq.1 N (Nat.le_refl _)
  have hN := hq.1.1
  have l1 : ln (83 + 1) = 192 := rfl
  have F : Fw PV QV μ μ2 := (f1.mono PGC_V QGC_V).tr (Fw.of (Q := QV) f2) PGM_V (fun _ y => y)
  have ft : ∀ v : Int32, Fw PV QV μ (sI μ2 306 0 v) := fun v => F.tr (Fw.of (P := PQ) (Q := QV) (Fm.rf.sI (by omega))) (fun k j y => Or.inl y) (fun _ y => y)
  unfold sh_X11_wordSections sh_X11_wordSections_29
  rw [e1, Option.bind_some, g1.1]
  simp only [jv_lit]
  have eM : sh_X12_wordSections n (jv z) μ1 = if 0 ≤ z ∧ z < (Lk R (wal R N)).length then sh_X12_wordSections_30 n (jv z) n (0 : Int32) (jv 0) (sI μ2 306 0 (jv 0)) else some (jv 0, sI μ2 306 0 (jv 1)) := by
    unfold sh_X12_wordSections
    rw [e2, Option.bind_some, g2.1, jv_lit (nat_lit 1), jv_sub, li0, in_b ⟨h1, h2⟩ (by unfold i32; omega) (by unfold i32; omega), Option.bind_some, pas, Option.bind_some]
    by_cases y : 0 ≤ z ∧ z < (Lk R (wal R N)).length
    · have y2 : 0 ≤ z ∧ z ≤ ((Lk R (wal R N)).length : Int) - 1 := by omega
      rw [if_pos y]
      simp only [if_pos y2]
      rw [if_neg one_ne]
      rfl
    · have y2 : ¬ (0 ≤ z ∧ z ≤ ((Lk R (wal R N)).length : Int) - 1) := by omega
      rw [if_neg y]
      simp only [if_neg y2]
      rw [if_pos zro]
      rfl
  by_cases y : 0 ≤ z ∧ z < (Lk R (wal R N)).length
  · obtain ⟨p, rfl⟩ : ∃ p : Nat, z = p := ⟨z.toNat, by omega⟩
    have hp : p < (Lk R (wal R N)).length := by omega
    rw [if_neg (by rw [jv_lt] <;> omega), if_pos (by rw [jv_lt] <;> omega), a5_in (by omega) (by omega), Option.bind_some, Int.toNat_natCast, (g1.2 p hp).2]
    have ew := ws30 (n := n) hn hq.1 hm2.r00 (R := R) (μ := sI μ2 306 0 (jv 0)) (p := p) ⟨by rw [sI_1, if_neg (by omega)]; exact g2.1, fun i hi => by rw [sI_1, if_neg (by omega)]; exact g2.2 i hi⟩ hp N n 0 (by omega) (by omega)
    have ew' : sh_X12_wordSections_30 n (jv p) n (0 : Int32) (jv 0) (sI μ2 306 0 (jv 0)) = _ := ew
    refine ⟨.inr _, μ1, _, _, rfl, by rw [eM, if_pos y, ew'], ft _, by rw [sI_1, if_pos ⟨rfl, rfl⟩], rfl⟩
  · have fin : Qv [2] μ (some (.inl (2, μ1))) (sh_X12_wordSections n (jv z)) := ⟨.inl 2, μ1, jv 0, sI μ2 306 0 (jv 1), rfl, by rw [eM, if_neg y], ft _, 0, rfl, by rw [sI_1, if_pos ⟨rfl, rfl⟩]; rfl⟩
    by_cases v : z < 0
    · rw [if_pos (by rw [jv_lt] <;> omega)]
      exact fin
    · rw [if_neg (by rw [jv_lt] <;> omega), if_neg (by rw [jv_lt] <;> omega)]
      exact fin
/-! the input as a word -/
def Ix (μ : Mm) (I : List Int) : Prop := I.length ≤ 1100 ∧ (∀ i, i < I.length → -128 ≤ I.getD i 0 ∧ I.getD i 0 ≤ 127) ∧ μ.1 306 5 = jv I.length ∧ ∀ i, i < I.length → μ.1 309 i = jv (I.getD i 0)
abbrev isI (I : List Int) (l : Nat → Int) (k : Nat) : Prop := ∀ p, p < 12 → k ≤ p → if p < I.length then I.getD p 0 ≠ 0 ∧ l p = I.getD p 0 else l p = 0
theorem ii18 {μ : Mm} {I : List Int} (hm : MB 307 μ R) (hi : Ix μ I) {s w : Nat} (hs : s < 24) (hww : w < 8) (hl : okL (lt R s w)) : ∀ (j f k : Nat), k + j = 12 → j < f → sh_X12_isInput_18 n (jv s) (jv w) μ f (jv 0) (jv k) = some (jv 0) ∧ ((isI I (lt R s w) k ∧ sh_X12_isInput_18 n (jv s) (jv w) μ f (jv 1) (jv k) = some (jv 1)) ∨ (¬ isI I (lt R s w) k ∧ sh_X12_isInput_18 n (jv s) (jv w) μ f (jv 1) (jv k) = some (jv 0))) := by
  have l1 : ln 309 = 1100 := rfl
  have hI := hi.1
  intro j
  induction j with
  | zero =>
    intro f k hk hf
    obtain ⟨f, rfl⟩ : ∃ g, f = g + 1 := ⟨f - 1, by omega⟩
    rw [sh_X12_isInput_18, sh_X12_isInput_18, if_pos (by rw [jv_lit (nat_lit 12), jv_le] <;> omega), if_pos (by rw [jv_lit (nat_lit 12), jv_le] <;> omega), isB_0, isB_1]
    exact ⟨rfl, Or.inl ⟨fun p a b => absurd a (by omega), rfl⟩⟩
  | succ j ih =>
    intro f k hk hf
    obtain ⟨f, rfl⟩ : ∃ g, f = g + 1 := ⟨f - 1, by omega⟩
    obtain ⟨i1, i2⟩ := ih f (k + 1) (by omega) (by omega)
    have hlk := hl k (by omega)
    constructor
    · rw [sh_X12_isInput_18, if_neg (by rw [jv_lit (nat_lit 12), jv_le] <;> omega), if_pos zro, isB_0]
      rfl
    · rw [sh_X12_isInput_18, if_neg (by rw [jv_lit (nat_lit 12), jv_le] <;> omega), if_neg one_ne, hi.2.2.1]
      simp only [jv_lit]
      rw [jv_add, show (k : Int) + 1 = ((k + 1 : Nat) : Int) by omega, i1]
      have step : (if k < I.length then I.getD k 0 ≠ 0 ∧ lt R s w k = I.getD k 0 else lt R s w k = 0) → ((isI I (lt R s w) k ∧ sh_X12_isInput_18 n (jv s) (jv w) μ f (jv 1) (jv ((k + 1 : Nat) : Int)) = some (jv 1)) ∨ (¬ isI I (lt R s w) k ∧ sh_X12_isInput_18 n (jv s) (jv w) μ f (jv 1) (jv ((k + 1 : Nat) : Int)) = some (jv 0))) := by
        intro h
        have heq : isI I (lt R s w) k ↔ isI I (lt R s w) (k + 1) := by
          constructor
          · intro q p a b
            exact q p a (by omega)
          · intro q p a b
            by_cases y : p = k
            · rw [y]; exact h
            · exact q p a (by omega)
        rcases i2 with ⟨a, b⟩ | ⟨a, b⟩
        · exact Or.inl ⟨heq.mpr a, b⟩
        · exact Or.inr ⟨fun q => a (heq.mp q), b⟩
      have no : ¬ (if k < I.length then I.getD k 0 ≠ 0 ∧ lt R s w k = I.getD k 0 else lt R s w k = 0) → ((isI I (lt R s w) k ∧ (some (jv 0) : Option Int32) = some (jv 1)) ∨ (¬ isI I (lt R s w) k ∧ (some (jv 0) : Option Int32) = some (jv 0))) := fun h => Or.inr ⟨fun q => h (q k (by omega) (Nat.le_refl _)), rfl⟩
      by_cases z : k < I.length
      · have hb := hi.2.1 k z
        rw [if_pos z] at step no
        rw [if_neg (by rw [jv_le] <;> omega), ld_jv (by omega) (by omega), Option.bind_some, Int.toNat_natCast, hi.2.2.2 k z]
        by_cases y : I.getD k 0 = 0
        · rw [y, if_pos (show jv 0 = jv 0 from rfl)]
          exact no (fun q => q.1 y)
        · rw [if_neg (by rw [jv_eq] <;> omega), hm.lt hs hww (by omega), Option.bind_some, Option.bind_some]
          by_cases v : lt R s w k = I.getD k 0
          · rw [if_pos (by rw [v])]
            exact step ⟨y, v⟩
          · rw [if_neg (by rw [jv_eq] <;> omega)]
            exact no (fun q => v q.2)
      · rw [if_neg z] at step no
        rw [if_pos (by rw [jv_le] <;> omega), hm.lt hs hww (by omega), Option.bind_some]
        by_cases v : lt R s w k = 0
        · rw [if_pos (by rw [v])]
          exact step v
        · rw [if_neg (by rw [jv_eq] <;> omega)]
          exact no v
/-- what the class makes of the input -/
abbrev isWd (I : List Int) : Prop := I.length ≤ 12 ∧ ∀ p, p < I.length → 97 ≤ I.getD (0 + p) 0 ∧ I.getD (0 + p) 0 ≤ 122
theorem isI_wd {I : List Int} {l : Nat → Int} (hl : okL l) : (I.length ≤ 12 ∧ isI I l 0) ↔ (isWd I ∧ pkn l = pkn (ltS I 0 I.length)) := by
  constructor
  · intro ⟨h1, h2⟩
    have hwd : isWd I := by
      refine ⟨h1, fun p hp => ?_⟩
      have := h2 p (by omega) (Nat.zero_le _)
      rw [if_pos hp] at this
      have := hl p (by omega)
      rw [Nat.zero_add]
      omega
    refine ⟨hwd, (pkn_eq hl (ltS_ok hwd.2)).mpr (fun p hp => ?_)⟩
    have := h2 p hp (Nat.zero_le _)
    unfold ltS
    by_cases z : p < I.length
    · rw [if_pos z] at this ⊢
      rw [Nat.zero_add]
      exact this.2
    · rw [if_neg z] at this ⊢
      exact this
  · intro ⟨h1, h2⟩
    refine ⟨h1.1, fun p hp _ => ?_⟩
    have := (pkn_eq hl (ltS_ok h1.2)).mp h2 p hp
    unfold ltS at this
    by_cases z : p < I.length
    · rw [if_pos z] at this ⊢
      have h3 := h1.2 p z
      rw [Nat.zero_add] at this h3
      exact ⟨by omega, this⟩
    · rw [if_neg z] at this ⊢
      exact this
theorem iiM (hn : 200 ≤ n) {μ : Mm} {I : List Int} (hm : MB 307 μ R) (hi : Ix μ I) {s w : Nat} (hs : s < 24) (hww : w < 8) (hl : okL (lt R s w)) : (isWd I ∧ pkn (lt R s w) = pkn (ltS I 0 I.length)) ∧ sh_X12_isInput n (jv s) (jv w) μ = some (jv 1) ∨ ¬ (isWd I ∧ pkn (lt R s w) = pkn (ltS I 0 I.length)) ∧ sh_X12_isInput n (jv s) (jv w) μ = some (jv 0) := by
  have hI := hi.1
  have e : ∀ x : Int, sh_X12_isInput_18 n (jv s) (jv w) μ n (jv x) (jv 0) = sh_X12_isInput_18 n (jv s) (jv w) μ n (jv x) (jv ((0 : Nat) : Int)) := fun x => rfl
  have h := ii18 (n := n) hm hi hs hww hl 12 n 0 (by omega) (by omega)
  rw [← e, ← e] at h
  unfold sh_X12_isInput
  simp only [jv_lit]
  rw [hi.2.2.1, ← isI_wd hl]
  by_cases z : I.length ≤ 12
  · rw [if_neg (by rw [jv_lt] <;> omega)]
    rcases h.2 with ⟨a, b⟩ | ⟨a, b⟩
    · exact Or.inl ⟨⟨z, a⟩, b⟩
    · exact Or.inr ⟨fun q => a q.2, b⟩
  · rw [if_pos (by rw [jv_lt] <;> omega)]
    exact Or.inr ⟨fun q => z q.1, h.1⟩
end WQ
