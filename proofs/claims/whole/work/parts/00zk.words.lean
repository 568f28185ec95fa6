/-! THE DIFFERENT WORDS, in order: codes 8 s + w in a list -/
section WRD
variable {n : Nat} {R : Nat → Int} {N fr : Nat}
def kc (R : Nat → Int) (c : Nat) : Nat := pkn (lt R (c / 8) (c % 8))
def psn (R : Nat → Int) (x : Nat) : List Nat → Nat
  | [] => 0
  | y :: ys => if kc R y < x then psn R x ys + 1 else 0
def insW (R : Nat → Int) (L : List Nat) (c : Nat) : List Nat := if psn R (kc R c) L < L.length ∧ kc R (L.getD (psn R (kc R c) L) 0) = kc R c then L else L.take (psn R (kc R c) L) ++ c :: L.drop (psn R (kc R c) L)
def Lk (R : Nat → Int) (W : List Nat) : List Nat := W.foldl (insW R) []
def bit (c : Nat) : Int32 := (1 : Int32) <<< (jv ((c / 8 : Nat) : Int) &&& 31)
def sb (R : Nat → Int) (W : List Nat) (y : Nat) : Int32 := W.foldl (fun a c => if kc R c = y then a ||| bit c else a) 0
def wsl (s : Nat) : Nat → List Nat
  | 0 => []
  | k + 1 => wsl s k ++ [8 * s + k]
def wal (R : Nat → Int) : Nat → List Nat
  | 0 => []
  | s + 1 => wal R s ++ wsl s (wct R s).toNat
theorem gD {L : List Nat} {i : Nat} (h : i < L.length) : L.getD i 0 = L[i] := by
  rw [List.getD_eq_getElem?_getD, List.getElem?_eq_getElem h]
  rfl
theorem psn_sp (R : Nat → Int) (x : Nat) : ∀ L : List Nat, psn R x L ≤ L.length ∧ (∀ i, i < psn R x L → kc R (L.getD i 0) < x) ∧ (psn R x L < L.length → x ≤ kc R (L.getD (psn R x L) 0)) := by
  intro L
  induction L with
  | nil => exact ⟨Nat.le_refl _, fun i h => absurd h (by show ¬ i < 0; omega), fun h => absurd h (by show ¬ 0 < 0; omega)⟩
  | cons y ys ih =>
    obtain ⟨h1, h2, h3⟩ := ih
    rw [psn]
    by_cases z : kc R y < x
    · rw [if_pos z, List.length_cons]
      refine ⟨by omega, fun i hi => ?_, fun h => ?_⟩
      · cases i with
        | zero => exact z
        | succ i => exact h2 i (by omega)
      · exact h3 (by omega)
    · rw [if_neg z]
      exact ⟨Nat.zero_le _, fun i h => absurd h (by omega), fun _ => by show x ≤ kc R y; omega⟩
theorem ins_g {L : List Nat} {p c : Nat} (hp : p ≤ L.length) (i : Nat) : (L.take p ++ c :: L.drop p).getD i 0 = if i < p then L.getD i 0 else if i = p then c else L.getD (i - 1) 0 := by
  have hl : (L.take p).length = p := by rw [List.length_take]; omega
  by_cases z : i < p
  · rw [if_pos z, List.getD_eq_getElem?_getD, List.getElem?_append_left (by omega), List.getElem?_take_of_lt z, ← List.getD_eq_getElem?_getD]
  · rw [if_neg z, List.getD_eq_getElem?_getD, List.getElem?_append_right (by omega), hl]
    by_cases y : i = p
    · rw [if_pos y, y, Nat.sub_self]
      rfl
    · rw [if_neg y, show i - p = (i - p - 1) + 1 by omega, List.getElem?_cons_succ, List.getElem?_drop, ← List.getD_eq_getElem?_getD, show p + (i - p - 1) = i - 1 by omega]
theorem ins_l {L : List Nat} {p c : Nat} (hp : p ≤ L.length) : (L.take p ++ c :: L.drop p).length = L.length + 1 := by
  rw [List.length_append, List.length_take, List.length_cons, List.length_drop]
  omega
/-- sorted, with no two alike -/
def SR (R : Nat → Int) (L : List Nat) : Prop := ∀ i j, i < j → j < L.length → kc R (L.getD i 0) < kc R (L.getD j 0)
/-- found in place p -/
abbrev fd (R : Nat → Int) (L : List Nat) (c : Nat) : Prop := psn R (kc R c) L < L.length ∧ kc R (L.getD (psn R (kc R c) L) 0) = kc R c
theorem SR.ins {L : List Nat} (h : SR R L) (c : Nat) : SR R (insW R L c) := by
  obtain ⟨h1, h2, h3⟩ := psn_sp R (kc R c) L
  unfold insW
  by_cases z : fd R L c
  · rw [if_pos z]
    exact h
  · rw [if_neg z]
    intro i j hij hj
    rw [ins_l h1] at hj
    rw [ins_g h1, ins_g h1]
    have hgt : ∀ j, psn R (kc R c) L ≤ j → j < L.length → kc R c < kc R (L.getD j 0) := by
      intro j a b
      have hp := h3 (by omega)
      have hne : kc R (L.getD (psn R (kc R c) L) 0) ≠ kc R c := fun q => z ⟨by omega, q⟩
      by_cases y : j = psn R (kc R c) L
      · rw [y]; omega
      · have := h _ j (show psn R (kc R c) L < j by omega) b
        omega
    by_cases a : i < psn R (kc R c) L
    · rw [if_pos a]
      by_cases b : j < psn R (kc R c) L
      · rw [if_pos b]
        exact h i j hij (by omega)
      · rw [if_neg b]
        by_cases d : j = psn R (kc R c) L
        · rw [if_pos d]
          exact h2 i a
        · rw [if_neg d]
          exact Nat.lt_trans (h2 i a) (hgt (j - 1) (by omega) (by omega))
    · rw [if_neg a, if_neg (show ¬ j < psn R (kc R c) L by omega), if_neg (show ¬ j = psn R (kc R c) L by omega)]
      by_cases d : i = psn R (kc R c) L
      · rw [if_pos d]
        exact hgt (j - 1) (by omega) (by omega)
      · rw [if_neg d]
        exact h (i - 1) (j - 1) (by omega) (by omega)
theorem insW_len (R : Nat → Int) (L : List Nat) (c : Nat) : (insW R L c).length ≤ L.length + 1 ∧ L.length ≤ (insW R L c).length := by
  unfold insW
  split
  · omega
  · rw [ins_l (psn_sp R (kc R c) L).1]
    omega
/-- what stands in the list came into it -/
theorem insW_mem (R : Nat → Int) (L : List Nat) (c : Nat) : ∀ x ∈ insW R L c, x = c ∨ x ∈ L := by
  intro x hx
  unfold insW at hx
  split at hx
  · exact Or.inr hx
  · rcases List.mem_append.mp hx with h | h
    · exact Or.inr (List.mem_of_mem_take h)
    · rcases List.mem_cons.mp h with h | h
      · exact Or.inl h
      · exact Or.inr (List.mem_of_mem_drop h)
theorem insW_has (R : Nat → Int) (L : List Nat) (c : Nat) : (∃ i, i < (insW R L c).length ∧ kc R ((insW R L c).getD i 0) = kc R c) ∧ ∀ y, (∃ i, i < L.length ∧ kc R (L.getD i 0) = y) → ∃ i, i < (insW R L c).length ∧ kc R ((insW R L c).getD i 0) = y := by
  obtain ⟨h1, h2, h3⟩ := psn_sp R (kc R c) L
  unfold insW
  by_cases z : fd R L c
  · rw [if_pos z]
    exact ⟨⟨_, z.1, z.2⟩, fun y h => h⟩
  · rw [if_neg z, ins_l h1]
    refine ⟨⟨psn R (kc R c) L, by omega, by rw [ins_g h1, if_neg (by omega), if_pos rfl]⟩, fun y ⟨i, hi, e⟩ => ?_⟩
    by_cases a : i < psn R (kc R c) L
    · exact ⟨i, by omega, by rw [ins_g h1, if_pos a]; exact e⟩
    · exact ⟨i + 1, by omega, by rw [ins_g h1, if_neg (by omega), if_neg (by omega), Nat.add_sub_cancel]; exact e⟩
/-- all that is known of the list made of W -/
theorem Lk_sp (R : Nat → Int) : ∀ W : List Nat, SR R (Lk R W) ∧ (Lk R W).length ≤ W.length ∧ (∀ x ∈ Lk R W, x ∈ W) ∧ ∀ c ∈ W, ∃ i, i < (Lk R W).length ∧ kc R ((Lk R W).getD i 0) = kc R c := by
  have : ∀ (V : List Nat) (L : List Nat) (U : List Nat), (SR R L ∧ L.length ≤ U.length ∧ (∀ x ∈ L, x ∈ U) ∧ ∀ c ∈ U, ∃ i, i < L.length ∧ kc R (L.getD i 0) = kc R c) → (SR R (V.foldl (insW R) L) ∧ (V.foldl (insW R) L).length ≤ (U ++ V).length ∧ (∀ x ∈ V.foldl (insW R) L, x ∈ U ++ V) ∧ ∀ c ∈ U ++ V, ∃ i, i < (V.foldl (insW R) L).length ∧ kc R ((V.foldl (insW R) L).getD i 0) = kc R c) := by
    intro V
    induction V with
    | nil => intro L U h; rw [List.append_nil]; exact h
    | cons v V ih =>
      intro L U ⟨h1, h2, h3, h4⟩
      have e : U ++ v :: V = (U ++ [v]) ++ V := by rw [List.append_assoc]; rfl
      rw [e]
      refine ih (insW R L v) (U ++ [v]) ⟨h1.ins v, ?_, fun x hx => ?_, fun c hc => ?_⟩
      · rw [List.length_append]
        have := insW_len R L v
        show _ ≤ U.length + 1
        omega
      · rcases insW_mem R L v x hx with h | h
        · rw [h]
          exact List.mem_append_right _ List.mem_cons_self
        · exact List.mem_append_left _ (h3 x h)
      · rcases List.mem_append.mp hc with h | h
        · exact (insW_has R L v).2 _ (h4 c h)
        · rw [List.mem_singleton.mp h]
          exact (insW_has R L v).1
  intro W
  have := this W [] [] ⟨fun i j _ h => absurd h (by show ¬ j < 0; omega), Nat.le_refl _, fun x h => absurd h List.not_mem_nil, fun c h => absurd h List.not_mem_nil⟩
  rw [List.nil_append] at this
  exact this
theorem Lk_add (R : Nat → Int) (W : List Nat) (c : Nat) : Lk R (W ++ [c]) = insW R (Lk R W) c := by
  unfold Lk
  rw [List.foldl_append]
  rfl
theorem sb_add (R : Nat → Int) (W : List Nat) (c y : Nat) : sb R (W ++ [c]) y = if kc R c = y then sb R W y ||| bit c else sb R W y := by
  unfold sb
  rw [List.foldl_append]
  rfl
theorem sb_no (R : Nat → Int) (y : Nat) : ∀ W : List Nat, (∀ c ∈ W, kc R c ≠ y) → sb R W y = 0 := by
  have : ∀ (W : List Nat) (a : Int32), (∀ c ∈ W, kc R c ≠ y) → W.foldl (fun a c => if kc R c = y then a ||| bit c else a) a = a := by
    intro W
    induction W with
    | nil => intro a _; rfl
    | cons v W ih =>
      intro a h
      rw [List.foldl_cons, if_neg (h v List.mem_cons_self)]
      exact ih a (fun c hc => h c (List.mem_cons_of_mem _ hc))
  intro W h
  exact this W 0 h
/-- the codes in W are of words there are -/
theorem wsl_mem {s : Nat} : ∀ k, ∀ c ∈ wsl s k, ∃ w, w < k ∧ c = 8 * s + w := by
  intro k
  induction k with
  | zero => intro c h; exact absurd h List.not_mem_nil
  | succ k ih =>
    intro c h
    rcases List.mem_append.mp h with h | h
    · obtain ⟨w, h1, h2⟩ := ih c h
      exact ⟨w, by omega, h2⟩
    · exact ⟨k, by omega, List.mem_singleton.mp h⟩
theorem wsl_len (s : Nat) : ∀ k, (wsl s k).length = k := by
  intro k
  induction k with
  | zero => rfl
  | succ k ih => rw [wsl, List.length_append, ih]; rfl
abbrev isW (R : Nat → Int) (N c : Nat) : Prop := c / 8 < N ∧ ((c % 8 : Nat) : Int) < wct R (c / 8)
theorem wal_mem (hw : WB 500 R N fr) : ∀ s, s ≤ N → ∀ c ∈ wal R s, isW R N c := by
  intro s
  induction s with
  | zero => intro _ c h; exact absurd h List.not_mem_nil
  | succ s ih =>
    intro hs c h
    have hwc := (hw.sec (s := s) (by omega)).2.2.2.1
    rcases List.mem_append.mp h with h | h
    · exact ih (by omega) c h
    · obtain ⟨w, h1, h2⟩ := wsl_mem _ c h
      have e1 : c / 8 = s := by omega
      have e2 : c % 8 = w := by omega
      exact ⟨by omega, by rw [e1, e2]; omega⟩
theorem wal_len (hw : WB 500 R N fr) : ∀ s, s ≤ N → (wal R s).length ≤ 8 * s := by
  intro s
  induction s with
  | zero => intro _; exact Nat.le_refl _
  | succ s ih =>
    intro hs
    have hwc := (hw.sec (s := s) (by omega)).2.2.2.1
    have := ih (by omega)
    rw [wal, List.length_append, wsl_len]
    omega
theorem isW.ok (hw : WB 500 R N fr) {c : Nat} (h : isW R N c) : okL (lt R (c / 8) (c % 8)) := ((hw.sec h.1).2.2.2.2.1 _ h.2).1
theorem kc_b (hw : WB 500 R N fr) {c : Nat} (h : isW R N c) : kc R c < 2 ^ 62 := by
  have := pkn_b (h.ok hw)
  unfold kc
  omega
end WRD
