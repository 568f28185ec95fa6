/-! LABELS: parents, ordinal numbers, the label's text -/
def lev (R : Nat → Int) (s : Nat) : Int := bk R s 0
def lng (R : Nat → Int) (s : Nat) : Int := bk R s 1
def prt (R : Nat → Int) (s : Nat) : Int := bk R s 2
def wct (R : Nat → Int) (s : Nat) : Int := bk R s 3
theorem MB.oL {q : Nat} {μ : Mm} {R : Nat → Int} (h : MB q μ R) {s : Nat} (hs : s < 24) : sh_X12_of (jv s) (jv 0) μ = some (jv (lev R s)) := h.of (w := 0) hs (by omega)
theorem MB.oN {q : Nat} {μ : Mm} {R : Nat → Int} (h : MB q μ R) {s : Nat} (hs : s < 24) : sh_X12_of (jv s) (jv 1) μ = some (jv (lng R s)) := h.of (w := 1) hs (by omega)
theorem MB.oP {q : Nat} {μ : Mm} {R : Nat → Int} (h : MB q μ R) {s : Nat} (hs : s < 24) : sh_X12_of (jv s) (jv 2) μ = some (jv (prt R s)) := h.of (w := 2) hs (by omega)
theorem MB.oW {q : Nat} {μ : Mm} {R : Nat → Int} (h : MB q μ R) {s : Nat} (hs : s < 24) : sh_X12_of (jv s) (jv 3) μ = some (jv (wct R s)) := h.of (w := 3) hs (by omega)
theorem MB.r0 {q : Nat} {μ : Mm} {R : Nat → Int} (h : MB q μ R) : ld μ (μ.2.2 0) (jv 0) = some (jv (R 0)) := h.rd 0 rfl (by omega)
theorem MB.r1 {q : Nat} {μ : Mm} {R : Nat → Int} (h : MB q μ R) : ld μ (μ.2.2 0) (jv 1) = some (jv (R 1)) := h.rd 1 rfl (by omega)
theorem MB.r2 {q : Nat} {μ : Mm} {R : Nat → Int} (h : MB q μ R) : ld μ (μ.2.2 0) (jv 2) = some (jv (R 2)) := h.rd 2 rfl (by omega)
theorem MB.r3 {q : Nat} {μ : Mm} {R : Nat → Int} (h : MB q μ R) : ld μ (μ.2.2 0) (jv 3) = some (jv (R 3)) := h.rd 3 rfl (by omega)
theorem MB.r4 {q : Nat} {μ : Mm} {R : Nat → Int} (h : MB q μ R) : ld μ (μ.2.2 0) (jv 4) = some (jv (R 4)) := h.rd 4 rfl (by omega)
theorem MB.r5 {q : Nat} {μ : Mm} {R : Nat → Int} (h : MB q μ R) : ld μ (μ.2.2 0) (jv 5) = some (jv (R 5)) := h.rd 5 rfl (by omega)
theorem MB.r6 {q : Nat} {μ : Mm} {R : Nat → Int} (h : MB q μ R) : ld μ (μ.2.2 0) (jv 6) = some (jv (R 6)) := h.rd 6 rfl (by omega)
theorem MB.r7 {q : Nat} {μ : Mm} {R : Nat → Int} (h : MB q μ R) : ld μ (μ.2.2 0) (jv 7) = some (jv (R 7)) := h.rd 7 rfl (by omega)
theorem MB.r8 {q : Nat} {μ : Mm} {R : Nat → Int} (h : MB q μ R) : ld μ (μ.2.2 0) (jv 8) = some (jv (R 8)) := h.rd 8 rfl (by omega)
theorem MB.r9 {q : Nat} {μ : Mm} {R : Nat → Int} (h : MB q μ R) : ld μ (μ.2.2 0) (jv 9) = some (jv (R 9)) := h.rd 9 rfl (by omega)
/-- a book as it must be: N sections, the first fr of them in the front part, lengths at most K -/
def WB (K : Int) (R : Nat → Int) (N fr : Nat) : Prop :=
  (R 9 = N ∧ N ≤ 24 ∧ fr ≤ N) ∧ (20 ≤ R 0 ∧ R 0 ≤ 120) ∧ (2 ≤ R 1 ∧ R 1 ≤ 60) ∧ (5 ≤ R 2 ∧ R 2 ≤ 99) ∧ (0 ≤ R 3 ∧ R 3 ≤ 9) ∧ (0 ≤ R 4 ∧ R 4 ≤ 9) ∧ (0 ≤ R 5 ∧ R 5 ≤ 9) ∧ (0 ≤ R 6 ∧ R 6 ≤ 9) ∧ (1 ≤ R 7 ∧ R 7 ≤ 9) ∧ (R 8 = 0 ∨ R 8 = 1) ∧
  ∀ s, s < N → (prt R s = if s < fr then 0 else 1) ∧ (1 ≤ lev R s ∧ lev R s ≤ 4) ∧ (0 ≤ lng R s ∧ lng R s ≤ K) ∧ (1 ≤ wct R s ∧ wct R s ≤ 8) ∧ (∀ w : Nat, (w : Int) < wct R s → okL (lt R s w) ∧ lt R s w 0 ≠ 0) ∧ (lev R s ≤ if s = 0 ∨ s = fr then 1 else lev R (s - 1) + 1)
def prG (R : Nat → Int) (s : Nat) : Nat → Int
  | 0 => -1
  | k + 1 => if prt R k = prt R s then (if lev R k < lev R s then (k : Int) else prG R s k) else -1
def pr (R : Nat → Int) (s : Nat) : Int := prG R s s
def odG (R : Nat → Int) (s : Nat) : Nat → Int
  | 0 => 1
  | k + 1 => odG R s k + (if prt R k = prt R s ∧ pr R k = pr R s then 1 else 0)
def od (R : Nat → Int) (s : Nat) : Int := odG R s s
def labF (R : Nat → Int) : Nat → Nat → List Int
  | 0, _ => []
  | f + 1, s => (if pr R s < 0 then [] else labF R f (pr R s).toNat ++ [46]) ++ ar (od R s)
def lab (R : Nat → Int) (s : Nat) : List Int := labF R (s + 1) s
def anc (R : Nat → Int) (s : Nat) : Nat → Nat
  | 0 => s
  | j + 1 => (pr R (anc R s j)).toNat
theorem prG_b (R : Nat → Int) (s : Nat) : ∀ k, prG R s k = -1 ∨ (0 ≤ prG R s k ∧ prG R s k < k) := by
  intro k
  induction k with
  | zero => exact Or.inl rfl
  | succ k ih =>
    rw [prG]
    split
    · split
      · exact Or.inr ⟨by omega, by omega⟩
      · omega
    · exact Or.inl rfl
theorem pr_b (R : Nat → Int) (s : Nat) : pr R s = -1 ∨ (0 ≤ pr R s ∧ pr R s < s) := prG_b R s s
theorem odG_b (R : Nat → Int) (s : Nat) : ∀ k, 1 ≤ odG R s k ∧ odG R s k ≤ k + 1 := by
  intro k
  induction k with
  | zero => exact ⟨Int.le_refl _, Int.le_refl _⟩
  | succ k ih =>
    rw [odG]
    split <;> omega
theorem od_b (R : Nat → Int) (s : Nat) : 1 ≤ od R s ∧ od R s ≤ s + 1 := odG_b R s s
theorem labF_eq (R : Nat → Int) : ∀ (f s g : Nat), s < f → s < g → labF R f s = labF R g s := by
  intro f
  induction f with
  | zero => intro s g h; omega
  | succ f ih =>
    intro s g h h2
    obtain ⟨g, rfl⟩ : ∃ k, g = k + 1 := ⟨g - 1, by omega⟩
    have hb := pr_b R s
    rw [labF, labF]
    split
    · rfl
    · rw [ih (pr R s).toNat g (by omega) (by omega)]
theorem lab_eq (R : Nat → Int) (s : Nat) : lab R s = (if pr R s < 0 then [] else lab R (pr R s).toNat ++ [46]) ++ ar (od R s) := by
  have hb := pr_b R s
  unfold lab
  rw [labF]
  split
  · rfl
  · rw [labF_eq R s (pr R s).toNat ((pr R s).toNat + 1) (by omega) (by omega)]
theorem WB.sec {K : Int} {R : Nat → Int} {N fr : Nat} (h : WB K R N fr) {s : Nat} (hs : s < N) : (prt R s = if s < fr then 0 else 1) ∧ (1 ≤ lev R s ∧ lev R s ≤ 4) ∧ (0 ≤ lng R s ∧ lng R s ≤ K) ∧ (1 ≤ wct R s ∧ wct R s ≤ 8) ∧ (∀ w : Nat, (w : Int) < wct R s → okL (lt R s w) ∧ lt R s w 0 ≠ 0) ∧ (lev R s ≤ if s = 0 ∨ s = fr then 1 else lev R (s - 1) + 1) := h.2.2.2.2.2.2.2.2.2.2 s hs
theorem prG_lev {K : Int} {R : Nat → Int} {N fr : Nat} (h : WB K R N fr) {s : Nat} (hs : s < N) (hl : 1 < lev R s) : ∀ k, k ≤ s → (∀ j, k ≤ j → j < s → prt R j = prt R s ∧ lev R s ≤ lev R j) → 0 ≤ prG R s k ∧ lev R (prG R s k).toNat = lev R s - 1 := by
  intro k
  induction k with
  | zero =>
    intro _ hj
    exfalso
    by_cases q : s = 0
    · subst q
      have := (h.sec hs).2.2.2.2.2
      rw [if_pos (Or.inl rfl)] at this
      omega
    · have h0 := hj 0 (by omega) (by omega)
      have := (h.sec (s := 0) (by omega)).2.2.2.2.2
      rw [if_pos (Or.inl rfl)] at this
      omega
  | succ k ih =>
    intro hk hj
    have ek := (h.sec (s := k) (by omega)).1
    have es := (h.sec hs).1
    have e1 : prt R (k + 1) = prt R s ∧ lev R s ≤ lev R (k + 1) := by
      by_cases q : k + 1 = s
      · subst q
        exact ⟨rfl, Int.le_refl _⟩
      · exact hj (k + 1) (Nat.le_refl _) (by omega)
    have ek1 := (h.sec (s := k + 1) (by omega)).1
    have hv := (h.sec (s := k + 1) (by omega)).2.2.2.2.2
    rw [prG]
    by_cases q : prt R k = prt R s
    · rw [if_pos q]
      have hne : ¬ (k + 1 = 0 ∨ k + 1 = fr) := by
        rintro (z | z)
        · omega
        · rw [ek, if_pos (by omega)] at q
          rw [ek1, if_neg (by omega)] at e1
          omega
      rw [if_neg hne, Nat.add_sub_cancel] at hv
      by_cases q2 : lev R k < lev R s
      · rw [if_pos q2, Int.toNat_natCast]
        exact ⟨by omega, by omega⟩
      · rw [if_neg q2]
        refine ih (by omega) (fun j h1 h2 => ?_)
        by_cases q3 : j = k
        · subst q3
          exact ⟨q, by omega⟩
        · exact hj j (by omega) h2
    · exfalso
      have hz : k + 1 = 0 ∨ k + 1 = fr := by
        have e2 := e1.1
        rw [ek1] at e2
        rw [ek, ← e2] at q
        by_cases a1 : k < fr
        · by_cases a2 : k + 1 < fr
          · rw [if_pos a1, if_pos a2] at q
            exact absurd rfl q
          · omega
        · rw [if_neg a1, if_neg (by omega)] at q
          exact absurd rfl q
      rw [if_pos hz] at hv
      omega
theorem pr_up {K : Int} {R : Nat → Int} {N fr : Nat} (h : WB K R N fr) {s : Nat} (hs : s < N) (hl : 1 < lev R s) : 0 ≤ pr R s ∧ lev R (pr R s).toNat = lev R s - 1 := prG_lev h hs hl s (Nat.le_refl _) (fun j h1 h2 => absurd h1 (by omega))
theorem prG_1 {K : Int} {R : Nat → Int} {N fr : Nat} (h : WB K R N fr) {s : Nat} (hs : s < N) (hl : lev R s = 1) : ∀ k, k ≤ s → prG R s k = -1 := by
  intro k
  induction k with
  | zero => intro _; rfl
  | succ k ih =>
    intro hk
    have := (h.sec (s := k) (by omega)).2.1
    rw [prG, if_neg (by omega : ¬ lev R k < lev R s), ih (by omega)]
    split <;> rfl
theorem pr_1 {K : Int} {R : Nat → Int} {N fr : Nat} (h : WB K R N fr) {s : Nat} (hs : s < N) (hl : lev R s = 1) : pr R s = -1 := prG_1 h hs hl s (Nat.le_refl _)
theorem anc_b {K : Int} {R : Nat → Int} {N fr : Nat} (h : WB K R N fr) {s : Nat} (hs : s < N) : ∀ j : Nat, (j : Int) < lev R s → anc R s j ≤ s ∧ lev R (anc R s j) = lev R s - j := by
  intro j
  induction j with
  | zero => intro _; exact ⟨Nat.le_refl _, by show lev R s = _; omega⟩
  | succ j ih =>
    intro hj
    have := ih (by omega)
    have hu := pr_up h (s := anc R s j) (by omega) (by omega)
    have hb := pr_b R (anc R s j)
    rw [anc]
    exact ⟨by omega, by rw [hu.2]; omega⟩
theorem lab_len {K : Int} {R : Nat → Int} {N fr : Nat} (h : WB K R N fr) : ∀ (L s : Nat), s < N → lev R s = L → (lab R s).length + 1 ≤ 3 * L := by
  have hN := h.1.2.1
  have h2 : ∀ v : Int, 1 ≤ v → v < 100 → (ar v).length ≤ 2 := by
    intro v a b
    unfold ar arN
    by_cases q : v < 10
    · rw [if_pos q]
      exact Nat.le_of_ble_eq_true rfl
    · rw [if_neg q, if_pos b]
      exact Nat.le_of_ble_eq_true rfl
  intro L
  induction L with
  | zero =>
    intro s hs e
    have := (h.sec hs).2.1
    omega
  | succ L ih =>
    intro s hs e
    have ho := od_b R s
    have := h2 (od R s) (by omega) (by omega)
    rw [lab_eq, List.length_append]
    split
    · show 0 + _ + 1 ≤ _
      omega
    · have hb := pr_b R s
      by_cases q : L = 0
      · have := pr_1 h hs (by omega)
        omega
      · have hu := pr_up h hs (by omega)
        have := ih (pr R s).toNat (by omega) (by omega)
        rw [len1]
        omega
theorem lab_b {K : Int} {R : Nat → Int} {N fr : Nat} (h : WB K R N fr) {s : Nat} (hs : s < N) : (lab R s).length ≤ 11 := by
  have hl := (h.sec hs).2.1
  have := lab_len h (lev R s).toNat s hs (by omega)
  omega
theorem ar_cs {v : Int} (h0 : 0 ≤ v) : ∀ i, i < (ar v).length → 48 ≤ (ar v).getD i 0 ∧ (ar v).getD i 0 ≤ 57 := by
  have key : ∀ c ∈ ar v, 48 ≤ c ∧ c ≤ 57 := by
    intro c hc
    unfold ar arN at hc
    split at hc
    · simp only [dgl, List.mem_cons, List.not_mem_nil, or_false] at hc; omega
    · split at hc
      · simp only [dgl, List.mem_cons, List.not_mem_nil, or_false] at hc; omega
      · split at hc <;> simp only [dgl, List.mem_cons, List.not_mem_nil, or_false] at hc <;> omega
  intro i hi
  rw [List.getD_eq_getElem?_getD, List.getElem?_eq_getElem hi]
  exact key _ (List.getElem_mem hi)
/-! the model's labels -/
def LM (μ : Mm) (R : Nat → Int) (N : Nat) : Prop := ∀ s, s < N → μ.1 311 s = jv (pr R s) ∧ μ.1 312 s = jv (od R s)
theorem parM {n q : Nat} {R : Nat → Int} {μ : Mm} (hm : MB q μ R) {K : Int} {N fr s : Nat} (hw : WB K R N fr) (hs : s < N) : ∀ (k f : Nat), k ≤ s → k < f → sh_X12_parentOf_4 n (jv s) μ f (jv ((k : Int) - 1)) = some (jv (prG R s k)) := by
  have hN := hw.1.2.1
  intro k
  induction k with
  | zero =>
    intro f hk hf
    obtain ⟨f, rfl⟩ : ∃ g, f = g + 1 := ⟨f - 1, by omega⟩
    rw [sh_X12_parentOf_4]
    simp only [jv_lit]
    rw [if_pos (by rw [jv_lt] <;> omega), jv_neg]
    rfl
  | succ k ih =>
    intro f hk hf
    obtain ⟨f, rfl⟩ : ∃ g, f = g + 1 := ⟨f - 1, by omega⟩
    have h1 := hw.sec (s := k) (by omega)
    have h2 := hw.sec hs
    have e1 : -10 ≤ prt R k ∧ prt R k ≤ 10 := by rw [h1.1]; split <;> omega
    have e2 : -10 ≤ prt R s ∧ prt R s ≤ 10 := by rw [h2.1]; split <;> omega
    rw [sh_X12_parentOf_4]
    simp only [jv_lit]
    rw [show ((k + 1 : Nat) : Int) - 1 = (k : Int) by omega, if_neg (by rw [jv_lt] <;> omega)]
    rw [hm.oP (by omega), Option.bind_some, hm.oP (by omega), Option.bind_some, prG]
    by_cases q1 : prt R k = prt R s
    · rw [if_pos (by rw [q1]), if_pos q1, hm.oL (by omega), Option.bind_some, hm.oL (by omega), Option.bind_some]
      by_cases q2 : lev R k < lev R s
      · rw [if_neg (by rw [jv_le] <;> omega), if_pos q2]
      · rw [if_pos (by rw [jv_le] <;> omega), if_neg q2, jv_neg, jv_add, show (k : Int) + -1 = (k : Int) - 1 by omega]
        exact ih f (by omega) (by omega)
    · rw [if_neg (by rw [jv_eq] <;> omega), if_neg q1, jv_neg]
theorem ordM {n q : Nat} {R : Nat → Int} {K : Int} {N fr s : Nat} (hw : WB K R N fr) (hs : s < N) (k2 : Int32 → Mm → Option Mm) : ∀ (j f k : Nat) (μ : Mm), k + j = s → j < f → MB q μ R → μ.1 312 s = jv (odG R s k) → (∀ i, i ≤ s → μ.1 311 i = jv (pr R i)) → ∃ μ1, sh_X12_layLabels_33 n k2 f (jv s) (jv k) μ = k2 (jv ((s : Int) + 1)) μ1 ∧ μ1.1 312 s = jv (od R s) ∧ Fm (fun k j => k = 312 ∧ j = s) μ μ1 := by
  have hN := hw.1.2.1
  have l1 : ln 311 = 24 := rfl
  have l2 : ln 312 = 24 := rfl
  intro j
  induction j with
  | zero =>
    intro f k μ hk hf hm ho hp
    obtain ⟨f, rfl⟩ : ∃ g, f = g + 1 := ⟨f - 1, by omega⟩
    have e : k = s := by omega
    subst e
    refine ⟨μ, ?_, ho, Fm.rf⟩
    rw [sh_X12_layLabels_33, if_pos (by rw [jv_le] <;> omega), jv_lit (nat_lit 1), jv_add]
  | succ j ih =>
    intro f k μ hk hf hm ho hp
    obtain ⟨f, rfl⟩ : ∃ g, f = g + 1 := ⟨f - 1, by omega⟩
    have h1 := hw.sec (s := k) (by omega)
    have h2 := hw.sec hs
    have e1 : -10 ≤ prt R k ∧ prt R k ≤ 10 := by rw [h1.1]; split <;> omega
    have e2 : -10 ≤ prt R s ∧ prt R s ≤ 10 := by rw [h2.1]; split <;> omega
    have b1 := pr_b R k
    have b2 := pr_b R s
    rw [sh_X12_layLabels_33, if_neg (by rw [jv_le] <;> omega), ld_jv (by omega) (by omega), Option.bind_some, Int.toNat_natCast, ho]
    simp only [jv_lit]
    rw [hm.oP (by omega), Option.bind_some, hm.oP (by omega), Option.bind_some]
    have next : ∀ (d : Int), odG R s (k + 1) = odG R s k + d → ∃ μ1, (st μ 312 (jv s) (jv (odG R s k) + jv d)).bind (fun μ9 => sh_X12_layLabels_33 n k2 f (jv s) (jv k + jv 1) μ9) = k2 (jv ((s : Int) + 1)) μ1 ∧ μ1.1 312 s = jv (od R s) ∧ Fm (fun k j => k = 312 ∧ j = s) μ μ1 := by
      intro d hd
      rw [st_jv (by omega) (by omega), Option.bind_some, Int.toNat_natCast, jv_add, jv_add, ← hd, show (k : Int) + 1 = ((k + 1 : Nat) : Int) by omega]
      have hf0 : Fm (fun k j => k = 312 ∧ j = s) μ (sI μ 312 s (jv (odG R s (k + 1)))) := Fm.rf.sI ⟨rfl, rfl⟩
      obtain ⟨μ1, a, b, c⟩ := ih f (k + 1) (sI μ 312 s (jv (odG R s (k + 1)))) (by omega) (by omega) (hm.fr hf0 (fun i _ z => by rcases hm.1 with rfl | rfl <;> omega)) (by rw [sI_1, if_pos ⟨rfl, rfl⟩]) (fun i hi => by rw [sI_1, if_neg (by omega)]; exact hp i hi)
      exact ⟨μ1, a, b, hf0.tr c (fun _ _ z => z)⟩
    by_cases q1 : prt R k = prt R s
    · rw [if_pos (by rw [q1]), ld_jv (by omega) (by omega), Option.bind_some, ld_jv (by omega) (by omega), Option.bind_some, Int.toNat_natCast, Int.toNat_natCast, hp k (by omega), hp s (by omega)]
      by_cases q2 : pr R k = pr R s
      · rw [if_pos (by rw [q2])]
        exact next 1 (by rw [odG, if_pos ⟨q1, q2⟩])
      · rw [if_neg (by rw [jv_eq] <;> omega)]
        exact next 0 (by rw [odG, if_neg (fun z => q2 z.2)])
    · rw [if_neg (by rw [jv_eq] <;> omega)]
      exact next 0 (by rw [odG, if_neg (fun z => q1 z.1)])
theorem layLM_l {n q : Nat} {R : Nat → Int} {K : Int} {N fr : Nat} (hn : 30 ≤ n) (hw : WB K R N fr) : ∀ (j f s : Nat) (μ : Mm), s + j = N → j < f → MB q μ R → LM μ R s → ∃ μ1, sh_X12_layLabels_2 n f (jv s) μ = some μ1 ∧ LM μ1 R N ∧ Fm (fun k _ => k = 311 ∨ k = 312) μ μ1 := by
  have hN := hw.1.2.1
  have l1 : ln 311 = 24 := rfl
  have l2 : ln 312 = 24 := rfl
  intro j
  induction j with
  | zero =>
    intro f s μ hk hf hm hl
    obtain ⟨f, rfl⟩ : ∃ g, f = g + 1 := ⟨f - 1, by omega⟩
    have e : s = N := by omega
    subst e
    refine ⟨μ, ?_, hl, Fm.rf⟩
    rw [sh_X12_layLabels_2, jv_lit (nat_lit 9), hm.r9, Option.bind_some, hw.1.1, if_pos (by rw [jv_le] <;> omega)]
  | succ j ih =>
    intro f s μ hk hf hm hl
    obtain ⟨f, rfl⟩ : ∃ g, f = g + 1 := ⟨f - 1, by omega⟩
    rw [sh_X12_layLabels_2, jv_lit (nat_lit 9), hm.r9, Option.bind_some, hw.1.1, if_neg (by rw [jv_le] <;> omega)]
    unfold sh_X12_parentOf
    rw [nm_eq, jv_lit (nat_lit 1), jv_sub, parM hm hw (by omega) s n (by omega) (by omega), Option.bind_some, st_jv (by omega) (by omega), Option.bind_some, st_jv (by omega) (by omega), Option.bind_some, Int.toNat_natCast, jv_lit (nat_lit 0)]
    have hf1 : Fm (fun k _ => k = 311 ∨ k = 312) μ (sI (sI μ 311 s (jv (prG R s s))) 312 s (jv 1)) := (Fm.rf.sI (Or.inl rfl)).sI (Or.inr rfl)
    have hm1 := hm.fr hf1 (fun i _ z => by rcases hm.1 with rfl | rfl <;> omega)
    obtain ⟨μ2, e2, o2, f2⟩ := ordM (n := n) hw (s := s) (by omega) (fun (x1 : Int32) (μ : Mm) => sh_X12_layLabels_2 n f x1 μ) s n 0 _ (by omega) (by omega) hm1 (by rw [sI_1, if_pos ⟨rfl, rfl⟩]; rfl) (fun i hi => by
      rw [sI_1, if_neg (by omega), sI_1]
      by_cases z : i = s
      · subst z
        rw [if_pos ⟨rfl, rfl⟩]
        rfl
      · rw [if_neg (by omega)]
        exact (hl i (by omega)).1)
    rw [show ((0 : Nat) : Int) = 0 from rfl] at e2
    have hf2 : Fm (fun k _ => k = 311 ∨ k = 312) μ μ2 := hf1.tr f2 (fun k j z => Or.inr z.1)
    obtain ⟨μ3, e3, l3, f3⟩ := ih f (s + 1) μ2 (by omega) (by omega) (hm.fr hf2 (fun i _ z => by rcases hm.1 with rfl | rfl <;> omega)) (fun i hi => by
      rw [f2.at 311 i (by omega)]
      by_cases z : i = s
      · subst z
        refine ⟨?_, o2⟩
        rw [sI_1, if_neg (by omega), sI_1, if_pos ⟨rfl, rfl⟩]
        rfl
      · rw [f2.at 312 i (by omega), sI_1, if_neg (by omega), sI_1, if_neg (by omega), sI_1, if_neg (by omega), sI_1, if_neg (by omega)]
        exact hl i (by omega))
    refine ⟨μ3, ?_, l3, hf2.tr f3 (fun _ _ z => z)⟩
    rw [e2]
    exact e3
theorem layLM {n q : Nat} {R : Nat → Int} {K : Int} {N fr : Nat} (hn : 30 ≤ n) (hw : WB K R N fr) {μ : Mm} (hm : MB q μ R) : ∃ μ1, sh_X12_layLabels n μ = some μ1 ∧ LM μ1 R N ∧ Fm (fun k _ => k = 311 ∨ k = 312) μ μ1 := by
  have hN := hw.1.2.1
  unfold sh_X12_layLabels
  rw [jv_lit (nat_lit 0)]
  exact layLM_l hn hw N n 0 μ (by omega) (by omega) hm (fun s hs => absurd hs (by omega))
