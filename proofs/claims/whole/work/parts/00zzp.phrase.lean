/-! WORDS, NUMBERS, SEMICOLONS of a text, as both read them -/
abbrev isW2 (I : List Int) (p w : Nat) : Prop := tk I p = 1 ∧ te I p - tb I p = lenS.getD w 0 ∧ ∀ i, i < lenS.getD w 0 → jv (gi I (tb I p + i)) = (bytS.getD w []).getD i 0
def numS (I : List Int) (p w : Nat) (lo hi : Int) : (Int × Int) ⊕ (Int × Nat) := if isW2 I p w then (if tk I (te I p) = 2 then (if lo ≤ tvC I (te I p) ∧ tvC I (te I p) ≤ hi then .inr (tvC I (te I p), te I (te I p)) else .inl (2, tb I (te I p))) else .inl (1, tb I (te I p))) else .inl (1, tb I p)
def semS (I : List Int) (p : Nat) : (Int × Int) ⊕ Nat := if tk I p = 3 ∧ gi I (tb I p) = 59 then .inr (te I p) else .inl (1, tb I p)
theorem lenS_b : ∀ w, lenS.getD w 0 ≤ 7 := by
  intro w
  rw [List.getD_eq_getElem?_getD]
  cases h : lenS[w]? with
  | none => exact Nat.zero_le _
  | some v =>
    have hm : v ∈ lenS := List.mem_of_getElem? h
    have : ∀ x ∈ lenS, x ≤ 7 := by decide +kernel
    exact this v hm
theorem chS_at {w i : Nat} (h : i < lenS.getD w 0) : chS w (jv i) = some ((bytS.getD w []).getD i 0) := by
  have := lenS_b w
  unfold chS
  rw [inb_jv (by omega) (by omega) (by omega), if_pos rfl, jv_ix (by omega) (by omega), Int.toNat_natCast]
section PHR
variable {n : Nat} {I : List Int} {p : Nat}
theorem TC.len {μ : Mm} (h : TC μ I p) : I.length ≤ 1100 := h.1.1.1
theorem TM.len {μ : Mm} (h : TM μ I p) : I.length ≤ 1100 := h.1.1.1
/-! the class -/
theorem ia28 {μ : Mm} (h : TC μ I p) {w : Nat} (hw : tb I p + lenS.getD w 0 ≤ I.length) : ∀ (k f i : Nat), i + k = lenS.getD w 0 → k < f → (∀ j, j < i → jv (gi I (tb I p + j)) = (bytS.getD w []).getD j 0) → sh_X4_isAt_28 n w μ f (jv i) = some (jv (if ∀ i, i < lenS.getD w 0 → jv (gi I (tb I p + i)) = (bytS.getD w []).getD i 0 then 1 else 0)) := by
  have hl := h.len
  have h7 := lenS_b w
  intro k
  induction k with
  | zero =>
    intro f i hi hf hq
    obtain ⟨f, rfl⟩ : ∃ g, f = g + 1 := ⟨f - 1, by omega⟩
    rw [sh_X4_isAt_28, jv_nI, if_pos (by rw [jv_le] <;> omega), if_pos (fun j hj => hq j (by omega))]
    rfl
  | succ k ih =>
    intro f i hi hf hq
    obtain ⟨f, rfl⟩ : ∃ g, f = g + 1 := ⟨f - 1, by omega⟩
    rw [sh_X4_isAt_28, jv_nI, if_neg (by rw [jv_le] <;> omega), h.1.2.2.1, h.2.2.1, jv_add, show ((tb I p : Nat) : Int) + (i : Int) = ((tb I p + i : Nat) : Int) by omega, h.1.1.g (by omega), Option.bind_some, chS_at (by omega), Option.bind_some]
    by_cases z : jv (gi I (tb I p + i)) = (bytS.getD w []).getD i 0
    · rw [if_pos z, jv_lit (nat_lit 1), jv_add, show (i : Int) + 1 = ((i + 1 : Nat) : Int) by omega]
      exact ih f (i + 1) (by omega) (by omega) (fun j hj => by
        by_cases y : j = i
        · rw [y]; exact z
        · exact hq j (by omega))
    · rw [if_neg z, if_neg (fun q => z (q i (by omega)))]
      rfl
theorem iaC (hn : 1200 ≤ n) {μ : Mm} (h : TC μ I p) (w : Nat) : sh_X4_isAt n w μ = some (jv (if isW2 I p w then 1 else 0)) := by
  have hl := h.len
  have h7 := lenS_b w
  have hk := tk_b h.1.2.2.2
  obtain ⟨c1, c2, c3, c4, c5, c6⟩ := te_b h.1.2.2.2
  unfold sh_X4_isAt
  rw [h.2.1, h.2.2.1, h.2.2.2.1, jv_sub, jv_nI, jv_lit (nat_lit 1)]
  by_cases z : tk I p = 1
  · rw [if_pos (by rw [z])]
    by_cases y : te I p - tb I p = lenS.getD w 0
    · have e := ia28 (n := n) h (w := w) (by omega) (lenS.getD w 0) n 0 (by omega) (by omega) (fun j hj => absurd hj (by omega))
      have e' : sh_X4_isAt_28 n w μ n (0 : Int32) = _ := e
      rw [if_pos (by congr 1; omega), e']
      congr 2
      by_cases x : ∀ i, i < lenS.getD w 0 → jv (gi I (tb I p + i)) = (bytS.getD w []).getD i 0
      · rw [if_pos x, if_pos ⟨z, y, x⟩]
      · rw [if_neg x, if_neg (fun q => x q.2.2)]
    · rw [if_neg (by rw [jv_eq] <;> omega), if_neg (fun q => y q.2.1)]
      rfl
  · rw [if_neg (by rw [jv_eq] <;> omega), if_neg (fun q => z q.1)]
    rfl
/-- what the class keeps of a failure -/
def FC (μ : Mm) (c z : Int) : Prop := μ.1 5 0 = jv c ∧ μ.1 5 1 = jv z
/-- nothing failed between -/
def NF (μ μ1 : Mm) : Prop := μ1.1 5 0 = μ.1 5 0 ∧ μ1.1 5 1 = μ.1 5 1
abbrev PF5 : Nat → Nat → Prop := fun k j => k = 5 ∧ (j = 0 ∨ j = 1 ∨ 5 ≤ j ∧ j ≤ 8)
theorem faC {μ : Mm} {z : Nat} (h : μ.1 5 6 = jv z) (c : Int) : ∃ μ1, sh_X4_fail (jv c) μ = some (0, μ1) ∧ FC μ1 c z ∧ Fm PF5 μ μ1 := by
  unfold sh_X4_fail
  rw [pt_eq, Option.bind_some, pt_eq, Option.bind_some, sI_1, if_neg (by omega), h]
  exact ⟨_, rfl, ⟨by rw [sI_1, if_neg (by omega), sI_1, if_pos ⟨rfl, rfl⟩], by rw [sI_1, if_pos ⟨rfl, rfl⟩]⟩, (Fm.rf.sI (by omega)).sI (by omega)⟩
theorem isB0 : isB (0 : Int32) = some 0 := by decide
theorem isB1 : isB (1 : Int32) = some 1 := by decide
/-- a call of the parser: it failed, or it stands at another token -/
def Pc {α : Type} (P : Nat → Nat → Prop) (μ : Mm) (o : Option (Int32 × Mm)) (s : (Int × Int) ⊕ α) (X : α → Mm → Prop) : Prop := ∃ v μ1, o = some (v, μ1) ∧ Fm P μ μ1 ∧ (∀ e, s = .inl e → v = 0 ∧ FC μ1 e.1 e.2) ∧ (∀ x, s = .inr x → v = 1 ∧ X x μ1)
theorem nuC (hn : 1200 ≤ n) {μ : Mm} (h : TC μ I p) {w a i : Nat} {lo hi : Int} (hlo : 0 ≤ lo ∧ lo ≤ 99999) (hhi : 0 ≤ hi ∧ hi ≤ 99998) (ha : i < ln (a + 1)) (ha2 : 11 ≤ a) : Pc (fun k j => PF5 k j ∨ k = a + 1 ∧ j = i) μ (sh_X4_number n w (jv lo) (jv hi) a (jv i) μ) (numS I p w lo hi) (fun x μ1 => TC μ1 I x.2 ∧ μ1.1 (a + 1) i = jv x.1 ∧ NF μ μ1) := by
  unfold sh_X4_number
  rw [iaC hn h, Option.bind_some]
  by_cases z : isW2 I p w
  · obtain ⟨μ1, e1, h1, f1⟩ := h.nx hn
    have hk := tk_b h1.1.2.2.2
    rw [if_pos z, if_neg one_ne, e1, Option.bind_some, h1.2.1, jv_lit (nat_lit 2)]
    have hns : numS I p w lo hi = (if tk I (te I p) = 2 then (if lo ≤ tvC I (te I p) ∧ tvC I (te I p) ≤ hi then .inr (tvC I (te I p), te I (te I p)) else .inl (2, tb I (te I p))) else .inl (1, tb I (te I p))) := if_pos z
    rw [hns]
    by_cases y : tk I (te I p) = 2
    · have hv := tv_cm h1.1.2.2.2 y
      rw [if_pos (by rw [y]), if_pos y, h1.2.2.2.2]
      by_cases x : lo ≤ tvC I (te I p) ∧ tvC I (te I p) ≤ hi
      · have f2 : Fm (fun k j => PF5 k j ∨ k = a + 1 ∧ j = i) μ1 (sI μ1 (a + 1) i (jv (tvC I (te I p)))) := Fm.rf.sI (Or.inr ⟨rfl, rfl⟩)
        have h2 : TC (sI μ1 (a + 1) i (jv (tvC I (te I p)))) I (te I p) := h1.kp (P := fun k j => k = a + 1 ∧ j = i) (Fm.rf.sI ⟨rfl, rfl⟩) (fun k j q => by omega)
        obtain ⟨μ3, e3, h3, f3⟩ := h2.nx hn
        rw [if_neg (by rw [jv_lt] <;> omega), if_pos (by rw [jv_le] <;> omega), if_pos x, p5_in (by omega) (by omega), Option.bind_some, Int.toNat_natCast, e3]
        refine ⟨1, μ3, rfl, ((f1.mono (fun k j q => by omega)).tr f2 (fun _ _ q => q)).tr f3 (fun k j q => by omega), fun e q => (nomatch q), fun x q => ⟨rfl, ?_⟩⟩
        obtain rfl := Sum.inr.inj q
        exact ⟨h3, by rw [f3.at _ _ (by omega), sI_1, if_pos ⟨rfl, rfl⟩], by rw [f3.at _ _ (by omega), sI_1, if_neg (by omega), f1.at _ _ (by omega)], by rw [f3.at _ _ (by omega), sI_1, if_neg (by omega), f1.at _ _ (by omega)]⟩
      · obtain ⟨μ2, e2, g2, f2⟩ := faC h1.2.2.1 2
        have fin : Pc (fun k j => PF5 k j ∨ k = a + 1 ∧ j = i) μ ((sh_X4_fail (jv 2) μ1).bind fun r3 => (isB r3.1).bind fun v4 => some (v4, r3.2)) (.inl (2, ((tb I (te I p) : Nat) : Int))) (fun (x : Int × Nat) μ1 => TC μ1 I x.2 ∧ μ1.1 (a + 1) i = jv x.1 ∧ NF μ μ1) := by
          rw [e2, Option.bind_some, isB0]
          refine ⟨0, μ2, rfl, (f1.mono (fun k j q => by omega)).tr f2 (fun k j q => Or.inl q), fun e q => ⟨rfl, ?_⟩, fun x q => (nomatch q)⟩
          obtain rfl := Sum.inl.inj q
          exact g2
        rw [if_neg x]
        by_cases v : tvC I (te I p) < lo
        · rw [if_pos (by rw [jv_lt] <;> omega)]
          exact fin
        · rw [if_neg (by rw [jv_lt] <;> omega), if_neg (by rw [jv_le] <;> omega)]
          exact fin
    · obtain ⟨μ2, e2, g2, f2⟩ := faC h1.2.2.1 1
      have e2' : sh_X4_fail (1 : Int32) μ1 = _ := e2
      rw [if_neg (by rw [jv_eq] <;> omega), if_neg y, e2', Option.bind_some, isB0]
      refine ⟨0, μ2, rfl, (f1.mono (fun k j q => by omega)).tr f2 (fun k j q => Or.inl q), fun e q => ⟨rfl, ?_⟩, fun x q => (nomatch q)⟩
      obtain rfl := Sum.inl.inj q
      exact g2
  · obtain ⟨μ2, e2, g2, f2⟩ := faC h.2.2.1 1
    have e2' : sh_X4_fail (1 : Int32) μ = _ := e2
    have hns : numS I p w lo hi = .inl (1, ((tb I p : Nat) : Int)) := if_neg z
    rw [hns, if_neg z, if_pos zro, e2', Option.bind_some, isB0]
    refine ⟨0, μ2, rfl, f2.mono (fun k j q => Or.inl q), fun e q => ⟨rfl, ?_⟩, fun x q => (nomatch q)⟩
    obtain rfl := Sum.inl.inj q
    exact g2
theorem seC (hn : 1200 ≤ n) {μ : Mm} (h : TC μ I p) : Pc PF5 μ (sh_X4_semicolon n μ) (semS I p) (fun q μ1 => TC μ1 I q ∧ NF μ μ1) := by
  have hk := tk_b h.1.2.2.2
  unfold sh_X4_semicolon semS
  rw [h.2.1, jv_lit (nat_lit 3)]
  have fin : Pc PF5 μ ((sh_X4_fail (1 : Int32) μ).bind fun r1 => (isB r1.1).bind fun v2 => some (v2, r1.2)) (.inl (1, ((tb I p : Nat) : Int))) (fun q μ1 => TC μ1 I q ∧ NF μ μ1) := by
    obtain ⟨μ2, e2, g2, f2⟩ := faC h.2.2.1 1
    have e2' : sh_X4_fail (1 : Int32) μ = _ := e2
    rw [e2', Option.bind_some, isB0]
    refine ⟨0, μ2, rfl, f2, fun e q => ⟨rfl, ?_⟩, fun x q => (nomatch q)⟩
    obtain rfl := Sum.inl.inj q
    exact g2
  by_cases z : tk I p = 3
  · have hb : tb I p < I.length := by omega
    have hg := h.1.2.1 _ hb
    rw [if_pos (by rw [z]), h.1.2.2.1, h.2.2.1, h.1.1.g hb, Option.bind_some, jv_lit (nat_lit 59)]
    by_cases y : gi I (tb I p) = 59
    · obtain ⟨μ1, e1, h1, f1⟩ := h.nx hn
      rw [if_pos (congrArg jv y), if_pos ⟨z, y⟩, e1]
      refine ⟨1, μ1, rfl, f1.mono (fun k j q => by omega), fun e q => (nomatch q), fun x q => ⟨rfl, ?_⟩⟩
      obtain rfl := Sum.inr.inj q
      exact ⟨h1, f1.at _ _ (by omega), f1.at _ _ (by omega)⟩
    · rw [if_neg (show ¬ jv (gi I (tb I p)) = jv 59 by rw [jv_eq] <;> omega), if_neg (fun q => y q.2)]
      exact fin
  · rw [if_neg (by rw [jv_eq] <;> omega), if_neg (fun q => z q.1)]
    exact fin
/-! the model -/
def GD (μ : Mm) : Prop := μ.1 306 11 = jv 0 ∧ μ.1 306 12 = jv (-1)
def BD (μ : Mm) (c z : Int) : Prop := μ.1 306 11 = jv c ∧ (1 ≤ c ∧ c ≤ 4) ∧ μ.1 306 12 = jv z
abbrev PTk : Nat → Nat → Prop := fun k j => k = 306 ∧ 7 ≤ j ∧ j ≤ 12
theorem GD.g {μ : Mm} (h : GD μ) : sh_X12_good μ = some 1 := by
  unfold sh_X12_good
  rw [h.1, if_pos zro]
theorem BD.g {μ : Mm} {c z : Int} (h : BD μ c z) : sh_X12_good μ = some 0 := by
  have := h.2.1
  unfold sh_X12_good
  rw [h.1, jv0, if_neg (by rw [jv_eq] <;> omega)]
theorem GD.kp {μ μ' : Mm} {P : Nat → Nat → Prop} (h : GD μ) (hf : Fm P μ μ') (hp : ¬ P 306 11 ∧ ¬ P 306 12) : GD μ' := ⟨by rw [hf.at _ _ hp.1]; exact h.1, by rw [hf.at _ _ hp.2]; exact h.2⟩
theorem BD.kp {μ μ' : Mm} {P : Nat → Nat → Prop} {c z : Int} (h : BD μ c z) (hf : Fm P μ μ') (hp : ¬ P 306 11 ∧ ¬ P 306 12) : BD μ' c z := ⟨by rw [hf.at _ _ hp.1]; exact h.1, h.2.1, by rw [hf.at _ _ hp.2]; exact h.2.2⟩
theorem BD.er {μ : Mm} {c z : Int} (h : BD μ c z) (e : Int32) : sh_X12_errs e μ = some μ := by
  unfold sh_X12_errs
  rw [h.g, Option.bind_some, if_pos rfl]
theorem GD.er {μ : Mm} {z : Nat} (h : GD μ) (h8 : μ.1 306 8 = jv z) {c : Int} (hc : 1 ≤ c ∧ c ≤ 4) : ∃ μ1, sh_X12_errs (jv c) μ = some μ1 ∧ BD μ1 c z ∧ Fm (fun k j => k = 306 ∧ (j = 11 ∨ j = 12)) μ μ1 := by
  unfold sh_X12_errs
  rw [h.g, Option.bind_some, if_neg (show ¬ (1 : Int32) = 0 by decide), pt_eq, Option.bind_some, pt_eq, Option.bind_some, sI_1, if_neg (by omega), h8]
  exact ⟨_, rfl, ⟨by rw [sI_1, if_neg (by omega), sI_1, if_pos ⟨rfl, rfl⟩], hc, by rw [sI_1, if_pos ⟨rfl, rfl⟩]⟩, (Fm.rf.sI (by omega)).sI (by omega)⟩
theorem BD.go {μ : Mm} {c z : Int} (h : BD μ c z) : sh_X12_goOn n μ = some μ := by
  unfold sh_X12_goOn
  rw [h.g, Option.bind_some, if_pos rfl]
theorem GD.go (hn : 1200 ≤ n) {μ : Mm} (h : GD μ) (hm : TM μ I p) : ∃ μ1, sh_X12_goOn n μ = some μ1 ∧ GD μ1 ∧ TM μ1 I (te I p) ∧ Fm PSc μ μ1 := by
  obtain ⟨μ1, e1, h1, f1⟩ := hm.nx hn
  unfold sh_X12_goOn
  rw [h.g, Option.bind_some, if_neg (show ¬ (1 : Int32) = 0 by decide), e1]
  exact ⟨μ1, rfl, h.kp f1 ⟨by omega, by omega⟩, h1, f1⟩
theorem it39z {μ : Mm} {w : Nat} {f : Nat} {x : Int32} : sh_X12_isText_39 n w μ (f + 1) 0 x = some 0 := by
  rw [sh_X12_isText_39, isB0, if_pos rfl]
  exact ite_self _
theorem it39 {μ : Mm} (h : TM μ I p) {w : Nat} (hw : tb I p + lenS.getD w 0 ≤ I.length) : ∀ (k f i : Nat), i + k = lenS.getD w 0 → k < f → (∀ j, j < i → jv (gi I (tb I p + j)) = (bytS.getD w []).getD j 0) → sh_X12_isText_39 n w μ f 1 (jv i) = some (jv (if ∀ i, i < lenS.getD w 0 → jv (gi I (tb I p + i)) = (bytS.getD w []).getD i 0 then 1 else 0)) := by
  have hl := h.len
  have h7 := lenS_b w
  have l1 : ln 309 = 1100 := rfl
  intro k
  induction k with
  | zero =>
    intro f i hi hf hq
    obtain ⟨f, rfl⟩ : ∃ g, f = g + 1 := ⟨f - 1, by omega⟩
    rw [sh_X12_isText_39, jv_nI, if_pos (by rw [jv_le] <;> omega), if_pos (fun j hj => hq j (by omega)), isB1]
    rfl
  | succ k ih =>
    intro f i hi hf hq
    obtain ⟨f, rfl⟩ : ∃ g, f = g + 1 := ⟨f - 1, by omega⟩
    rw [sh_X12_isText_39, jv_nI, if_neg (by rw [jv_le] <;> omega), if_neg (show ¬ (1 : Int32) = 0 by decide), h.2.2.1, jv_add, show ((tb I p : Nat) : Int) + (i : Int) = ((tb I p + i : Nat) : Int) by omega, ld_jv (by omega) (by omega), Option.bind_some, Int.toNat_natCast, h.1.1.2.2.2 _ (by omega), chS_at (by omega), Option.bind_some]
    by_cases z : jv (gi I (tb I p + i)) = (bytS.getD w []).getD i 0
    · rw [if_pos z, show jv (i : Int) + (1 : Int32) = jv ((i + 1 : Nat) : Int) by rw [jv_lit (nat_lit 1), jv_add]; rfl]
      exact ih f (i + 1) (by omega) (by omega) (fun j hj => by
        by_cases y : j = i
        · rw [y]; exact z
        · exact hq j (by omega))
    · obtain ⟨f, rfl⟩ : ∃ g, f = g + 1 := ⟨f - 1, by omega⟩
      rw [if_neg z, if_neg (fun q => z (q i (by omega))), it39z]
      rfl
theorem itM (hn : 1200 ≤ n) {μ : Mm} (hg : GD μ) (h : TM μ I p) (w : Nat) : sh_X12_isText n w μ = some (jv (if isW2 I p w then 1 else 0)) := by
  have hl := h.len
  have h7 := lenS_b w
  have hk := tk_b h.1.2
  obtain ⟨c1, c2, c3, c4, c5, c6⟩ := te_b h.1.2
  obtain ⟨g, rfl⟩ : ∃ g, n = g + 1 := ⟨n - 1, by omega⟩
  unfold sh_X12_isText
  rw [hg.g, Option.bind_some, if_neg (show ¬ (1 : Int32) = 0 by decide), h.2.1, h.2.2.1, h.2.2.2.1, jv_sub, jv_nI, it39z]
  by_cases z : tk I p = 1
  · rw [if_pos (show jv (tk I p) = (1 : Int32) by rw [z]; rfl)]
    by_cases y : te I p - tb I p = lenS.getD w 0
    · have e := it39 (n := g + 1) h (w := w) (by omega) (lenS.getD w 0) (g + 1) 0 (by omega) (by omega) (fun j hj => absurd hj (by omega))
      have e' : sh_X12_isText_39 (g + 1) w μ (g + 1) 1 (0 : Int32) = _ := e
      rw [if_pos (show jv ((te I p : Nat) - (tb I p : Nat) : Int) = jv (lenS.getD w 0 : Nat) by congr 1; omega), e']
      congr 2
      by_cases x : ∀ i, i < lenS.getD w 0 → jv (gi I (tb I p + i)) = (bytS.getD w []).getD i 0
      · rw [if_pos x, if_pos ⟨z, y, x⟩]
      · rw [if_neg x, if_neg (fun q => x q.2.2)]
    · rw [if_neg (show ¬ jv ((te I p : Nat) - (tb I p : Nat) : Int) = jv (lenS.getD w 0 : Nat) by rw [jv_eq] <;> omega), if_neg (fun q : isW2 I p w => y q.2.1)]
      rfl
  · rw [if_neg (show ¬ jv (tk I p) = (1 : Int32) by rw [jv_lit (nat_lit 1), jv_eq] <;> omega), if_neg (fun q : isW2 I p w => z q.1)]
    rfl
theorem BD.it {μ : Mm} {c z : Int} (h : BD μ c z) (hn : 1 ≤ n) (w : Nat) : sh_X12_isText n w μ = some 0 := by
  obtain ⟨g, rfl⟩ : ∃ g, n = g + 1 := ⟨n - 1, by omega⟩
  unfold sh_X12_isText
  rw [h.g, Option.bind_some, if_pos rfl, it39z]
/-- a word that must stand -/
theorem BD.wo {μ : Mm} {c z : Int} (h : BD μ c z) (hn : 1 ≤ n) (w : Nat) : sh_X12_word n w μ = some μ := by
  unfold sh_X12_word
  rw [h.it hn, Option.bind_some, if_pos rfl, h.er, Option.bind_some, h.go]
  rfl
theorem woM (hn : 1200 ≤ n) {μ : Mm} (hg : GD μ) (h : TM μ I p) (w : Nat) : ∃ μ1, sh_X12_word n w μ = some μ1 ∧ Fm PTk μ μ1 ∧ (isW2 I p w → GD μ1 ∧ TM μ1 I (te I p)) ∧ (¬ isW2 I p w → BD μ1 1 (tb I p)) := by
  unfold sh_X12_word
  rw [itM hn hg h, Option.bind_some]
  by_cases z : isW2 I p w
  · obtain ⟨μ1, e1, g1, h1, f1⟩ := hg.go hn h
    rw [if_pos z, if_neg one_ne, e1]
    exact ⟨μ1, rfl, f1.mono (fun k j q => by omega), fun _ => ⟨g1, h1⟩, fun q => absurd z q⟩
  · obtain ⟨μ1, e1, b1, f1⟩ := hg.er h.2.2.1 (c := 1) (by omega)
    have e1' : sh_X12_errs (1 : Int32) μ = _ := e1
    rw [if_neg z, if_pos zro, e1', Option.bind_some, b1.go]
    exact ⟨μ1, rfl, f1.mono (fun k j q => by omega), fun q => absurd q z, fun _ => b1⟩
theorem BD.nu {μ : Mm} {c z : Int} (h : BD μ c z) (lo hi : Int32) : sh_X12_number n lo hi μ = some (lo, μ) := by
  unfold sh_X12_number sh_X12_number_20 sh_X12_number_47 sh_X12_number_62
  rw [h.g, Option.bind_some, if_pos rfl, Option.bind_some, if_pos rfl, Option.bind_some, if_pos rfl, h.go]
  rfl
/-- a number that must stand -/
def nuS (I : List Int) (p : Nat) (lo hi : Int) : (Int × Int) ⊕ (Int × Nat) := if tk I p = 2 then (if lo ≤ tvC I p ∧ tvC I p ≤ hi then .inr (tvC I p, te I p) else .inl (2, tb I p)) else .inl (1, tb I p)
theorem numS_nu {w : Nat} {lo hi : Int} : numS I p w lo hi = if isW2 I p w then nuS I (te I p) lo hi else .inl (1, ((tb I p : Nat) : Int)) := rfl
theorem numM (hn : 1200 ≤ n) {μ : Mm} (hg : GD μ) (h : TM μ I p) {lo hi : Int} (hlo : 0 ≤ lo ∧ lo ≤ 99999) (hhi : 0 ≤ hi ∧ hi ≤ 99998) : ∃ v μ1, sh_X12_number n (jv lo) (jv hi) μ = some (jv v, μ1) ∧ Fm PTk μ μ1 ∧ (∀ e, nuS I p lo hi = .inl e → BD μ1 e.1 e.2 ∧ v = lo) ∧ (∀ x, nuS I p lo hi = .inr x → GD μ1 ∧ TM μ1 I x.2 ∧ v = x.1) := by
  have hk := tk_b h.1.2
  -- what follows a failure
  have bad : ∀ (μ1 : Mm) (c z : Int), BD μ1 c z → sh_X12_number_20 n (jv lo) (jv hi) μ1 = some (jv lo, μ1) ∧ sh_X12_number_47 n (jv lo) (jv hi) μ1 = some (jv lo, μ1) := by
    intro μ1 c z hb
    unfold sh_X12_number_20 sh_X12_number_47 sh_X12_number_62
    rw [hb.g, Option.bind_some, if_pos rfl, Option.bind_some, if_pos rfl, hb.go]
    exact ⟨rfl, rfl⟩
  unfold sh_X12_number nuS
  rw [hg.g, Option.bind_some, if_neg (show ¬ (1 : Int32) = 0 by decide), h.2.1]
  by_cases y : tk I p = 2
  · have hv := tv_cm h.1.2 y
    have hm : tvM I p = if 99999 < tvC I p then 99999 else tvC I p := hv.1
    rw [if_pos (show jv (tk I p) = (2 : Int32) by rw [y]; rfl)]
    have hr : (lo ≤ tvM I p ∧ tvM I p ≤ hi) ↔ (lo ≤ tvC I p ∧ tvC I p ≤ hi) := by
      rw [hm]
      split <;> omega
    have hvb : 0 ≤ tvM I p ∧ tvM I p ≤ 99999 := by
      rw [hm]
      split <;> omega
    rw [if_pos y]
    unfold sh_X12_number_20
    rw [hg.g, Option.bind_some, if_neg (show ¬ (1 : Int32) = 0 by decide), h.2.2.2.2.1 y, in_b (by unfold i32; omega) (by unfold i32; omega) (by unfold i32; omega), Option.bind_some]
    by_cases x : lo ≤ tvC I p ∧ tvC I p ≤ hi
    · obtain ⟨μ1, e1, g1, h1, f1⟩ := hg.go hn h
      rw [if_pos (hr.mpr x), if_neg one_ne, if_pos x]
      unfold sh_X12_number_47 sh_X12_number_62
      rw [hg.g, Option.bind_some, if_neg (show ¬ (1 : Int32) = 0 by decide), e1, Option.bind_some, h.2.2.2.2.1 y]
      refine ⟨tvM I p, μ1, rfl, f1.mono (fun k j q => by omega), fun e q => (nomatch q), fun x2 q => ?_⟩
      obtain rfl := Sum.inr.inj q
      refine ⟨g1, h1, ?_⟩
      show tvM I p = tvC I p
      rw [hm, if_neg (by omega)]
    · obtain ⟨μ1, e1, b1, f1⟩ := hg.er h.2.2.1 (c := 2) (by omega)
      have e1' : sh_X12_errs (2 : Int32) μ = _ := e1
      rw [if_neg (fun q => x (hr.mp q)), if_pos zro, e1', Option.bind_some, (bad μ1 2 _ b1).2, if_neg x]
      refine ⟨lo, μ1, rfl, f1.mono (fun k j q => by omega), fun e q => ?_, fun x q => (nomatch q)⟩
      obtain rfl := Sum.inl.inj q
      exact ⟨b1, rfl⟩
  · obtain ⟨μ1, e1, b1, f1⟩ := hg.er h.2.2.1 (c := 1) (by omega)
    have e1' : sh_X12_errs (1 : Int32) μ = _ := e1
    rw [if_neg (show ¬ jv (tk I p) = (2 : Int32) by rw [jv_lit (nat_lit 2), jv_eq] <;> omega), if_neg y, e1', Option.bind_some, (bad μ1 1 _ b1).1]
    refine ⟨lo, μ1, rfl, f1.mono (fun k j q => by omega), fun e q => ?_, fun x q => (nomatch q)⟩
    obtain rfl := Sum.inl.inj q
    exact ⟨b1, rfl⟩
theorem BD.nb {μ : Mm} {c z : Int} (h : BD μ c z) (hn : 1 ≤ n) (w : Nat) (lo hi : Int32) : sh_X12_numberBehind n w lo hi μ = some (lo, μ) := by
  unfold sh_X12_numberBehind
  rw [h.wo hn, Option.bind_some, h.nu]
  rfl
theorem nbM (hn : 1200 ≤ n) {μ : Mm} (hg : GD μ) (h : TM μ I p) {w : Nat} {lo hi : Int} (hlo : 0 ≤ lo ∧ lo ≤ 99999) (hhi : 0 ≤ hi ∧ hi ≤ 99998) : ∃ v μ1, sh_X12_numberBehind n w (jv lo) (jv hi) μ = some (jv v, μ1) ∧ Fm PTk μ μ1 ∧ (∀ e, numS I p w lo hi = .inl e → BD μ1 e.1 e.2 ∧ v = lo) ∧ (∀ x, numS I p w lo hi = .inr x → GD μ1 ∧ TM μ1 I x.2 ∧ v = x.1) := by
  obtain ⟨μ1, e1, f1, g1, b1⟩ := woM hn hg h w
  unfold sh_X12_numberBehind
  rw [e1, Option.bind_some, numS_nu]
  by_cases z : isW2 I p w
  · obtain ⟨v, μ2, e2, f2, a2, a3⟩ := numM hn (g1 z).1 (g1 z).2 hlo hhi
    rw [if_pos z, e2]
    exact ⟨v, μ2, rfl, f1.tr f2 (fun _ _ q => q), a2, a3⟩
  · rw [if_neg z, (b1 z).nu]
    refine ⟨lo, μ1, rfl, f1, fun e q => ?_, fun x q => (nomatch q)⟩
    obtain rfl := Sum.inl.inj q
    exact ⟨b1 z, rfl⟩
theorem BD.se {μ : Mm} {c z : Int} (h : BD μ c z) : sh_X12_semicolon n μ = some μ := by
  unfold sh_X12_semicolon
  rw [h.g, Option.bind_some, if_pos rfl, h.go]
  rfl
theorem smM (hn : 1200 ≤ n) {μ : Mm} (hg : GD μ) (h : TM μ I p) : ∃ μ1, sh_X12_semicolon n μ = some μ1 ∧ Fm PTk μ μ1 ∧ (∀ e, semS I p = .inl e → BD μ1 e.1 e.2) ∧ (∀ x, semS I p = .inr x → GD μ1 ∧ TM μ1 I x) := by
  have hk := tk_b h.1.2
  have fin : ∃ μ1, sh_X12_semicolon_24 n μ = some μ1 ∧ Fm PTk μ μ1 ∧ BD μ1 1 (tb I p) := by
    obtain ⟨μ1, e1, b1, f1⟩ := hg.er h.2.2.1 (c := 1) (by omega)
    have e1' : sh_X12_errs (1 : Int32) μ = _ := e1
    unfold sh_X12_semicolon_24
    rw [e1', Option.bind_some, b1.go]
    exact ⟨μ1, rfl, f1.mono (fun k j q => by omega), b1⟩
  unfold sh_X12_semicolon semS
  rw [hg.g, Option.bind_some, if_neg (show ¬ (1 : Int32) = 0 by decide), h.2.1]
  by_cases z : tk I p = 3
  · have hb : tb I p < I.length := by omega
    obtain ⟨u1, u2, _, _, _, _, u7⟩ := ubt_b (h.1.1.2.1 _ hb)
    rw [if_pos (show jv (tk I p) = (3 : Int32) by rw [z]; rfl), h.2.2.2.2.2 z]
    by_cases y : gi I (tb I p) = 59
    · obtain ⟨μ1, e1, g1, h1, f1⟩ := hg.go hn h
      rw [if_pos (show jv (ubt (gi I (tb I p))) = (59 : Int32) by rw [u7.mpr y]; rfl), if_pos ⟨z, y⟩, e1]
      refine ⟨μ1, rfl, f1.mono (fun k j q => by omega), fun e q => (nomatch q), fun x q => ?_⟩
      obtain rfl := Sum.inr.inj q
      exact ⟨g1, h1⟩
    · obtain ⟨μ1, e1, f1, b1⟩ := fin
      rw [if_neg (show ¬ jv (ubt (gi I (tb I p))) = (59 : Int32) from fun q => y (u7.mp (by rw [jv_lit (nat_lit 59), jv_eq (by omega) (by omega) (by omega) (by omega)] at q; exact q))), if_neg (fun q => y q.2), e1]
      refine ⟨μ1, rfl, f1, fun e q => ?_, fun x q => (nomatch q)⟩
      obtain rfl := Sum.inl.inj q
      exact b1
  · obtain ⟨μ1, e1, f1, b1⟩ := fin
    rw [if_neg (show ¬ jv (tk I p) = (3 : Int32) by rw [jv_lit (nat_lit 3), jv_eq] <;> omega), if_neg (fun q => z q.1), e1]
    refine ⟨μ1, rfl, f1, fun e q => ?_, fun x q => (nomatch q)⟩
    obtain rfl := Sum.inl.inj q
    exact b1
end PHR
