/-! TITLES, as both read them -/
def ps (I : List Int) (p : Nat) : Nat → Nat
  | 0 => p
  | k + 1 => te I (ps I p k)
def tiG (I : List Int) (p : Nat) : Nat → Nat → (Int × Int) ⊕ Nat
  | 0, _ => .inl (1, 0)
  | f + 1, k => if tk I (ps I p k) = 1 then (if te I (ps I p k) - tb I (ps I p k) ≤ 12 then (if k < 8 then tiG I p f (k + 1) else .inl (4, tb I (ps I p k))) else .inl (1, tb I (ps I p k))) else if 0 < k then .inr k else .inl (1, tb I (ps I p k))
def tiS (I : List Int) (p : Nat) : (Int × Int) ⊕ Nat := tiG I p 10 0
/-- the letters of a word of a title -/
abbrev wdL (I : List Int) (p w : Nat) : Nat → Int := ltS I (tb I (ps I p w)) (te I (ps I p w) - tb I (ps I p w))
def tiV (I : List Int) (s : (Int × Int) ⊕ Nat) : Int := match s with
  | .inl _ => 0
  | .inr x => if tk I (ps I 0 x) = 0 then 1 else 0
section TTL
variable {n : Nat} {I : List Int} {p : Nat}
theorem ps_b (hp : p ≤ I.length) : ∀ k, ps I p k ≤ I.length := by
  intro k
  induction k with
  | zero => exact hp
  | succ k ih => exact (te_b ih).2.1
theorem tiG_sp {x : Nat} : ∀ (f k : Nat), k ≤ 8 → tiG I p f k = .inr x → k ≤ x ∧ x ≤ 8 ∧ 0 < x ∧ tk I (ps I p x) ≠ 1 ∧ ∀ j, k ≤ j → j < x → tk I (ps I p j) = 1 ∧ te I (ps I p j) - tb I (ps I p j) ≤ 12 := by
  intro f
  induction f with
  | zero => intro k _ h; exact nomatch h
  | succ f ih =>
    intro k hk h
    rw [tiG] at h
    by_cases z : tk I (ps I p k) = 1
    · rw [if_pos z] at h
      by_cases y : te I (ps I p k) - tb I (ps I p k) ≤ 12
      · rw [if_pos y] at h
        by_cases w : k < 8
        · rw [if_pos w] at h
          obtain ⟨a1, a2, a3, a4, a5⟩ := ih (k + 1) (by omega) h
          refine ⟨by omega, a2, a3, a4, fun j h1 h2 => ?_⟩
          by_cases v : j = k
          · rw [v]; exact ⟨z, y⟩
          · exact a5 j (by omega) h2
        · rw [if_neg w] at h
          exact nomatch h
      · rw [if_neg y] at h
        exact nomatch h
    · rw [if_neg z] at h
      by_cases y : 0 < k
      · rw [if_pos y] at h
        obtain rfl := Sum.inr.inj h
        exact ⟨Nat.le_refl _, hk, y, z, fun j h1 h2 => by omega⟩
      · rw [if_neg y] at h
        exact nomatch h
/-- letters -/
theorem wd_let (hp : p ≤ I.length) {k : Nat} (hk : tk I (ps I p k) = 1) : ∀ i, i < te I (ps I p k) - tb I (ps I p k) → 97 ≤ I.getD (tb I (ps I p k) + i) 0 ∧ I.getD (tb I (ps I p k) + i) 0 ≤ 122 := by
  intro i hi
  obtain ⟨c1, c2, c3, c4, c5, c6⟩ := te_b (ps_b hp k)
  exact kd_1 ((c6 (Or.inl hk) _ (by omega) (by omega)).trans hk)
theorem wd_ok (hp : p ≤ I.length) {k : Nat} (hk : tk I (ps I p k) = 1) : okL (wdL I p k) ∧ wdL I p k 0 ≠ 0 := by
  obtain ⟨c1, c2, c3, c4, c5, c6⟩ := te_b (ps_b hp k)
  have h4 := c4 (by omega)
  refine ⟨ltS_ok (wd_let hp hk), ?_⟩
  have := wd_let hp hk 0 (by omega)
  show ltS I _ _ 0 ≠ 0
  unfold ltS
  rw [if_pos (by omega)]
  omega
/-! the class -/
abbrev PT5 : Nat → Nat → Prop := fun k j => k = 5 ∧ (j = 0 ∨ j = 1 ∨ j = 3 ∨ 5 ≤ j ∧ j ≤ 8)
abbrev QT5 : Nat → Prop := fun k => k = 7
theorem TC.fw {μ μ' : Mm} {P : Nat → Nat → Prop} {Q : Nat → Prop} (h : TC μ I p) (hf : Fw P Q μ μ') (hp : ∀ k j, P k j → ¬ (k = 1 ∨ k = 2) ∧ ¬ PA k j) : TC μ' I p := by
  have := h.kp hf.fm hp
  exact ⟨⟨this.1.1, this.1.2.1, by rw [hf.2.2]; exact h.1.2.2.1, this.1.2.2.2⟩, this.2⟩
/-- a title in the parser -/
def TT (μ : Mm) (I : List Int) (p x : Nat) : Prop := μ.1 5 3 = jv x ∧ ∀ w, w < x → μ.2.1 7 w = pk (wdL I p w)
theorem ti7 (hn : 1200 ≤ n) (hp : p ≤ I.length) : ∀ (f g k : Nat) (μ : Mm), f + k = 10 → k ≤ 8 → f < g → TC μ I (ps I p k) → TT μ I p k → ∃ v μ1, sh_X4_titleOf_7 n g (jv k) μ = some (v, μ1) ∧ Fw PT5 QT5 μ μ1 ∧ (∀ e, tiG I p f k = .inl e → v = 0 ∧ FC μ1 e.1 e.2) ∧ (∀ x, tiG I p f k = .inr x → v = 1 ∧ TC μ1 I (ps I p x) ∧ TT μ1 I p x ∧ NF μ μ1) := by
  have l7 : ln (6 + 1) = 8 := rfl
  intro f
  induction f with
  | zero => intro g k μ hk h8; omega
  | succ f ih =>
    intro g k μ hk h8 hg h ht
    obtain ⟨g, rfl⟩ : ∃ r, g = r + 1 := ⟨g - 1, by omega⟩
    have hl := h.len
    have hkk := tk_b h.1.2.2.2
    obtain ⟨c1, c2, c3, c4, c5, c6⟩ := te_b h.1.2.2.2
    have fail : ∀ (c : Int), ∃ μ1, ((sh_X4_fail (jv c) μ).bind fun r8 => (isB r8.1).bind fun v9 => some (v9, r8.2)) = some (0, μ1) ∧ Fw PT5 QT5 μ μ1 ∧ FC μ1 c (tb I (ps I p k)) := by
      intro c
      obtain ⟨μ1, e1, g1, f1⟩ := faC h.2.2.1 c
      rw [e1, Option.bind_some, isB0]
      exact ⟨μ1, rfl, Fw.of (f1.mono (fun k j q => by omega)), g1⟩
    rw [sh_X4_titleOf_7, tiG, jv_lit (nat_lit 8), if_neg (by rw [jv_lt] <;> omega), h.2.1, h.2.2.1, h.2.2.2.1, jv_sub]
    by_cases z : tk I (ps I p k) = 1
    · rw [if_pos (show jv (tk I (ps I p k)) = (1 : Int32) by rw [z]; rfl), if_pos z]
      by_cases y : te I (ps I p k) - tb I (ps I p k) ≤ 12
      · rw [if_pos (show jv ((te I (ps I p k) : Nat) - (tb I (ps I p k) : Nat) : Int) ≤ (12 : Int32) by rw [jv_lit (nat_lit 12), jv_le] <;> omega), if_pos y, ht.1]
        by_cases w : k < 8
        · rw [if_pos (show jv (k : Int) < jv 8 by rw [jv_lt] <;> omega), if_pos w]
          have ew : sh_X8_wordBetween n (μ.2.2 1) (jv (tb I (ps I p k))) (jv (te I (ps I p k))) μ = some (pk (wdL I p k)) := by
            have := wb8 (n := n) (by omega) h.1.1 (a := tb I (ps I p k)) (m := te I (ps I p k) - tb I (ps I p k)) (by omega) h.1.2.1
            rw [show tb I (ps I p k) + (te I (ps I p k) - tb I (ps I p k)) = te I (ps I p k) by omega, if_pos ⟨y, wd_let hp z⟩] at this
            rw [h.1.2.2.1]
            exact this
          rw [ew, Option.bind_some, p9_in (by omega) (by omega), Option.bind_some, pt_eq, Option.bind_some, Int.toNat_natCast]
          have f0 : Fw PT5 QT5 μ (sJ μ 7 k (pk (wdL I p k))) := ⟨fun _ _ _ => rfl, fun a b q => by rw [sJ_21, if_neg (fun w => q w.1)], rfl⟩
          have e3 : (sJ μ (6 + 1) k (pk (wdL I p k))).1 5 3 = jv k := ht.1
          rw [e3, jv_lit (nat_lit 1), jv_add, show (k : Int) + 1 = ((k + 1 : Nat) : Int) by omega]
          have f1 : Fm (fun a b => a = 5 ∧ b = 3) (sJ μ (6 + 1) k (pk (wdL I p k))) (sI (sJ μ (6 + 1) k (pk (wdL I p k))) 5 3 (jv ((k + 1 : Nat) : Int))) := Fm.rf.sI ⟨rfl, rfl⟩
          have F1 : Fw PT5 QT5 μ (sI (sJ μ (6 + 1) k (pk (wdL I p k))) 5 3 (jv ((k + 1 : Nat) : Int))) := f0.tr (Fw.of (Q := fun _ => False) f1) (fun a b q => by omega) (fun _ q => q.elim)
          have h1 : TC (sI (sJ μ (6 + 1) k (pk (wdL I p k))) 5 3 (jv ((k + 1 : Nat) : Int))) I (ps I p k) := (h.fw (μ' := sJ μ (6 + 1) k (pk (wdL I p k))) (P := fun _ _ => False) (Q := QT5) ⟨fun _ _ _ => rfl, f0.2.1, rfl⟩ (fun _ _ q => q.elim)).kp f1 (fun a b q => by omega)
          have t1 : TT (sI (sJ μ (6 + 1) k (pk (wdL I p k))) 5 3 (jv ((k + 1 : Nat) : Int))) I p (k + 1) := by
            refine ⟨by rw [sI_1, if_pos ⟨rfl, rfl⟩], fun w' hw' => ?_⟩
            rw [sI_2, sJ_21]
            by_cases v : w' = k
            · rw [if_pos ⟨rfl, v⟩, v]
            · rw [if_neg (fun q => v q.2)]
              exact ht.2 w' (by omega)
          have n2 : NF μ (sI (sJ μ (6 + 1) k (pk (wdL I p k))) 5 3 (jv ((k + 1 : Nat) : Int))) := ⟨by rw [f1.at _ _ (by omega)]; rfl, by rw [f1.at _ _ (by omega)]; rfl⟩
          generalize (sI (sJ μ (6 + 1) k (pk (wdL I p k))) 5 3 (jv ((k + 1 : Nat) : Int))) = μ2 at *
          obtain ⟨μ3, e4, h3, f3⟩ := h1.nx hn
          rw [e4, Option.bind_some]
          have t3 : TT μ3 I p (k + 1) := ⟨by rw [f3.at _ _ (by omega)]; exact t1.1, fun w' hw' => by rw [f3.1]; exact t1.2 w' hw'⟩
          obtain ⟨v, μ4, e5, f5, a1, a2⟩ := ih g (k + 1) μ3 (by omega) (by omega) (by omega) h3 t3
          have nf : NF μ μ3 := ⟨by rw [f3.at _ _ (by omega)]; exact n2.1, by rw [f3.at _ _ (by omega)]; exact n2.2⟩
          exact ⟨v, μ4, e5, (F1.tr (Fw.of (Q := QT5) f3) (fun a b q => by omega) (fun _ q => q)).tr f5 (fun _ _ q => q) (fun _ q => q), a1, fun x q => by
            obtain ⟨y1, y2, y3, y4⟩ := a2 x q
            exact ⟨y1, y2, y3, y4.1.trans nf.1, y4.2.trans nf.2⟩⟩
        · obtain ⟨μ1, e1, f1, g1⟩ := fail 4
          have e1' : ((sh_X4_fail (4 : Int32) μ).bind fun r8 => (isB r8.1).bind fun v9 => some (v9, r8.2)) = some (0, μ1) := e1
          rw [if_neg (show ¬ jv (k : Int) < jv 8 by rw [jv_lt] <;> omega), if_neg w, e1']
          refine ⟨0, μ1, rfl, f1, fun e q => ⟨rfl, ?_⟩, fun x q => (nomatch q)⟩
          obtain rfl := Sum.inl.inj q
          exact g1
      · obtain ⟨μ1, e1, f1, g1⟩ := fail 1
        have e1' : ((sh_X4_fail (1 : Int32) μ).bind fun r8 => (isB r8.1).bind fun v9 => some (v9, r8.2)) = some (0, μ1) := e1
        rw [if_neg (show ¬ jv ((te I (ps I p k) : Nat) - (tb I (ps I p k) : Nat) : Int) ≤ (12 : Int32) by rw [jv_lit (nat_lit 12), jv_le] <;> omega), if_neg y, e1']
        refine ⟨0, μ1, rfl, f1, fun e q => ⟨rfl, ?_⟩, fun x q => (nomatch q)⟩
        obtain rfl := Sum.inl.inj q
        exact g1
    · rw [if_neg (show ¬ jv (tk I (ps I p k)) = (1 : Int32) by rw [jv_lit (nat_lit 1), jv_eq] <;> omega), if_neg z]
      unfold sh_X4_titleOf_102
      rw [ht.1]
      by_cases y : 0 < k
      · rw [if_pos (show (0 : Int32) < jv (k : Int) by rw [jv_lit (nat_lit 0), jv_lt] <;> omega), if_pos y]
        refine ⟨1, μ, rfl, Fw.rf, fun e q => (nomatch q), fun x q => ⟨rfl, ?_⟩⟩
        obtain rfl := Sum.inr.inj q
        exact ⟨h, ht, rfl, rfl⟩
      · obtain ⟨μ1, e1, g1, f1⟩ := faC h.2.2.1 1
        have e1' : sh_X4_fail (1 : Int32) μ = _ := e1
        rw [if_neg (show ¬ (0 : Int32) < jv (k : Int) by rw [jv_lit (nat_lit 0), jv_lt] <;> omega), if_neg y, e1', Option.bind_some, if_pos rfl]
        refine ⟨0, μ1, rfl, Fw.of (f1.mono (fun k j q => by omega)), fun e q => ⟨rfl, ?_⟩, fun x q => (nomatch q)⟩
        obtain rfl := Sum.inl.inj q
        exact g1
theorem tiC (hn : 1200 ≤ n) {μ : Mm} (h : TC μ I p) : ∃ v μ1, sh_X4_titleOf n μ = some (v, μ1) ∧ Fw PT5 QT5 μ μ1 ∧ (∀ e, tiS I p = .inl e → v = 0 ∧ FC μ1 e.1 e.2) ∧ (∀ x, tiS I p = .inr x → v = 1 ∧ TC μ1 I (ps I p x) ∧ TT μ1 I p x ∧ NF μ μ1) := by
  have f0 : Fm (fun a b => a = 5 ∧ b = 3) μ (sI μ 5 3 (jv 0)) := Fm.rf.sI ⟨rfl, rfl⟩
  obtain ⟨v, μ1, e1, f1, a1, a2⟩ := ti7 (n := n) hn h.1.2.2.2 10 n 0 (sI μ 5 3 (jv 0)) (by omega) (by omega) (by omega) (h.kp f0 (fun a b q => by omega)) ⟨by rw [sI_1, if_pos ⟨rfl, rfl⟩]; rfl, fun w hw => absurd hw (by omega)⟩
  have e1' : sh_X4_titleOf_7 n n (0 : Int32) (sI μ 5 3 (jv 0)) = _ := e1
  refine ⟨v, μ1, ?_, (Fw.of (Q := QT5) (f0.mono (fun a b q => by omega))).tr f1 (fun _ _ q => q) (fun _ q => q), a1, fun x q => by
    obtain ⟨y1, y2, y3, y4⟩ := a2 x q
    exact ⟨y1, y2, y3, y4.1.trans (f0.at _ _ (by omega)), y4.2.trans (f0.at _ _ (by omega))⟩⟩
  unfold sh_X4_titleOf
  rw [jv_lit (nat_lit 0), pt_eq, Option.bind_some]
  exact e1
/-- the class starts to read -/
theorem stC (hn : 1200 ≤ n) {μ : Mm} (hx : Tx 1 μ I) (ho : okI I) : ∃ μ1, sh_X4_start n 1 μ = some μ1 ∧ TC μ1 I 0 ∧ Fm PF5 (sR μ 1 1) μ1 ∧ FC μ1 0 (-1) := by
  have f0 : Fm PF5 (sR μ 1 1) (sI (sI (sI (sR μ 1 1) 5 0 (jv 0)) 5 1 (jv (-1))) 5 7 (jv 0)) := ((Fm.rf.sI (by omega)).sI (by omega)).sI (by omega)
  have hx1 : Tx 1 (sR μ 1 1) I := hx
  obtain ⟨μ1, e1, h1, f1⟩ := advC (n := n) hn (hx1.kp f0 (by omega) (fun j => by omega)) ho (by rw [f0.1]; rfl) (p := 0) (Nat.zero_le _) (by rw [sI_1, if_pos ⟨rfl, rfl⟩]; rfl)
  refine ⟨μ1, ?_, h1, f0.tr f1 (fun k j q => by omega), ?_, ?_⟩
  · unfold sh_X4_start
    rw [Option.bind_some, jv_lit (nat_lit 0), ng1, pt_eq, Option.bind_some, pt_eq, Option.bind_some, pt_eq, Option.bind_some, e1]
    rfl
  · rw [f1.at _ _ (by omega), sI_1, if_neg (by omega), sI_1, if_neg (by omega), sI_1, if_pos ⟨rfl, rfl⟩]
  · rw [f1.at _ _ (by omega), sI_1, if_neg (by omega), sI_1, if_pos ⟨rfl, rfl⟩]
theorem rtC (hn : 1200 ≤ n) {μ : Mm} (hx : Tx 1 μ I) (ho : okI I) : ∃ μ1, sh_X4_readTitle n 1 μ = some (jv (tiV I (tiS I 0)), μ1) ∧ Fw PT5 QT5 (sR μ 1 1) μ1 ∧ ∀ x, tiS I 0 = .inr x → tk I (ps I 0 x) = 0 → TT μ1 I 0 x := by
  obtain ⟨μ1, e1, h1, f1, _⟩ := stC hn hx ho
  obtain ⟨v, μ2, e2, f2, a1, a2⟩ := tiC hn h1
  have F : Fw PT5 QT5 (sR μ 1 1) μ2 := (Fw.of (Q := QT5) (f1.mono (fun k j q => by omega))).tr f2 (fun _ _ q => q) (fun _ q => q)
  unfold sh_X4_readTitle
  rw [e1, Option.bind_some, e2, Option.bind_some]
  cases hs : tiS I 0 with
  | inl e =>
    obtain ⟨hv, _⟩ := a1 e hs
    rw [hv, if_pos rfl]
    exact ⟨μ2, rfl, F, fun x q => (nomatch q)⟩
  | inr x =>
    obtain ⟨hv, h3, t3, _⟩ := a2 x hs
    have hk := tk_b h3.1.2.2.2
    rw [hv, if_neg (show ¬ (1 : Int32) = 0 by decide), h3.2.1]
    unfold tiV
    simp only []
    by_cases z : tk I (ps I 0 x) = 0
    · rw [if_pos (show jv (tk I (ps I 0 x)) = (0 : Int32) by rw [z]; rfl), if_pos z]
      exact ⟨μ2, rfl, F, fun y q _ => by obtain rfl := Sum.inr.inj q; exact t3⟩
    · rw [if_neg (show ¬ jv (tk I (ps I 0 x)) = (0 : Int32) by rw [jv_lit (nat_lit 0), jv_eq] <;> omega), if_neg z]
      exact ⟨μ2, rfl, F, fun y q w => by obtain rfl := Sum.inr.inj q; exact absurd w z⟩
/-! the model -/
def kwR (R : Nat → Int) (s k : Nat) (L : Nat → Int) : Nat → Int := fun i => if i = 12 + 102 * s + 3 then (k : Int) + 1 else if 12 + 102 * s + 6 + 12 * k ≤ i ∧ i < 12 + 102 * s + 6 + 12 * k + 12 then L (i - (12 + 102 * s + 6 + 12 * k)) else R i
def tiR (R : Nat → Int) (s : Nat) (I : List Int) (p : Nat) : Nat → Nat → Int
  | 0 => bup R (12 + 102 * s + 3) 0
  | k + 1 => kwR (tiR R s I p k) s k (wdL I p k)
theorem MB.st {q : Nat} {μ : Mm} {R : Nat → Int} (h : MB q μ R) {s w : Nat} (hs : s < 24) (hw : w < 102) (v : Int32) : sh_X12_set (jv s) (jv w) v μ = some (sI μ q (12 + 102 * s + w) v) := by
  have := h.ln
  unfold sh_X12_set
  simp only [jv_lit]
  rw [jv_mul, jv_add, jv_add, h.2.1, st_jv (by omega) (by omega), Option.bind_some, show (12 + 102 * (s : Int) + w).toNat = 12 + 102 * s + w by omega]
theorem kw9 {q : Nat} {R : Nat → Int} {s k : Nat} (hs : s < 24) (hk : k < 8) {μ0 : Mm} : ∀ (m f j : Nat) (μ : Mm), j + m = 12 → m < f → TM μ I p → te I p - tb I p ≤ 12 → (q = 307 ∨ q = 308) → μ.2.2 0 = q → (∀ i, i < 2460 → μ.1 q i = jv (if 12 + 102 * s + 6 + 12 * k ≤ i ∧ i < 12 + 102 * s + 6 + 12 * k + j then ltS I (tb I p) (te I p - tb I p) (i - (12 + 102 * s + 6 + 12 * k)) else R i)) → ∃ μ1, sh_X12_keepWord_9 n (jv s) f (jv k) (jv j) μ = some μ1 ∧ MB q μ1 (kwR R s k (ltS I (tb I p) (te I p - tb I p))) ∧ Fm (fun a b => a = q ∧ b < 2460) μ μ1 := by
  have l9 : ln 309 = 1100 := rfl
  intro m
  induction m with
  | zero =>
    intro f j μ hj hf ht h12 hq hr hc
    obtain ⟨f, rfl⟩ : ∃ g, f = g + 1 := ⟨f - 1, by omega⟩
    have lq : 2460 ≤ ln q := by rcases hq with rfl | rfl <;> decide
    have hmb : MB q μ (fun i => if 12 + 102 * s + 6 + 12 * k ≤ i ∧ i < 12 + 102 * s + 6 + 12 * k + j then ltS I (tb I p) (te I p - tb I p) (i - (12 + 102 * s + 6 + 12 * k)) else R i) := ⟨hq, hr, hc⟩
    have es : sh_X12_set (jv s) (jv 3) (jv ((k : Int) + 1)) μ = _ := hmb.st (w := 3) hs (by omega) (jv ((k : Int) + 1))
    rw [sh_X12_keepWord_9, jv_lit (nat_lit 12), if_pos (by rw [jv_le] <;> omega), jv_lit (nat_lit 3), jv_lit (nat_lit 1), jv_add, es]
    refine ⟨_, rfl, ⟨hq, hr, fun i hi => ?_⟩, Fm.rf.sI ⟨rfl, by omega⟩⟩
    rw [sI_1]
    unfold kwR
    by_cases z : i = 12 + 102 * s + 3
    · rw [if_pos ⟨rfl, z⟩, if_pos z]
    · rw [if_neg (fun w => z w.2), if_neg z, hc i hi, show j = 12 by omega]
  | succ m ih =>
    intro f j μ hj hf ht h12 hq hr hc
    obtain ⟨f, rfl⟩ : ∃ g, f = g + 1 := ⟨f - 1, by omega⟩
    have hl := ht.len
    obtain ⟨c1, c2, _⟩ := te_b ht.1.2
    have hmb : MB q μ (fun i => if 12 + 102 * s + 6 + 12 * k ≤ i ∧ i < 12 + 102 * s + 6 + 12 * k + j then ltS I (tb I p) (te I p - tb I p) (i - (12 + 102 * s + 6 + 12 * k)) else R i) := ⟨hq, hr, hc⟩
    have es : ∀ v : Int32, sh_X12_set (jv s) (jv (6 + 12 * (k : Int) + j)) v μ = some (sI μ q (12 + 102 * s + 6 + 12 * k + j) v) := fun v => by
      have := hmb.st (s := s) (w := 6 + 12 * k + j) hs (by omega) v
      rw [show ((6 + 12 * k + j : Nat) : Int) = 6 + 12 * (k : Int) + j by omega] at this
      rw [this]
      congr 2
      omega
    have step : ∀ v : Int, v = ltS I (tb I p) (te I p - tb I p) j → ∃ μ1, ((sh_X12_set (jv s) (jv (6 + 12 * (k : Int) + j)) (jv v) μ).bind fun r3 => sh_X12_keepWord_9 n (jv s) f (jv k) (jv (j + 1)) r3) = some μ1 ∧ MB q μ1 (kwR R s k (ltS I (tb I p) (te I p - tb I p))) ∧ Fm (fun a b => a = q ∧ b < 2460) μ μ1 := by
      intro v hv
      have f0 : Fm (fun a b => a = q ∧ b < 2460) μ (sI μ q (12 + 102 * s + 6 + 12 * k + j) (jv v)) := Fm.rf.sI ⟨rfl, by omega⟩
      obtain ⟨μ1, e1, a1, a2⟩ := ih f (j + 1) (sI μ q (12 + 102 * s + 6 + 12 * k + j) (jv v)) (by omega) (by omega) (ht.kp f0 (fun a b w => by rcases hq with rfl | rfl <;> omega)) h12 hq hr (fun i hi => by
        rw [sI_1]
        by_cases z : i = 12 + 102 * s + 6 + 12 * k + j
        · rw [if_pos ⟨rfl, z⟩, if_pos (by omega), hv, z, show 12 + 102 * s + 6 + 12 * k + j - (12 + 102 * s + 6 + 12 * k) = j by omega]
        · rw [if_neg (fun w => z w.2), hc i hi]
          by_cases y : 12 + 102 * s + 6 + 12 * k ≤ i ∧ i < 12 + 102 * s + 6 + 12 * k + j
          · rw [if_pos y, if_pos (by omega)]
          · rw [if_neg y, if_neg (by omega)])
      rw [es, Option.bind_some]
      exact ⟨μ1, e1, a1, f0.tr a2 (fun _ _ w => w)⟩
    rw [sh_X12_keepWord_9]
    simp only [jv_lit]
    rw [if_neg (by rw [jv_le] <;> omega), ht.2.2.1, ht.2.2.2.1, jv_sub, jv_mul, jv_add, jv_add, jv_add, jv_add]
    by_cases z : te I p - tb I p ≤ j
    · rw [if_pos (by rw [jv_le] <;> omega)]
      exact step 0 (by unfold ltS; rw [if_neg (by omega)])
    · rw [if_neg (by rw [jv_le] <;> omega), ld_jv (by omega) (by omega), Option.bind_some, show (((tb I p : Nat) : Int) + (j : Int)).toNat = tb I p + j by omega, ht.1.1.2.2.2 _ (by omega)]
      exact step (gi I (tb I p + j)) (by unfold ltS; rw [if_pos (by omega)])
theorem kwM (hn : 1200 ≤ n) {q : Nat} {R : Nat → Int} {s k : Nat} (hs : s < 24) (hk : k < 8) {μ : Mm} (h : TM μ I p) (h12 : te I p - tb I p ≤ 12) (hm : MB q μ R) (hw : wct R s = k) : ∃ μ1, sh_X12_keepWord n (jv s) μ = some μ1 ∧ MB q μ1 (kwR R s k (ltS I (tb I p) (te I p - tb I p))) ∧ Fm (fun a b => a = q ∧ b < 2460) μ μ1 := by
  obtain ⟨μ1, e1, a1, a2⟩ := kw9 (n := n) (I := I) (p := p) (R := R) (q := q) (μ0 := μ) hs hk 12 n 0 μ (by omega) (by omega) h h12 hm.1 hm.2.1 (fun i hi => by rw [if_neg (by omega)]; exact hm.2.2 i hi)
  have e1' : sh_X12_keepWord_9 n (jv s) n (jv k) (0 : Int32) μ = _ := e1
  refine ⟨μ1, ?_, a1, a2⟩
  unfold sh_X12_keepWord
  rw [jv_lit (nat_lit 3), hm.oW hs, Option.bind_some, hw]
  exact e1'
/-- the book with a title -/
theorem tiR_ne {R : Nat → Int} {s c : Nat} (hc : c ≠ 12 + 102 * s + 3) : ∀ k, k ≤ 8 → (c < 12 + 102 * s + 6 ∨ 12 + 102 * s + 6 + 12 * k ≤ c) → tiR R s I p k c = R c := by
  intro k
  induction k with
  | zero => intro _ _; exact bup_ne hc
  | succ k ih =>
    intro hk h
    rw [tiR]
    unfold kwR
    rw [if_neg hc, if_neg (by omega)]
    exact ih (by omega) (by omega)
theorem tiR_w {R : Nat → Int} {s : Nat} : ∀ k, k ≤ 8 → wct (tiR R s I p k) s = k := by
  intro k hk
  cases k with
  | zero => exact if_pos rfl
  | succ k =>
    show kwR _ s k _ (12 + 102 * s + 3) = _
    unfold kwR
    rw [if_pos rfl]
    omega
theorem tiR_l {R : Nat → Int} {s w j : Nat} (hj : j < 12) : ∀ k, k ≤ 8 → w < k → lt (tiR R s I p k) s w j = wdL I p w j := by
  intro k
  induction k with
  | zero => intro _ h; omega
  | succ k ih =>
    intro hk h
    show kwR _ s k _ (12 + 102 * s + (6 + (12 * w + j))) = _
    unfold kwR
    rw [if_neg (by omega)]
    by_cases z : w = k
    · subst z
      rw [if_pos (by omega), show 12 + 102 * s + (6 + (12 * w + j)) - (12 + 102 * s + 6 + 12 * w) = j by omega]
    · rw [if_neg (by omega)]
      exact ih (by omega) (by omega)
/-! the model reads a title in a text -/
theorem pt76b {s : Nat} {K : Mm → Option Mm} {μ : Mm} {c z : Int} (h : BD μ c z) : sh_X12_parseTitle_76 n (jv s) K μ = some μ ∧ sh_X12_parseTitle_64 n (jv s) K μ = some μ ∧ sh_X12_parseTitle_41 n (jv s) K μ = some μ := by
  have a : sh_X12_parseTitle_76 n (jv s) K μ = some μ := by
    unfold sh_X12_parseTitle_76
    rw [h.go, Option.bind_some, h.g, Option.bind_some, if_pos rfl]
  have b : sh_X12_parseTitle_64 n (jv s) K μ = some μ := by
    unfold sh_X12_parseTitle_64
    rw [h.g, Option.bind_some, if_pos rfl]
    exact a
  refine ⟨a, b, ?_⟩
  unfold sh_X12_parseTitle_41
  rw [h.g, Option.bind_some, if_pos rfl]
  exact b
abbrev PTd (q : Nat) : Nat → Nat → Prop := fun a b => PTk a b ∨ a = q ∧ b < 2460
theorem pt7 (hn : 1200 ≤ n) {q : Nat} {R : Nat → Int} {s : Nat} (hs : s < 24) (hp : p ≤ I.length) : ∀ (f g k : Nat) (μ : Mm), f + k = 10 → k ≤ 8 → f < g → (k = 0 ∨ tk I (ps I p k) = 1) → GD μ → TM μ I (ps I p k) → MB q μ (tiR R s I p k) → ∃ μ1, sh_X12_parseTitle_7 n (jv s) g μ = some μ1 ∧ Fm (PTd q) μ μ1 ∧ (∀ e, tiG I p f k = .inl e → BD μ1 e.1 e.2) ∧ (∀ x, tiG I p f k = .inr x → GD μ1 ∧ TM μ1 I (ps I p x) ∧ MB q μ1 (tiR R s I p x)) := by
  intro f
  induction f with
  | zero => intro g k μ hk h8; omega
  | succ f ih =>
    intro g k μ hk h8 hg h0 hgd h hm
    obtain ⟨g, rfl⟩ : ∃ r, g = r + 1 := ⟨g - 1, by omega⟩
    have hl := h.len
    have hkk := tk_b h.1.2
    have hw := tiR_w (R := R) (s := s) (I := I) (p := p) k h8
    obtain ⟨c1, c2, c3, c4, c5, c6⟩ := te_b h.1.2
    have bad : ∀ K : Mm → Option Mm, ∃ μ1, sh_X12_parseTitle_36 n (jv s) K μ = some μ1 ∧ Fm (PTd q) μ μ1 ∧ BD μ1 1 (tb I (ps I p k)) := by
      intro K
      obtain ⟨μ1, e1, b1, f1⟩ := hgd.er h.2.2.1 (c := 1) (by omega)
      have e1' : sh_X12_errs (1 : Int32) μ = _ := e1
      unfold sh_X12_parseTitle_36
      rw [e1', Option.bind_some, (pt76b b1).2.2]
      exact ⟨μ1, rfl, f1.mono (fun a b w => Or.inl (by omega)), b1⟩
    rw [sh_X12_parseTitle_7, hgd.g, Option.bind_some, if_neg (show ¬ (1 : Int32) = 0 by decide), h.2.1, h.2.2.1, h.2.2.2.1, jv_sub, tiG]
    by_cases z : tk I (ps I p k) = 1
    · rw [if_pos (show jv (tk I (ps I p k)) = (1 : Int32) by rw [z]; rfl), if_pos z]
      by_cases y : te I (ps I p k) - tb I (ps I p k) ≤ 12
      · rw [if_pos (show jv ((te I (ps I p k) : Nat) - (tb I (ps I p k) : Nat) : Int) ≤ (12 : Int32) by rw [jv_lit (nat_lit 12), jv_le] <;> omega), if_pos y]
        unfold sh_X12_parseTitle_41
        rw [hgd.g, Option.bind_some, if_neg (show ¬ (1 : Int32) = 0 by decide), jv_lit (nat_lit 3), hm.oW hs, Option.bind_some, hw]
        by_cases w : k < 8
        · obtain ⟨μ1, e1, m1, f1⟩ := kwM (n := n) hn hs w h y hm hw
          have hm1 : MB q μ1 (tiR R s I p (k + 1)) := m1
          have hg1 : GD μ1 := hgd.kp f1 ⟨fun v => by rcases hm.1 with rfl | rfl <;> omega, fun v => by rcases hm.1 with rfl | rfl <;> omega⟩
          have h1 : TM μ1 I (ps I p k) := h.kp f1 (fun a b v => by rcases hm.1 with rfl | rfl <;> omega)
          obtain ⟨μ2, e2, g2, h2, f2⟩ := hg1.go hn h1
          have hm2 : MB q μ2 (tiR R s I p (k + 1)) := hm1.fr f2 (fun i _ v => by rcases hm.1 with rfl | rfl <;> omega)
          have F2 : Fm (PTd q) μ μ2 := (f1.mono (fun a b v => Or.inr v)).tr f2 (fun a b v => Or.inl (by omega))
          have h2' : TM μ2 I (ps I p (k + 1)) := h2
          have hk2 := tk_b h2'.1.2
          rw [if_neg (show ¬ jv (k : Int) = (8 : Int32) by rw [jv_lit (nat_lit 8), jv_eq] <;> omega), if_pos w]
          unfold sh_X12_parseTitle_64
          rw [hgd.g, Option.bind_some, if_neg (show ¬ (1 : Int32) = 0 by decide), e1, Option.bind_some]
          unfold sh_X12_parseTitle_76
          rw [e2, Option.bind_some, g2.g, Option.bind_some, if_neg (show ¬ (1 : Int32) = 0 by decide), h2'.2.1]
          by_cases v : tk I (ps I p (k + 1)) = 1
          · rw [if_pos (show jv (tk I (ps I p (k + 1))) = (1 : Int32) by rw [v]; rfl)]
            obtain ⟨μ3, e3, f3, a1, a2⟩ := ih g (k + 1) μ2 (by omega) (by omega) (by omega) (Or.inr v) g2 h2' hm2
            exact ⟨μ3, e3, F2.tr f3 (fun _ _ v => v), a1, a2⟩
          · rw [if_neg (show ¬ jv (tk I (ps I p (k + 1))) = (1 : Int32) by rw [jv_lit (nat_lit 1), jv_eq] <;> omega)]
            obtain ⟨f, rfl⟩ : ∃ r, f = r + 1 := ⟨f - 1, by omega⟩
            have et : tiG I p (f + 1) (k + 1) = .inr (k + 1) := by rw [tiG, if_neg v, if_pos (by omega)]
            rw [et]
            refine ⟨μ2, rfl, F2, fun e r => (nomatch r), fun x r => ?_⟩
            obtain rfl := Sum.inr.inj r
            exact ⟨g2, h2', hm2⟩
        · obtain ⟨μ1, e1, b1, f1⟩ := hgd.er h.2.2.1 (c := 4) (by omega)
          have e1' : sh_X12_errs (4 : Int32) μ = _ := e1
          rw [if_pos (show jv (k : Int) = (8 : Int32) by rw [show k = 8 by omega]; rfl), if_neg w, e1', Option.bind_some, (pt76b b1).2.1]
          refine ⟨μ1, rfl, f1.mono (fun a b w => Or.inl (by omega)), fun e r => ?_, fun x r => (nomatch r)⟩
          obtain rfl := Sum.inl.inj r
          exact b1
      · rw [if_neg (show ¬ jv ((te I (ps I p k) : Nat) - (tb I (ps I p k) : Nat) : Int) ≤ (12 : Int32) by rw [jv_lit (nat_lit 12), jv_le] <;> omega), if_neg y]
        obtain ⟨μ1, e1, f1, b1⟩ := bad (fun (μ : Mm) => sh_X12_parseTitle_7 n (jv s) g μ)
        refine ⟨μ1, e1, f1, fun e r => ?_, fun x r => (nomatch r)⟩
        obtain rfl := Sum.inl.inj r
        exact b1
    · have hk0 : k = 0 := h0.resolve_right z
      rw [if_neg (show ¬ jv (tk I (ps I p k)) = (1 : Int32) by rw [jv_lit (nat_lit 1), jv_eq] <;> omega), if_neg z, if_neg (show ¬ 0 < k by omega)]
      obtain ⟨μ1, e1, f1, b1⟩ := bad (fun (μ : Mm) => sh_X12_parseTitle_7 n (jv s) g μ)
      refine ⟨μ1, e1, f1, fun e r => ?_, fun x r => (nomatch r)⟩
      obtain rfl := Sum.inl.inj r
      exact b1
theorem ptlM (hn : 1200 ≤ n) {q : Nat} {R : Nat → Int} {s : Nat} (hs : s < 24) {μ : Mm} (hg : GD μ) (h : TM μ I p) (hm : MB q μ R) : ∃ μ1, sh_X12_parseTitle n (jv s) μ = some μ1 ∧ Fm (PTd q) μ μ1 ∧ (∀ e, tiS I p = .inl e → BD μ1 e.1 e.2) ∧ (∀ x, tiS I p = .inr x → GD μ1 ∧ TM μ1 I (ps I p x) ∧ MB q μ1 (tiR R s I p x)) := by
  have hm0 := hm.up (j := 12 + 102 * s + 3) (v := 0) (by omega)
  have f0 : Fm (PTd q) μ (sI μ q (12 + 102 * s + 3) (jv 0)) := Fm.rf.sI (Or.inr ⟨rfl, by omega⟩)
  have f0' : Fm (fun a b => a = q ∧ b < 2460) μ (sI μ q (12 + 102 * s + 3) (jv 0)) := Fm.rf.sI ⟨rfl, by omega⟩
  obtain ⟨μ1, e1, f1, a1, a2⟩ := pt7 (n := n) hn (R := R) hs h.1.2 10 n 0 (sI μ q (12 + 102 * s + 3) (jv 0)) (by omega) (by omega) (by omega) (Or.inl rfl) (hg.kp f0' ⟨fun v => by rcases hm.1 with rfl | rfl <;> omega, fun v => by rcases hm.1 with rfl | rfl <;> omega⟩) (h.kp f0' (fun a b v => by rcases hm.1 with rfl | rfl <;> omega)) hm0
  have es : sh_X12_set (jv s) (jv 3) (jv 0) μ = _ := hm.st (w := 3) hs (by omega) (jv 0)
  refine ⟨μ1, ?_, f0.tr f1 (fun _ _ v => v), a1, a2⟩
  unfold sh_X12_parseTitle
  rw [jv_lit (nat_lit 3), jv_lit (nat_lit 0), es, Option.bind_some]
  exact e1
theorem BD.pt {μ : Mm} {c z : Int} (h : BD μ c z) (hn : 1 ≤ n) {q : Nat} {R : Nat → Int} {s : Nat} (hs : s < 24) (hm : MB q μ R) : ∃ μ1, sh_X12_parseTitle n (jv s) μ = some μ1 ∧ BD μ1 c z ∧ (∃ R', MB q μ1 R') ∧ Fm (fun a b => a = q ∧ b < 2460) μ μ1 := by
  obtain ⟨g, rfl⟩ : ∃ g, n = g + 1 := ⟨n - 1, by omega⟩
  have hm0 := hm.up (j := 12 + 102 * s + 3) (v := 0) (by omega)
  have f0 : Fm (fun a b => a = q ∧ b < 2460) μ (sI μ q (12 + 102 * s + 3) (jv 0)) := Fm.rf.sI ⟨rfl, by omega⟩
  have b0 : BD (sI μ q (12 + 102 * s + 3) (jv 0)) c z := h.kp f0 ⟨fun v => by rcases hm.1 with rfl | rfl <;> omega, fun v => by rcases hm.1 with rfl | rfl <;> omega⟩
  have es : sh_X12_set (jv s) (jv 3) (jv 0) μ = _ := hm.st (w := 3) hs (by omega) (jv 0)
  unfold sh_X12_parseTitle
  rw [jv_lit (nat_lit 3), jv_lit (nat_lit 0), es, Option.bind_some, sh_X12_parseTitle_7, b0.g, Option.bind_some, if_pos rfl, (pt76b b0).2.2]
  exact ⟨_, rfl, b0, ⟨_, hm0⟩, f0⟩
/-! the model's two passes over an input that may be a title -/
theorem it21 (hn : 1200 ≤ n) : ∀ (f g k : Nat) (μ : Mm), f + k = 10 → k ≤ 8 → f < g → TM μ I (ps I 0 k) → ∃ μ1, sh_X12_isTitle_21 n g (jv k) (jv 1) μ = some (jv (tiV I (tiG I 0 f k)), μ1) ∧ IM μ1 I ∧ Fm PSc μ μ1 := by
  intro f
  induction f with
  | zero => intro g k μ hk h8; omega
  | succ f ih =>
    intro g k μ hk h8 hg h
    obtain ⟨g, rfl⟩ : ∃ r, g = r + 1 := ⟨g - 1, by omega⟩
    have hl := h.len
    have hkk := tk_b h.1.2
    obtain ⟨c1, c2, c3, c4, c5, c6⟩ := te_b h.1.2
    have no : ∀ K : Int32 → Int32 → Mm → Option (Int32 × Mm), (∀ x ν, K x 0 ν = some (0, ν)) → ∃ μ1, sh_X12_isTitle_64 n K (jv k) μ = some (jv 0, μ1) ∧ IM μ1 I ∧ Fm PSc μ μ1 := by
      intro K hK
      obtain ⟨μ1, e1, h1, f1⟩ := h.nx hn
      unfold sh_X12_isTitle_64 sh_X12_isTitle_65
      rw [e1, Option.bind_some, hK]
      exact ⟨μ1, rfl, h1.1.1, f1⟩
    have hK : ∀ (x : Int32) (ν : Mm), sh_X12_isTitle_21 n g x 0 ν = some (0, ν) := by
      intro x ν
      obtain ⟨g, rfl⟩ : ∃ r, g = r + 1 := ⟨g - 1, by omega⟩
      rw [sh_X12_isTitle_21, if_pos rfl]
      rfl
    rw [sh_X12_isTitle_21, if_neg one_ne, h.2.1, h.2.2.1, h.2.2.2.1, jv_sub, tiG]
    by_cases z0 : tk I (ps I 0 k) = 0
    · rw [if_pos (show jv (tk I (ps I 0 k)) = (0 : Int32) by rw [z0]; rfl), if_neg (show ¬ tk I (ps I 0 k) = 1 by omega)]
      unfold sh_X12_isTitle_76
      rw [if_neg one_ne]
      by_cases y : 0 < k
      · rw [if_neg (show ¬ jv (k : Int) ≤ (0 : Int32) by rw [jv_lit (nat_lit 0), jv_le] <;> omega), if_pos y]
        refine ⟨μ, ?_, h.1.1, Fm.rf⟩
        unfold tiV
        simp only []
        rw [if_pos z0]
        rfl
      · rw [if_pos (show jv (k : Int) ≤ (0 : Int32) by rw [jv_lit (nat_lit 0), jv_le] <;> omega), if_neg y]
        exact ⟨μ, rfl, h.1.1, Fm.rf⟩
    · rw [if_neg (show ¬ jv (tk I (ps I 0 k)) = (0 : Int32) by rw [jv_lit (nat_lit 0), jv_eq] <;> omega)]
      by_cases z : tk I (ps I 0 k) = 1
      · rw [if_pos (show jv (tk I (ps I 0 k)) = (1 : Int32) by rw [z]; rfl), if_pos z]
        by_cases y : te I (ps I 0 k) - tb I (ps I 0 k) ≤ 12
        · rw [if_neg (show ¬ (12 : Int32) < jv ((te I (ps I 0 k) : Nat) - (tb I (ps I 0 k) : Nat) : Int) by rw [jv_lit (nat_lit 12), jv_lt] <;> omega), if_pos y]
          by_cases w : k < 8
          · obtain ⟨μ1, e1, h1, f1⟩ := h.nx hn
            obtain ⟨μ2, e2, h2, f2⟩ := ih g (k + 1) μ1 (by omega) (by omega) (by omega) h1
            rw [if_neg (show ¬ (8 : Int32) ≤ jv (k : Int) by rw [jv_lit (nat_lit 8), jv_le] <;> omega), if_pos w]
            unfold sh_X12_isTitle_65
            rw [e1, Option.bind_some, jv_lit (nat_lit 1), jv_add, show (k : Int) + 1 = ((k + 1 : Nat) : Int) by omega]
            exact ⟨μ2, e2, h2, f1.tr f2 (fun _ _ v => v)⟩
          · rw [if_pos (show (8 : Int32) ≤ jv (k : Int) by rw [jv_lit (nat_lit 8), jv_le] <;> omega), if_neg w]
            exact no _ hK
        · rw [if_pos (show (12 : Int32) < jv ((te I (ps I 0 k) : Nat) - (tb I (ps I 0 k) : Nat) : Int) by rw [jv_lit (nat_lit 12), jv_lt] <;> omega), if_neg y]
          exact no _ hK
      · rw [if_neg (show ¬ jv (tk I (ps I 0 k)) = (1 : Int32) by rw [jv_lit (nat_lit 1), jv_eq] <;> omega), if_neg z]
        have e0 : tiV I (if 0 < k then .inr k else .inl (1, ((tb I (ps I 0 k) : Nat) : Int))) = 0 := by
          by_cases y : 0 < k
          · rw [if_pos y]
            exact if_neg z0
          · rw [if_neg y]
            rfl
        rw [e0]
        exact no _ hK
theorem Ix.im {μ : Mm} (h : Ix μ I) {v : Int32} (hv : v = jv I.length) : IM (sI μ 306 6 v) I := by
  refine ⟨h.1, h.2.1, by rw [sI_1, if_pos ⟨rfl, rfl⟩, hv], fun i hi => ?_⟩
  rw [sI_1, if_neg (by omega)]
  exact h.2.2.2 i hi
abbrev PSi : Nat → Nat → Prop := fun a b => a = 306 ∧ 6 ≤ b ∧ b ≤ 10
theorem ittM (hn : 1200 ≤ n) {μ : Mm} (h : Ix μ I) : ∃ μ1, sh_X12_isTitle n μ = some (jv (tiV I (tiS I 0)), μ1) ∧ Fm PSi μ μ1 := by
  have i0 := h.im (v := μ.1 306 5) h.2.2.1
  have f1 : Fm (fun a b => a = 306 ∧ b = 7) (sI μ 306 6 (μ.1 306 5)) (sI (sI μ 306 6 (μ.1 306 5)) 306 7 (jv 0)) := Fm.rf.sI ⟨rfl, rfl⟩
  obtain ⟨μ1, e1, h1, g1⟩ := scM (n := n) hn (i0.kp f1 (by omega) (fun j => by omega)) (p := 0) (Nat.zero_le _) (by rw [sI_1, if_pos ⟨rfl, rfl⟩]; rfl)
  obtain ⟨μ2, e2, h2, g2⟩ := it21 (n := n) (I := I) hn 10 n 0 μ1 (by omega) (by omega) (by omega) h1
  have e2' : sh_X12_isTitle_21 n n (0 : Int32) (1 : Int32) μ1 = _ := e2
  refine ⟨μ2, ?_, (((Fm.rf.sI (by omega) : Fm PSi μ (sI μ 306 6 (μ.1 306 5))).tr f1 (fun a b v => by omega)).tr g1 (fun a b v => by omega)).tr g2 (fun a b v => by omega)⟩
  unfold sh_X12_isTitle
  rw [pt_eq, Option.bind_some, jv_lit (nat_lit 0), pt_eq, Option.bind_some, e1, Option.bind_some]
  exact e2
theorem tt24 (hn : 1200 ≤ n) {q : Nat} {R : Nat → Int} {s x : Nat} (hs : s < 24) (hx8 : x ≤ 8) (hx0 : tk I (ps I 0 x) = 0) (hx : ∀ j, j < x → tk I (ps I 0 j) = 1 ∧ te I (ps I 0 j) - tb I (ps I 0 j) ≤ 12) : ∀ (m g k : Nat) (μ : Mm), k + m = x → m < g → TM μ I (ps I 0 k) → MB q μ (tiR R s I 0 k) → ∃ μ1, sh_X12_takeTitle_24 n (jv s) g μ = some μ1 ∧ MB q μ1 (tiR R s I 0 x) ∧ μ1.1 306 5 = jv 0 ∧ Fm (fun a b => a = 306 ∧ 5 ≤ b ∧ b ≤ 10 ∨ a = q ∧ b < 2460) μ μ1 := by
  intro m
  induction m with
  | zero =>
    intro g k μ hk hg h hm
    obtain ⟨g, rfl⟩ : ∃ r, g = r + 1 := ⟨g - 1, by omega⟩
    have ek : k = x := by omega
    subst ek
    rw [sh_X12_takeTitle_24, h.2.1, if_pos (show jv (tk I (ps I 0 k)) = (0 : Int32) by rw [hx0]; rfl), jv_lit (nat_lit 0), pt_eq]
    have f0 : Fm (fun a b => a = 306 ∧ b = 5) μ (sI μ 306 5 (jv 0)) := Fm.rf.sI ⟨rfl, rfl⟩
    exact ⟨_, rfl, hm.fr f0 (fun i _ v => by rcases hm.1 with rfl | rfl <;> omega), by rw [sI_1, if_pos ⟨rfl, rfl⟩], f0.mono (fun a b v => Or.inl (by omega))⟩
  | succ m ih =>
    intro g k μ hk hg h hm
    obtain ⟨g, rfl⟩ : ∃ r, g = r + 1 := ⟨g - 1, by omega⟩
    obtain ⟨z, y⟩ := hx k (by omega)
    obtain ⟨μ1, e1, m1, f1⟩ := kwM (n := n) hn hs (show k < 8 by omega) h y hm (tiR_w k (by omega))
    have hm1 : MB q μ1 (tiR R s I 0 (k + 1)) := m1
    have h1 : TM μ1 I (ps I 0 k) := h.kp f1 (fun a b v => by rcases hm.1 with rfl | rfl <;> omega)
    obtain ⟨μ2, e2, h2, f2⟩ := h1.nx hn
    obtain ⟨μ3, e3, m3, a3, f3⟩ := ih g (k + 1) μ2 (by omega) (by omega) h2 (hm1.fr f2 (fun i _ v => by rcases hm.1 with rfl | rfl <;> omega))
    refine ⟨μ3, ?_, m3, a3, ((f1.mono (fun a b v => Or.inr v)).tr f2 (fun a b v => Or.inl (by omega))).tr f3 (fun _ _ v => v)⟩
    rw [sh_X12_takeTitle_24, h.2.1, if_neg (show ¬ jv (tk I (ps I 0 k)) = (0 : Int32) by rw [jv_lit (nat_lit 0), jv_eq] <;> omega), e1, Option.bind_some, e2, Option.bind_some]
    exact e3
theorem taT (hn : 1200 ≤ n) {q : Nat} {R : Nat → Int} {s x : Nat} (hs : s < 24) (hx : tiS I 0 = .inr x) (hx0 : tk I (ps I 0 x) = 0) {μ : Mm} (h : Ix μ I) (hm : MB q μ R) : ∃ μ1, sh_X12_takeTitle n (jv s) μ = some μ1 ∧ MB q μ1 (tiR R s I 0 x) ∧ μ1.1 306 5 = jv 0 ∧ Fm (fun a b => a = 306 ∧ 5 ≤ b ∧ b ≤ 10 ∨ a = q ∧ b < 2460) μ μ1 := by
  obtain ⟨a1, a2, a3, a4, a5⟩ := tiG_sp 10 0 (by omega) hx
  have i0 := h.im (v := μ.1 306 5) h.2.2.1
  have f0 : Fm (fun a b => a = 306 ∧ b = 6) μ (sI μ 306 6 (μ.1 306 5)) := Fm.rf.sI ⟨rfl, rfl⟩
  have f1 : Fm (fun a b => a = 306 ∧ b = 7) (sI μ 306 6 (μ.1 306 5)) (sI (sI μ 306 6 (μ.1 306 5)) 306 7 (jv 0)) := Fm.rf.sI ⟨rfl, rfl⟩
  have i1 := i0.kp f1 (by omega) (fun j => by omega)
  have m1 : MB q (sI (sI μ 306 6 (μ.1 306 5)) 306 7 (jv 0)) R := (hm.fr f0 (fun i _ v => by rcases hm.1 with rfl | rfl <;> omega)).fr f1 (fun i _ v => by rcases hm.1 with rfl | rfl <;> omega)
  have h7 : (sI (sI μ 306 6 (μ.1 306 5)) 306 7 (jv 0)).1 306 7 = jv 0 := by rw [sI_1, if_pos ⟨rfl, rfl⟩]
  have F1 : Fm (fun a b => a = 306 ∧ 5 ≤ b ∧ b ≤ 10 ∨ a = q ∧ b < 2460) μ (sI (sI μ 306 6 (μ.1 306 5)) 306 7 (jv 0)) := (f0.mono (fun a b v => Or.inl (by omega))).tr f1 (fun a b v => Or.inl (by omega))
  have es : sh_X12_set (jv s) (jv 3) (jv 0) (sI (sI μ 306 6 (μ.1 306 5)) 306 7 (jv 0)) = _ := m1.st (w := 3) hs (by omega) (jv 0)
  have m2 := m1.up (j := 12 + 102 * s + 3) (v := 0) (by omega)
  unfold sh_X12_takeTitle
  rw [pt_eq, Option.bind_some, jv_lit (nat_lit 0), pt_eq, Option.bind_some, jv_lit (nat_lit 3), es, Option.bind_some]
  generalize (sI (sI μ 306 6 (μ.1 306 5)) 306 7 (jv 0)) = μ2 at *
  have f3 : Fm (fun a b => a = q ∧ b < 2460) μ2 (sI μ2 q (12 + 102 * s + 3) (jv 0)) := Fm.rf.sI ⟨rfl, by omega⟩
  obtain ⟨μ4, e4, h4, g4⟩ := scM (n := n) hn (i1.kp f3 (fun v => by rcases hm.1 with rfl | rfl <;> omega) (fun j v => by rcases hm.1 with rfl | rfl <;> omega)) (p := 0) (Nat.zero_le _) (by rw [f3.at _ _ (fun v => by rcases hm.1 with rfl | rfl <;> omega)]; exact h7)
  obtain ⟨μ5, e5, m5, a6, f5⟩ := tt24 (n := n) hn (q := q) (R := R) hs a2 hx0 (fun j hj => a5 j (Nat.zero_le _) hj) x n 0 μ4 (by omega) (by omega) h4 (m2.fr g4 (fun i _ v => by rcases hm.1 with rfl | rfl <;> omega))
  rw [e4, Option.bind_some]
  exact ⟨μ5, e5, m5, a6, ((F1.tr f3 (fun a b v => Or.inr v)).tr g4 (fun a b v => Or.inl (by omega))).tr f5 (fun _ _ v => v)⟩
end TTL
