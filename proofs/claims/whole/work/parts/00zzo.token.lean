/-! TOKENS of a text, as both read them -/
def kd (c : Int) : Int := if 97 ≤ c ∧ c ≤ 122 then 1 else if 48 ≤ c ∧ c ≤ 57 then 2 else if c = 32 ∨ c = 10 then 4 else 3
abbrev gi (I : List Int) (i : Nat) : Int := I.getD i 0
def skF (I : List Int) : Nat → Nat → Nat
  | 0, i => i
  | f + 1, i => if kd (gi I i) = 4 then skF I f (i + 1) else i
def ruF (I : List Int) (k : Int) : Nat → Nat → Nat
  | 0, i => i
  | f + 1, i => if kd (gi I i) = k then ruF I k f (i + 1) else i
/-- where a token begins, its kind, where it ends -/
def tb (I : List Int) (p : Nat) : Nat := skF I (I.length - p) p
def tk (I : List Int) (p : Nat) : Int := if tb I p < I.length then kd (gi I (tb I p)) else 0
def te (I : List Int) (p : Nat) : Nat := if tk I p = 0 then tb I p else if tk I p = 3 then tb I p + 1 else ruF I (tk I p) (I.length - tb I p) (tb I p)
def vlF (M : Int) (I : List Int) (b : Nat) : Nat → Int
  | 0 => 0
  | j + 1 => if 10 * vlF M I b j + gi I (b + j) - 48 < M then 10 * vlF M I b j + gi I (b + j) - 48 else M
def tvC (I : List Int) (p : Nat) : Int := if tk I p = 2 then vlF 100000 I (tb I p) (te I p - tb I p) else 0
def tvM (I : List Int) (p : Nat) : Int := vlF 99999 I (tb I p) (te I p - tb I p)
theorem kd_b (c : Int) : kd c = 1 ∨ kd c = 2 ∨ kd c = 3 ∨ kd c = 4 := by
  unfold kd
  repeat' split
  all_goals omega
theorem kd_1 {c : Int} (h : kd c = 1) : 97 ≤ c ∧ c ≤ 122 := by
  unfold kd at h
  repeat' split at h
  all_goals omega
theorem kd_2 {c : Int} (h : kd c = 2) : 48 ≤ c ∧ c ≤ 57 := by
  unfold kd at h
  repeat' split at h
  all_goals omega
theorem skF_sp (I : List Int) : ∀ f i, i + f = I.length → i ≤ skF I f i ∧ skF I f i ≤ I.length ∧ (skF I f i < I.length → kd (gi I (skF I f i)) ≠ 4) := by
  intro f
  induction f with
  | zero => intro i h; exact ⟨Nat.le_refl _, by show i ≤ _; omega, fun q => by have : skF I 0 i = i := rfl; omega⟩
  | succ f ih =>
    intro i h
    rw [skF]
    by_cases z : kd (gi I i) = 4
    · rw [if_pos z]
      have := ih (i + 1) (by omega)
      exact ⟨by omega, this.2.1, this.2.2⟩
    · rw [if_neg z]
      exact ⟨Nat.le_refl _, by omega, fun _ => z⟩
theorem ruF_sp (I : List Int) (k : Int) : ∀ f i, i + f = I.length → i ≤ ruF I k f i ∧ ruF I k f i ≤ I.length ∧ (∀ j, i ≤ j → j < ruF I k f i → kd (gi I j) = k) ∧ (0 < f → kd (gi I i) = k → i < ruF I k f i) := by
  intro f
  induction f with
  | zero => intro i h; exact ⟨Nat.le_refl _, by show i ≤ _; omega, fun j a b => by have : ruF I k 0 i = i := rfl; omega, fun q => by omega⟩
  | succ f ih =>
    intro i h
    rw [ruF]
    by_cases z : kd (gi I i) = k
    · rw [if_pos z]
      have := ih (i + 1) (by omega)
      refine ⟨by omega, this.2.1, fun j a b => ?_, fun _ _ => by omega⟩
      by_cases y : j = i
      · rw [y]; exact z
      · exact this.2.2.1 j (by omega) b
    · rw [if_neg z]
      exact ⟨Nat.le_refl _, by omega, fun j a b => by omega, fun _ q => absurd q z⟩
section TOK
variable {n : Nat} {I : List Int} {p : Nat}
theorem tb_b (h : p ≤ I.length) : p ≤ tb I p ∧ tb I p ≤ I.length ∧ (tb I p < I.length → kd (gi I (tb I p)) ≠ 4) := skF_sp I _ p (by omega)
theorem tk_b (h : p ≤ I.length) : (tk I p = 0 ∧ tb I p = I.length) ∨ ((tk I p = 1 ∨ tk I p = 2 ∨ tk I p = 3) ∧ tb I p < I.length ∧ kd (gi I (tb I p)) = tk I p) := by
  have := tb_b h
  unfold tk
  by_cases z : tb I p < I.length
  · rw [if_pos z]
    have h4 := this.2.2 z
    have := kd_b (gi I (tb I p))
    exact Or.inr ⟨by omega, z, rfl⟩
  · rw [if_neg z]
    exact Or.inl ⟨rfl, by omega⟩
theorem te_b (h : p ≤ I.length) : tb I p ≤ te I p ∧ te I p ≤ I.length ∧ (tk I p = 0 → te I p = tb I p) ∧ (tk I p ≠ 0 → tb I p < te I p) ∧ (tk I p = 3 → te I p = tb I p + 1) ∧ ((tk I p = 1 ∨ tk I p = 2) → ∀ j, tb I p ≤ j → j < te I p → kd (gi I j) = tk I p) := by
  have hb := tb_b h
  rcases tk_b h with ⟨z, y⟩ | ⟨z, y, x⟩
  · have e : te I p = tb I p := if_pos z
    rw [e]
    exact ⟨Nat.le_refl _, by omega, fun _ => rfl, fun q => absurd z q, fun q => by omega, fun q => by omega⟩
  · by_cases w : tk I p = 3
    · have e : te I p = tb I p + 1 := by unfold te; rw [if_neg (by omega), if_pos w]
      rw [e]
      exact ⟨by omega, by omega, fun q => by omega, fun q => by omega, fun _ => rfl, fun q => by omega⟩
    · have e : te I p = ruF I (tk I p) (I.length - tb I p) (tb I p) := by unfold te; rw [if_neg (by omega), if_neg w]
      have hr := ruF_sp I (tk I p) (I.length - tb I p) (tb I p) (by omega)
      rw [e]
      exact ⟨hr.1, hr.2.1, fun q => by omega, fun _ => hr.2.2.2 (by omega) x, fun q => absurd q w, fun _ => hr.2.2.1⟩
theorem vlF_b {M : Int} (hM : 0 ≤ M) {b m : Nat} (hd : ∀ j, j < m → 48 ≤ gi I (b + j) ∧ gi I (b + j) ≤ 57) : ∀ j, j ≤ m → 0 ≤ vlF M I b j ∧ vlF M I b j ≤ M := by
  intro j
  induction j with
  | zero => intro _; exact ⟨Int.le_refl _, hM⟩
  | succ j ih =>
    intro hj
    have := ih (by omega)
    have := hd j (by omega)
    rw [vlF]
    split <;> omega
theorem vlF_cm {b m : Nat} (hd : ∀ j, j < m → 48 ≤ gi I (b + j) ∧ gi I (b + j) ≤ 57) : ∀ j, j ≤ m → vlF 99999 I b j = if 99999 < vlF 100000 I b j then 99999 else vlF 100000 I b j := by
  intro j
  induction j with
  | zero => intro _; rfl
  | succ j ih =>
    intro hj
    have h1 := ih (by omega)
    have h2 := hd j (by omega)
    rw [vlF, vlF, h1]
    repeat' split
    all_goals omega
/-- a number as both have it -/
theorem tv_cm (h : p ≤ I.length) (hk : tk I p = 2) : tvM I p = (if 99999 < tvC I p then 99999 else tvC I p) ∧ 0 ≤ tvC I p ∧ tvC I p ≤ 100000 := by
  obtain ⟨a1, a2, a3, a4, a5, a6⟩ := te_b h
  have hd : ∀ j, j < te I p - tb I p → 48 ≤ gi I (tb I p + j) ∧ gi I (tb I p + j) ≤ 57 := fun j hj => kd_2 ((a6 (Or.inr hk) _ (by omega) (by omega)).trans hk)
  have h1 := vlF_cm hd _ (Nat.le_refl _)
  have h2 := vlF_b (M := 100000) (by omega) hd _ (Nat.le_refl _)
  unfold tvM tvC
  rw [if_pos hk]
  exact ⟨h1, h2⟩
/-! the class reads on -/
theorem kdC {c : Int} (h : -128 ≤ c ∧ c ≤ 127) {μ : Mm} : sh_X4_kindOf (jv c) μ = some (jv (kd c)) := by
  unfold sh_X4_kindOf sh_X4_kindOf_14 sh_X4_kindOf_28 kd
  simp only [jv_lit]
  have e1 : (jv c < jv 97) ↔ c < 97 := jv_lt (by omega) (by omega) (by omega) (by omega)
  have e2 : (jv 122 < jv c) ↔ 122 < c := jv_lt (by omega) (by omega) (by omega) (by omega)
  have e3 : (jv c < jv 48) ↔ c < 48 := jv_lt (by omega) (by omega) (by omega) (by omega)
  have e4 : (jv 57 < jv c) ↔ 57 < c := jv_lt (by omega) (by omega) (by omega) (by omega)
  have e5 : (jv c = jv 32) ↔ c = 32 := jv_eq (by omega) (by omega) (by omega) (by omega)
  have e6 : (jv c = jv 10) ↔ c = 10 := jv_eq (by omega) (by omega) (by omega) (by omega)
  simp only [e1, e2, e3, e4, e5, e6]
  repeat' split
  all_goals first | rfl | (exfalso; omega)
def okI (I : List Int) : Prop := ∀ i, i < I.length → -128 ≤ gi I i ∧ gi I i ≤ 127
abbrev PA : Nat → Nat → Prop := fun k j => k = 5 ∧ 5 ≤ j ∧ j ≤ 8
/-- the class at a token -/
def TC (μ : Mm) (I : List Int) (p : Nat) : Prop := (Tx 1 μ I ∧ okI I ∧ μ.2.2 1 = 1 ∧ p ≤ I.length) ∧ μ.1 5 5 = jv (tk I p) ∧ μ.1 5 6 = jv (tb I p) ∧ μ.1 5 7 = jv (te I p) ∧ μ.1 5 8 = jv (tvC I p)
theorem ad8 {μ0 : Mm} : ∀ (k f i : Nat) (μ : Mm), i + k = I.length → k < f → Tx 1 μ I → okI I → μ.2.2 1 = 1 → μ.1 5 6 = jv i → ∃ μ1, sh_X4_advance_8 n f μ = sh_X4_advance_53 n μ1 ∧ μ1.1 5 6 = jv (skF I k i) ∧ Fm PA μ μ1 := by
  intro k
  induction k with
  | zero =>
    intro f i μ hi hf hx ho hr h6
    obtain ⟨f, rfl⟩ : ∃ g, f = g + 1 := ⟨f - 1, by omega⟩
    have hl : I.length ≤ 1100 := hx.1
    refine ⟨μ, ?_, h6, Fm.rf⟩
    rw [sh_X4_advance_8, hr]
    unfold sh_X8_length
    rw [Option.bind_some, hx.2.1, h6, if_pos (by rw [jv_le] <;> omega)]
  | succ k ih =>
    intro f i μ hi hf hx ho hr h6
    obtain ⟨f, rfl⟩ : ∃ g, f = g + 1 := ⟨f - 1, by omega⟩
    have hl : I.length ≤ 1100 := hx.1
    have hk := kd_b (gi I i)
    rw [sh_X4_advance_8, hr]
    unfold sh_X8_length
    rw [Option.bind_some, hx.2.1, h6, if_neg (by rw [jv_le] <;> omega), hx.g (by omega), Option.bind_some, kdC (ho i (by omega)), Option.bind_some, skF, jv_lit (nat_lit 4), jv_lit (nat_lit 1)]
    by_cases z : kd (gi I i) = 4
    · rw [if_pos (by rw [z]), if_pos z, pt_eq, Option.bind_some, jv_add, show (i : Int) + 1 = ((i + 1 : Nat) : Int) by omega]
      have f0 : Fm PA μ (sI μ 5 6 (jv ((i + 1 : Nat) : Int))) := Fm.rf.sI (by omega)
      obtain ⟨μ1, e1, a1, a2⟩ := ih f (i + 1) _ (by omega) (by omega) (hx.kp f0 (by omega) (fun j => by omega)) ho (by rw [f0.1]; exact hr) (by rw [sI_1, if_pos ⟨rfl, rfl⟩])
      exact ⟨μ1, e1, a1, f0.tr a2 (fun _ _ y => y)⟩
    · rw [if_neg (by rw [jv_eq] <;> omega), if_neg z]
      exact ⟨μ, rfl, h6, Fm.rf⟩
theorem ad127 {b : Nat} {k : Int} (hk : k = 1 ∨ k = 2) : ∀ (m f e : Nat) (μ : Mm), e + m = I.length → m < f → b ≤ e → (∀ j, b ≤ j → j < e → kd (gi I j) = k) → Tx 1 μ I → okI I → μ.2.2 1 = 1 → μ.1 5 5 = jv k → μ.1 5 7 = jv e → μ.1 5 8 = jv (if k = 2 then vlF 100000 I b (e - b) else 0) → ∃ μ1, sh_X4_advance_127 n f (jv I.length) μ = some μ1 ∧ μ1.1 5 7 = jv (ruF I k m e) ∧ μ1.1 5 8 = jv (if k = 2 then vlF 100000 I b (ruF I k m e - b) else 0) ∧ Fm (fun k j => k = 5 ∧ (j = 7 ∨ j = 8)) μ μ1 := by
  intro m
  induction m with
  | zero =>
    intro f e μ he hf hbe hd hx ho hr h5 h7 h8
    obtain ⟨f, rfl⟩ : ∃ g, f = g + 1 := ⟨f - 1, by omega⟩
    have hl : I.length ≤ 1100 := hx.1
    refine ⟨μ, ?_, h7, h8, Fm.rf⟩
    rw [sh_X4_advance_127, h7, if_pos (by rw [jv_le] <;> omega)]
  | succ m ih =>
    intro f e μ he hf hbe hd hx ho hr h5 h7 h8
    obtain ⟨f, rfl⟩ : ∃ g, f = g + 1 := ⟨f - 1, by omega⟩
    have hl : I.length ≤ 1100 := hx.1
    have hkb := kd_b (gi I e)
    have hg := ho e (by omega)
    rw [sh_X4_advance_127, h7, if_neg (by rw [jv_le] <;> omega), hr, hx.g (by omega), Option.bind_some, kdC hg, Option.bind_some, h5, ruF]
    by_cases z : kd (gi I e) = k
    · have step : ∀ w : Int, w = (if k = 2 then vlF 100000 I b (e + 1 - b) else 0) → ∃ μ1, sh_X4_advance_196 n (fun (x1 : Int32) (μ : Mm) => sh_X4_advance_127 n f x1 μ) (jv I.length) (jv w) μ = some μ1 ∧ μ1.1 5 7 = jv (ruF I k m (e + 1)) ∧ μ1.1 5 8 = jv (if k = 2 then vlF 100000 I b (ruF I k m (e + 1) - b) else 0) ∧ Fm (fun k j => k = 5 ∧ (j = 7 ∨ j = 8)) μ μ1 := by
        intro w hw
        have f0 : Fm (fun k j => k = 5 ∧ (j = 7 ∨ j = 8)) μ (sI (sI μ 5 8 (jv w)) 5 7 (jv ((e + 1 : Nat) : Int))) := (Fm.rf.sI (by omega)).sI (by omega)
        obtain ⟨μ1, e1, a1, a2, a3⟩ := ih f (e + 1) _ (by omega) (by omega) (by omega) (fun j x y => by
          by_cases v : j = e
          · rw [v]; exact z
          · exact hd j x (by omega)) (hx.kp f0 (by omega) (fun j => by omega)) ho (by rw [f0.1]; exact hr) (by rw [f0.at _ _ (by omega)]; exact h5) (by rw [sI_1, if_pos ⟨rfl, rfl⟩]) (by rw [sI_1, if_neg (by omega), sI_1, if_pos ⟨rfl, rfl⟩, hw])
        refine ⟨μ1, ?_, a1, a2, f0.tr a3 (fun _ _ y => y)⟩
        unfold sh_X4_advance_196
        rw [pt_eq, Option.bind_some, pt_eq, Option.bind_some, sI_1, if_neg (by omega), h7, jv_lit (nat_lit 1), jv_add, show (e : Int) + 1 = ((e + 1 : Nat) : Int) by omega]
        exact e1
      rw [if_pos (by rw [z]), if_pos z, jv_lit (nat_lit 2)]
      by_cases y : k = 2
      · have h48 := kd_2 (z.trans y)
        have hvb := vlF_b (I := I) (M := 100000) (b := b) (m := e - b) (by omega) (fun j hj => kd_2 ((hd (b + j) (by omega) (by omega)).trans y)) (e - b) (Nat.le_refl _)
        rw [if_pos y] at h8
        rw [if_pos (by rw [y]), h8]
        simp only [jv_lit]
        rw [Option.bind_some, jv_mul, jv_add, jv_sub]
        have ew : (if jv 100000 < jv (vlF 100000 I b (e - b) * 10 + gi I e - 48) then jv 100000 else jv (vlF 100000 I b (e - b) * 10 + gi I e - 48)) = jv (vlF 100000 I b (e + 1 - b)) := by
          have ev : vlF 100000 I b (e + 1 - b) = if 10 * vlF 100000 I b (e - b) + gi I e - 48 < 100000 then 10 * vlF 100000 I b (e - b) + gi I e - 48 else 100000 := by
            rw [show e + 1 - b = (e - b) + 1 by omega, vlF, show b + (e - b) = e by omega]
          rw [ev]
          by_cases w : 100000 < vlF 100000 I b (e - b) * 10 + gi I e - 48
          · rw [if_pos (by rw [jv_lt] <;> omega), if_neg (by omega)]
          · rw [if_neg (by rw [jv_lt] <;> omega)]
            split
            · congr 1; omega
            · congr 1; omega
        rw [ew]
        exact step _ (by rw [if_pos y])
      · rw [if_neg (by rw [jv_eq] <;> omega), jv0]
        exact step 0 (by rw [if_neg y])
    · rw [if_neg (by rw [jv_eq] <;> omega), if_neg z]
      exact ⟨μ, rfl, h7, h8, Fm.rf⟩
theorem advC (hn : 1200 ≤ n) {μ : Mm} (hx : Tx 1 μ I) (ho : okI I) (hr : μ.2.2 1 = 1) (hp : p ≤ I.length) (h7 : μ.1 5 7 = jv p) : ∃ μ1, sh_X4_advance n μ = some μ1 ∧ TC μ1 I p ∧ Fm PA μ μ1 := by
  have hl : I.length ≤ 1100 := hx.1
  have f0 : Fm PA μ (sI μ 5 6 (jv p)) := Fm.rf.sI (by omega)
  obtain ⟨μ1, e1, a1, f1⟩ := ad8 (n := n) (μ0 := μ) (I.length - p) n p (sI μ 5 6 (jv p)) (by omega) (by omega) (hx.kp f0 (by omega) (fun j => by omega)) ho (by rw [f0.1]; exact hr) (by rw [sI_1, if_pos ⟨rfl, rfl⟩])
  have F1 := f0.tr f1 (fun _ _ y => y)
  have hx1 := hx.kp F1 (by omega) (fun j => by omega)
  have hr1 : μ1.2.2 1 = 1 := by rw [F1.1]; exact hr
  have a1' : μ1.1 5 6 = jv (tb I p) := a1
  obtain ⟨b1, b2, b3⟩ := tb_b hp
  obtain ⟨c1, c2, c3, c4, c5, c6⟩ := te_b hp
  -- the kind
  have e2 : sh_X4_advance_53 n μ1 = sh_X4_advance_86 n (jv (tk I p)) μ1 := by
    unfold sh_X4_advance_53 sh_X8_length
    rw [hr1, Option.bind_some, hx1.2.1, a1']
    unfold tk
    by_cases z : tb I p < I.length
    · rw [if_neg (by rw [jv_le] <;> omega), if_pos z, hx1.g z, Option.bind_some, kdC (ho _ z), Option.bind_some]
    · rw [if_pos (by rw [jv_le] <;> omega), if_neg z]
      rfl
  have f2 : Fm PA μ1 (sI μ1 5 5 (jv (tk I p))) := Fm.rf.sI (by omega)
  have a2 : (sI μ1 5 5 (jv (tk I p))).1 5 6 = jv (tb I p) := by rw [sI_1, if_neg (by omega), a1']
  have a5 : (sI μ1 5 5 (jv (tk I p))).1 5 5 = jv (tk I p) := by rw [sI_1, if_pos ⟨rfl, rfl⟩]
  have hx2 := hx1.kp f2 (by omega) (fun j => by omega)
  have hr2 : (sI μ1 5 5 (jv (tk I p))).2.2 1 = 1 := by rw [f2.1]; exact hr1
  have e3 : sh_X4_advance_86 n (jv (tk I p)) μ1 = sh_X4_advance_113 n (if tk I p = 3 then jv ((tb I p + 1 : Nat) : Int) else jv I.length) (sI μ1 5 5 (jv (tk I p))) := by
    have hk : 0 ≤ tk I p ∧ tk I p ≤ 3 := by rcases tk_b hp with h | h <;> omega
    unfold sh_X4_advance_86 sh_X8_length
    rw [pt_eq, Option.bind_some, a5, hr2, Option.bind_some, hx2.2.1, a2, jv_lit (nat_lit 3), jv_lit (nat_lit 1), jv_add]
    by_cases z : tk I p = 3
    · rw [if_pos (by rw [z]), if_pos z]
      rfl
    · rw [if_neg (by rw [jv_eq] <;> omega), if_neg z]
  generalize hμ2 : (sI μ1 5 5 (jv (tk I p))) = μ2 at *
  have F2 := F1.tr f2 (fun _ _ y => y)
  have f3 : Fm PA μ2 (sI (sI μ2 5 7 (jv (tb I p))) 5 8 (jv 0)) := (Fm.rf.sI (by omega)).sI (by omega)
  have e4 : ∀ v, sh_X4_advance_113 n v μ2 = sh_X4_advance_127 n n v (sI (sI μ2 5 7 (jv (tb I p))) 5 8 (jv 0)) := by
    intro v
    unfold sh_X4_advance_113
    rw [a2, pt_eq, Option.bind_some, jv0, pt_eq, Option.bind_some]
  have d5 : (sI (sI μ2 5 7 (jv (tb I p))) 5 8 (jv 0)).1 5 5 = jv (tk I p) := by rw [sI_1, if_neg (by omega), sI_1, if_neg (by omega), a5]
  have d6 : (sI (sI μ2 5 7 (jv (tb I p))) 5 8 (jv 0)).1 5 6 = jv (tb I p) := by rw [sI_1, if_neg (by omega), sI_1, if_neg (by omega), a2]
  have d7 : (sI (sI μ2 5 7 (jv (tb I p))) 5 8 (jv 0)).1 5 7 = jv (tb I p) := by rw [sI_1, if_neg (by omega), sI_1, if_pos ⟨rfl, rfl⟩]
  have d8 : (sI (sI μ2 5 7 (jv (tb I p))) 5 8 (jv 0)).1 5 8 = jv 0 := by rw [sI_1, if_pos ⟨rfl, rfl⟩]
  have hx3 := hx2.kp f3 (by omega) (fun j => by omega)
  have hr3 : (sI (sI μ2 5 7 (jv (tb I p))) 5 8 (jv 0)).2.2 1 = 1 := by rw [f3.1]; exact hr2
  generalize hμ3 : (sI (sI μ2 5 7 (jv (tb I p))) 5 8 (jv 0)) = μ3 at *
  have F3 := F2.tr f3 (fun _ _ y => y)
  have hgo : ∃ μ4, sh_X4_advance_127 n n (if tk I p = 3 then jv ((tb I p + 1 : Nat) : Int) else jv I.length) μ3 = some μ4 ∧ μ4.1 5 7 = jv (te I p) ∧ μ4.1 5 8 = jv (tvC I p) ∧ Fm (fun k j => k = 5 ∧ (j = 7 ∨ j = 8)) μ3 μ4 := by
    rcases tk_b hp with ⟨z, y⟩ | ⟨z, y, x⟩
    · obtain ⟨g, rfl⟩ : ∃ g, n = g + 1 := ⟨n - 1, by omega⟩
      refine ⟨μ3, ?_, by rw [c3 z]; exact d7, by unfold tvC; rw [if_neg (by omega)]; exact d8, Fm.rf⟩
      rw [if_neg (by omega), sh_X4_advance_127, d7, if_pos (by rw [jv_le] <;> omega)]
    · by_cases w : tk I p = 3
      · obtain ⟨g, rfl⟩ : ∃ g, n = g + 2 := ⟨n - 2, by omega⟩
        have f4 : Fm (fun k j => k = 5 ∧ (j = 7 ∨ j = 8)) μ3 (sI (sI μ3 5 8 (jv 0)) 5 7 (jv ((tb I p + 1 : Nat) : Int))) := (Fm.rf.sI (by omega)).sI (by omega)
        refine ⟨_, ?_, ?_, ?_, f4⟩
        · rw [if_pos w, sh_X4_advance_127, d7, if_neg (by rw [jv_le] <;> omega), hr3, hx3.g y, Option.bind_some, kdC (ho _ y), Option.bind_some, d5, x, if_pos rfl, w, if_neg (show ¬ jv 3 = (2 : Int32) by decide)]
          unfold sh_X4_advance_196
          rw [jv0, pt_eq, Option.bind_some, pt_eq, Option.bind_some, sI_1, if_neg (by omega), d7, jv_lit (nat_lit 1), jv_add, show ((tb I p : Nat) : Int) + 1 = ((tb I p + 1 : Nat) : Int) by omega]
          show sh_X4_advance_127 (g + 2) (g + 1) (jv ((tb I p + 1 : Nat) : Int)) _ = _
          have e7 : (sI (sI μ3 5 8 (jv 0)) 5 7 (jv ((tb I p + 1 : Nat) : Int))).1 5 7 = jv ((tb I p + 1 : Nat) : Int) := by rw [sI_1, if_pos ⟨rfl, rfl⟩]
          rw [sh_X4_advance_127, e7, if_pos (Int32.le_refl _)]
        · rw [sI_1, if_pos ⟨rfl, rfl⟩, c5 w]
        · unfold tvC
          rw [if_neg (by omega), sI_1, if_neg (by omega), sI_1, if_pos ⟨rfl, rfl⟩]
      · have hk12 : tk I p = 1 ∨ tk I p = 2 := by omega
        have ete : te I p = ruF I (tk I p) (I.length - tb I p) (tb I p) := by unfold te; rw [if_neg (by omega), if_neg w]
        obtain ⟨μ4, e5, g1, g2, g3⟩ := ad127 (n := n) (I := I) (b := tb I p) hk12 (I.length - tb I p) n (tb I p) μ3 (by omega) (by omega) (Nat.le_refl _) (fun j a b => by omega) hx3 ho hr3 d5 d7 (by
          rw [Nat.sub_self, d8]
          split <;> rfl)
        refine ⟨μ4, by rw [if_neg w]; exact e5, by rw [ete]; exact g1, ?_, g3⟩
        unfold tvC
        rw [ete]
        exact g2
  obtain ⟨μ4, e5, g1, g2, g3⟩ := hgo
  refine ⟨μ4, ?_, ⟨⟨hx3.kp g3 (by omega) (fun j => by omega), ho, by rw [g3.1]; exact hr3, hp⟩, by rw [g3.at _ _ (by omega)]; exact d5, by rw [g3.at _ _ (by omega)]; exact d6, g1, g2⟩, F3.tr g3 (fun k j y => by omega)⟩
  unfold sh_X4_advance
  rw [h7, pt_eq, Option.bind_some, e1, e2, e3, e4, e5]
/-- from a token to the next -/
theorem TC.nx (hn : 1200 ≤ n) {μ : Mm} (h : TC μ I p) : ∃ μ1, sh_X4_advance n μ = some μ1 ∧ TC μ1 I (te I p) ∧ Fm PA μ μ1 := advC hn h.1.1 h.1.2.1 h.1.2.2.1 (te_b h.1.2.2.2).2.1 h.2.2.2.1
theorem TC.kp {μ μ' : Mm} {P : Nat → Nat → Prop} (h : TC μ I p) (hf : Fm P μ μ') (hp : ∀ k j, P k j → ¬ (k = 1 ∨ k = 2) ∧ ¬ PA k j) : TC μ' I p := ⟨⟨h.1.1.kp hf (fun y => (hp _ _ y).1 (by omega)) (fun j y => (hp _ _ y).1 (by omega)), h.1.2.1, by rw [hf.1]; exact h.1.2.2.1, h.1.2.2.2⟩, by rw [hf.at _ _ (fun y => (hp _ _ y).2 (by omega))]; exact h.2.1, by rw [hf.at _ _ (fun y => (hp _ _ y).2 (by omega))]; exact h.2.2.1, by rw [hf.at _ _ (fun y => (hp _ _ y).2 (by omega))]; exact h.2.2.2.1, by rw [hf.at _ _ (fun y => (hp _ _ y).2 (by omega))]; exact h.2.2.2.2⟩
/-! the model reads on -/
def ubt (c : Int) : Int := if c < 0 then c + 256 else c
theorem u255 : ∀ k : Nat, k < 256 → (jv ((k : Int) - 128) &&& (255 : Int32)) = jv (ubt ((k : Int) - 128)) := by decide +kernel
/-- the model's text -/
def IM (μ : Mm) (I : List Int) : Prop := I.length ≤ 1100 ∧ okI I ∧ μ.1 306 6 = jv I.length ∧ ∀ i, i < I.length → μ.1 309 i = jv (gi I i)
theorem baM {μ : Mm} (h : IM μ I) {i : Nat} (hi : i ≤ 1101) : sh_X12_byteAt (jv i) μ = some (jv (if i < I.length then ubt (gi I i) else -1)) := by
  have l1 : ln 309 = 1100 := rfl
  have hl := h.1
  unfold sh_X12_byteAt
  rw [h.2.2.1]
  by_cases z : i < I.length
  · have hg := h.2.1 i z
    have := u255 (gi I i + 128).toNat (by omega)
    rw [show (((gi I i + 128).toNat : Nat) : Int) - 128 = gi I i by omega] at this
    rw [if_neg (by rw [jv_le] <;> omega), ld_jv (by omega) (by omega), Option.bind_some, Int.toNat_natCast, h.2.2.2 i z, this, if_pos z]
  · rw [if_pos (by rw [jv_le] <;> omega), if_neg z, ng1]
theorem ubt_b {c : Int} (h : -128 ≤ c ∧ c ≤ 127) : 0 ≤ ubt c ∧ ubt c ≤ 255 ∧ (kd c = 1 ↔ 97 ≤ ubt c ∧ ubt c ≤ 122) ∧ (kd c = 2 ↔ 48 ≤ ubt c ∧ ubt c ≤ 57) ∧ (kd c = 4 ↔ ubt c = 32 ∨ ubt c = 10) ∧ (0 ≤ c → ubt c = c) ∧ (ubt c = 59 ↔ c = 59) := by
  unfold ubt kd
  repeat' split
  all_goals omega
abbrev PSc : Nat → Nat → Prop := fun k j => k = 306 ∧ 7 ≤ j ∧ j ≤ 10
/-- the model at a token -/
def TM (μ : Mm) (I : List Int) (p : Nat) : Prop := (IM μ I ∧ p ≤ I.length) ∧ μ.1 306 9 = jv (tk I p) ∧ μ.1 306 8 = jv (tb I p) ∧ μ.1 306 7 = jv (te I p) ∧ (tk I p = 2 → μ.1 306 10 = jv (tvM I p)) ∧ (tk I p = 3 → μ.1 306 10 = jv (ubt (gi I (tb I p))))
theorem IM.kp {μ μ' : Mm} {P : Nat → Nat → Prop} (h : IM μ I) (hf : Fm P μ μ') (h1 : ¬ P 306 6) (h2 : ∀ j, ¬ P 309 j) : IM μ' I := ⟨h.1, h.2.1, by rw [hf.at _ _ h1]; exact h.2.2.1, fun i hi => by rw [hf.at _ _ (h2 i)]; exact h.2.2.2 i hi⟩
theorem TM.kp {μ μ' : Mm} {P : Nat → Nat → Prop} (h : TM μ I p) (hf : Fm P μ μ') (hp : ∀ k j, P k j → k ≠ 309 ∧ ¬ (k = 306 ∧ 6 ≤ j ∧ j ≤ 10)) : TM μ' I p := ⟨⟨h.1.1.kp hf (fun y => (hp _ _ y).2 (by omega)) (fun j y => (hp _ _ y).1 rfl), h.1.2⟩, by rw [hf.at _ _ (fun y => (hp _ _ y).2 (by omega))]; exact h.2.1, by rw [hf.at _ _ (fun y => (hp _ _ y).2 (by omega))]; exact h.2.2.1, by rw [hf.at _ _ (fun y => (hp _ _ y).2 (by omega))]; exact h.2.2.2.1, fun q => by rw [hf.at _ _ (fun y => (hp _ _ y).2 (by omega))]; exact h.2.2.2.2.1 q, fun q => by rw [hf.at _ _ (fun y => (hp _ _ y).2 (by omega))]; exact h.2.2.2.2.2 q⟩
theorem li48 : (48 : Int64) = (jv 48).toInt64 := by decide
theorem li57 : (57 : Int64) = (jv 57).toInt64 := by decide
theorem li97 : (97 : Int64) = (jv 97).toInt64 := by decide
theorem li122 : (122 : Int64) = (jv 122).toInt64 := by decide
theorem sc83 : ∀ (m f e : Nat) (μ : Mm), e + m = I.length → m < f → IM μ I → μ.1 306 7 = jv e → ∃ μ1, sh_X12_scan_83 n f μ = some μ1 ∧ μ1.1 306 7 = jv (ruF I 1 m e) ∧ μ1.1 306 9 = jv 1 ∧ Fm (fun k j => k = 306 ∧ (j = 7 ∨ j = 9)) μ μ1 := by
  intro m
  induction m with
  | zero =>
    intro f e μ he hf hx h7
    obtain ⟨f, rfl⟩ : ∃ g, f = g + 1 := ⟨f - 1, by omega⟩
    have hl := hx.1
    rw [sh_X12_scan_83, h7, baM hx (by omega), Option.bind_some, if_neg (by omega), li97, li122, in_b (by unfold i32; omega) (by unfold i32; omega) (by unfold i32; omega), Option.bind_some, if_neg (show ¬ ((97 : Int) ≤ -1 ∧ (-1 : Int) ≤ 122) by omega), if_pos zro, pt_eq, Option.bind_some, jv_lit (nat_lit 1)]
    exact ⟨_, rfl, by rw [sI_1, if_neg (by omega), h7]; rfl, by rw [sI_1, if_pos ⟨rfl, rfl⟩], Fm.rf.sI (by omega)⟩
  | succ m ih =>
    intro f e μ he hf hx h7
    obtain ⟨f, rfl⟩ : ∃ g, f = g + 1 := ⟨f - 1, by omega⟩
    have hl := hx.1
    obtain ⟨u1, u2, u3, _⟩ := ubt_b (hx.2.1 e (by omega))
    rw [sh_X12_scan_83, h7, baM hx (by omega), Option.bind_some, if_pos (by omega), li97, li122, in_b (by unfold i32; omega) (by unfold i32; omega) (by unfold i32; omega), Option.bind_some, ruF, jv_lit (nat_lit 1), jv_add, show (e : Int) + 1 = ((e + 1 : Nat) : Int) by omega]
    by_cases z : kd (gi I e) = 1
    · rw [if_pos (u3.mp z), if_neg one_ne, if_pos z, pt_eq, Option.bind_some]
      have f0 : Fm (fun k j => k = 306 ∧ (j = 7 ∨ j = 9)) μ (sI μ 306 7 (jv ((e + 1 : Nat) : Int))) := Fm.rf.sI (by omega)
      obtain ⟨μ1, e1, a1, a2, a3⟩ := ih f (e + 1) _ (by omega) (by omega) (hx.kp f0 (by omega) (fun j => by omega)) (by rw [sI_1, if_pos ⟨rfl, rfl⟩])
      exact ⟨μ1, e1, a1, a2, f0.tr a3 (fun _ _ y => y)⟩
    · rw [if_neg (fun q => z (u3.mpr q)), if_pos zro, if_neg z, pt_eq, Option.bind_some]
      exact ⟨_, rfl, by rw [sI_1, if_neg (by omega), h7], by rw [sI_1, if_pos ⟨rfl, rfl⟩], Fm.rf.sI (by omega)⟩
theorem sc144 {b : Nat} : ∀ (m f e : Nat) (μ : Mm), e + m = I.length → m < f → b ≤ e → (∀ j, b ≤ j → j < e → kd (gi I j) = 2) → IM μ I → μ.1 306 7 = jv e → μ.1 306 10 = jv (vlF 99999 I b (e - b)) → ∃ μ1, sh_X12_scan_144 n f μ = some μ1 ∧ μ1.1 306 7 = jv (ruF I 2 m e) ∧ μ1.1 306 9 = jv 2 ∧ μ1.1 306 10 = jv (vlF 99999 I b (ruF I 2 m e - b)) ∧ Fm (fun k j => k = 306 ∧ (j = 7 ∨ j = 9 ∨ j = 10)) μ μ1 := by
  intro m
  induction m with
  | zero =>
    intro f e μ he hf hbe hd hx h7 h10
    obtain ⟨f, rfl⟩ : ∃ g, f = g + 1 := ⟨f - 1, by omega⟩
    have hl := hx.1
    rw [sh_X12_scan_144, h7, baM hx (by omega), Option.bind_some, if_neg (by omega), li48, li57, in_b (by unfold i32; omega) (by unfold i32; omega) (by unfold i32; omega), Option.bind_some, if_neg (show ¬ ((48 : Int) ≤ -1 ∧ (-1 : Int) ≤ 57) by omega), if_pos zro, pt_eq, Option.bind_some, jv_lit (nat_lit 2)]
    exact ⟨_, rfl, by rw [sI_1, if_neg (by omega), h7]; rfl, by rw [sI_1, if_pos ⟨rfl, rfl⟩], by rw [sI_1, if_neg (by omega), h10]; rfl, Fm.rf.sI (by omega)⟩
  | succ m ih =>
    intro f e μ he hf hbe hd hx h7 h10
    obtain ⟨f, rfl⟩ : ∃ g, f = g + 1 := ⟨f - 1, by omega⟩
    have hl := hx.1
    obtain ⟨u1, u2, _, u3, _, u4, _⟩ := ubt_b (hx.2.1 e (by omega))
    rw [sh_X12_scan_144, h7, baM hx (by omega), Option.bind_some, if_pos (by omega), li48, li57, in_b (by unfold i32; omega) (by unfold i32; omega) (by unfold i32; omega), Option.bind_some, ruF]
    simp only [jv_lit]
    by_cases z : kd (gi I e) = 2
    · have h48 := kd_2 z
      have hvb := vlF_b (I := I) (M := 99999) (b := b) (m := e - b) (by omega) (fun j hj => kd_2 (hd (b + j) (by omega) (by omega))) (e - b) (Nat.le_refl _)
      rw [if_pos (u3.mp z), if_neg (show ¬ jv 1 = jv 0 by decide), if_pos z, Option.bind_some, h10, jv_mul, jv_add, jv_sub, pt_eq, Option.bind_some, u4 (by omega)]
      have ew : (if jv (10 * vlF 99999 I b (e - b) + gi I e - 48) < jv 99999 then jv (10 * vlF 99999 I b (e - b) + gi I e - 48) else jv 99999) = jv (vlF 99999 I b (e + 1 - b)) := by
        rw [show e + 1 - b = (e - b) + 1 by omega, vlF, show b + (e - b) = e by omega]
        by_cases w : 10 * vlF 99999 I b (e - b) + gi I e - 48 < 99999
        · rw [if_pos (by rw [jv_lt] <;> omega), if_pos w]
        · rw [if_neg (by rw [jv_lt] <;> omega), if_neg w]
      rw [ew, pt_eq, Option.bind_some, sI_1, if_neg (by omega), h7, jv_add, show (e : Int) + 1 = ((e + 1 : Nat) : Int) by omega]
      have f0 : Fm (fun k j => k = 306 ∧ (j = 7 ∨ j = 9 ∨ j = 10)) μ (sI (sI μ 306 10 (jv (vlF 99999 I b (e + 1 - b)))) 306 7 (jv ((e + 1 : Nat) : Int))) := (Fm.rf.sI (by omega)).sI (by omega)
      obtain ⟨μ1, e1, a1, a2, a3, a4⟩ := ih f (e + 1) _ (by omega) (by omega) (by omega) (fun j x y => by
        by_cases v : j = e
        · rw [v]; exact z
        · exact hd j x (by omega)) (hx.kp f0 (by omega) (fun j => by omega)) (by rw [sI_1, if_pos ⟨rfl, rfl⟩]) (by rw [sI_1, if_neg (by omega), sI_1, if_pos ⟨rfl, rfl⟩])
      exact ⟨μ1, e1, a1, a2, a3, f0.tr a4 (fun _ _ y => y)⟩
    · rw [if_neg (fun q => z (u3.mpr q)), if_pos (show jv 0 = jv 0 from rfl), if_neg z, pt_eq, Option.bind_some]
      exact ⟨_, rfl, by rw [sI_1, if_neg (by omega), h7], by rw [sI_1, if_pos ⟨rfl, rfl⟩], by rw [sI_1, if_neg (by omega), h10], Fm.rf.sI (by omega)⟩
theorem sc0 (hn : 1200 ≤ n) : ∀ (m f i : Nat) (μ : Mm), i + m = I.length → m < f → tb I p = skF I m i → IM μ I → p ≤ I.length → μ.1 306 7 = jv i → ∃ μ1, sh_X12_scan_0 n f μ = some μ1 ∧ TM μ1 I p ∧ Fm PSc μ μ1 := by
  -- where no blank stands
  have here : ∀ (f i : Nat) (μ : Mm), i ≤ I.length → tb I p = i → IM μ I → p ≤ I.length → μ.1 306 7 = jv i → ∃ μ1, sh_X12_scan_0 n (f + 1) μ = some μ1 ∧ TM μ1 I p ∧ Fm PSc μ μ1 := by
    intro f i μ hi hb hx hp h7
    have hl := hx.1
    obtain ⟨b1, b2, b3⟩ := tb_b hp
    obtain ⟨c1, c2, c3, c4, c5, c6⟩ := te_b hp
    obtain ⟨ν, hν⟩ : ∃ ν, ν = sI μ 306 8 (jv i) := ⟨_, rfl⟩
    have f4 : Fm PSc μ ν := by rw [hν]; exact Fm.rf.sI (by omega)
    have hx4 := hx.kp f4 (by omega) (fun j => by omega)
    have h74 : ν.1 306 7 = jv i := by rw [hν, sI_1, if_neg (by omega), h7]
    have h84 : ν.1 306 8 = jv i := by rw [hν, sI_1, if_pos ⟨rfl, rfl⟩]
    rw [sh_X12_scan_0, h7, baM hx (by omega), Option.bind_some]
    simp only [jv_lit]
    rcases tk_b hp with ⟨z, y⟩ | ⟨z, y, x⟩
    · rw [if_neg (show ¬ i < I.length by omega), if_neg (show ¬ jv (-1) = jv 32 by decide), Option.bind_some, if_neg (show ¬ jv (-1) = jv 10 by decide), pt_eq, Option.bind_some, ← hν, h74, baM hx4 (by omega), Option.bind_some, if_neg (show ¬ i < I.length by omega), jv_neg, if_pos rfl, pt_eq, Option.bind_some]
      have f5 : Fm PSc ν (sI ν 306 9 (jv 0)) := Fm.rf.sI (by omega)
      exact ⟨_, rfl, ⟨⟨hx4.kp f5 (by omega) (fun j => by omega), hp⟩, by rw [sI_1, if_pos ⟨rfl, rfl⟩, z], by rw [sI_1, if_neg (by omega), h84, hb], by rw [sI_1, if_neg (by omega), h74, c3 z, hb], fun q => by omega, fun q => by omega⟩, f4.tr f5 (fun _ _ y => y)⟩
    · have hgi := hx.2.1 i (by omega)
      obtain ⟨u1, u2, u3, u5, u6, u4, _⟩ := ubt_b hgi
      have h4 := b3 y
      rw [hb] at h4 x y
      have n32 : ¬ ubt (gi I i) = 32 := fun q => h4 (u6.mpr (Or.inl q))
      have n10 : ¬ ubt (gi I i) = 10 := fun q => h4 (u6.mpr (Or.inr q))
      rw [if_pos (show i < I.length by omega), if_neg (by rw [jv_eq] <;> omega), Option.bind_some, if_neg (by rw [jv_eq] <;> omega), pt_eq, Option.bind_some, ← hν, h74, baM hx4 (by omega), Option.bind_some, if_pos (show i < I.length by omega), jv_neg, if_neg (by rw [jv_eq] <;> omega), li97, li122, in_b (by unfold i32; omega) (by unfold i32; omega) (by unfold i32; omega), Option.bind_some]
      rcases z with z | z | z
      · rw [if_pos (u3.mp (x.trans z)), if_neg (show ¬ jv 1 = jv 0 by decide)]
        have ete : te I p = ruF I 1 (I.length - i) i := by unfold te; rw [if_neg (by omega), if_neg (by omega), z, hb]
        obtain ⟨μ1, e1, a1, a2, a3⟩ := sc83 (n := n) (I := I) (I.length - i) n i ν (by omega) (by omega) hx4 h74
        exact ⟨μ1, e1, ⟨⟨hx4.kp a3 (by omega) (fun j => by omega), hp⟩, by rw [a2, z], by rw [a3.at _ _ (by omega), h84, hb], by rw [a1, ete], fun q => by omega, fun q => by omega⟩, f4.tr a3 (fun k j y => by omega)⟩
      · rw [if_neg (show ¬ (97 ≤ ubt (gi I i) ∧ ubt (gi I i) ≤ 122) from fun q => by have := u3.mpr q; omega), if_pos (show jv 0 = jv 0 from rfl), li48, li57, in_b (by unfold i32; omega) (by unfold i32; omega) (by unfold i32; omega), Option.bind_some, if_pos (u5.mp (x.trans z)), if_neg (show ¬ jv 1 = jv 0 by decide), pt_eq, Option.bind_some]
        have ete : te I p = ruF I 2 (I.length - i) i := by unfold te; rw [if_neg (by omega), if_neg (by omega), z, hb]
        have f5 : Fm PSc ν (sI ν 306 10 (jv 0)) := Fm.rf.sI (by omega)
        obtain ⟨μ1, e1, a1, a2, a4, a3⟩ := sc144 (n := n) (I := I) (b := i) (I.length - i) n i (sI ν 306 10 (jv 0)) (by omega) (by omega) (Nat.le_refl _) (fun j a b => by omega) (hx4.kp f5 (by omega) (fun j => by omega)) (by rw [sI_1, if_neg (by omega), h74]) (by rw [sI_1, if_pos ⟨rfl, rfl⟩, Nat.sub_self]; rfl)
        refine ⟨μ1, e1, ⟨⟨(hx4.kp f5 (by omega) (fun j => by omega)).kp a3 (by omega) (fun j => by omega), hp⟩, by rw [a2, z], by rw [a3.at _ _ (by omega), sI_1, if_neg (by omega), h84, hb], by rw [a1, ete], fun _ => ?_, fun q => by omega⟩, (f4.tr f5 (fun _ _ y => y)).tr a3 (fun k j y => by omega)⟩
        rw [a4]
        unfold tvM
        rw [ete, hb]
      · rw [if_neg (show ¬ (97 ≤ ubt (gi I i) ∧ ubt (gi I i) ≤ 122) from fun q => by have := u3.mpr q; omega), if_pos (show jv 0 = jv 0 from rfl), li48, li57, in_b (by unfold i32; omega) (by unfold i32; omega) (by unfold i32; omega), Option.bind_some, if_neg (show ¬ (48 ≤ ubt (gi I i) ∧ ubt (gi I i) ≤ 57) from fun q => by have := u5.mpr q; omega), if_pos (show jv 0 = jv 0 from rfl), pt_eq, Option.bind_some, pt_eq, Option.bind_some, pt_eq, Option.bind_some]
        have e7 : (sI (sI ν 306 9 (jv 3)) 306 10 (jv (ubt (gi I i)))).1 306 7 = jv i := by rw [sI_1, if_neg (by omega), sI_1, if_neg (by omega), h74]
        rw [e7, jv_add, show (i : Int) + 1 = ((i + 1 : Nat) : Int) by omega]
        have f5 : Fm PSc ν (sI (sI (sI ν 306 9 (jv 3)) 306 10 (jv (ubt (gi I i)))) 306 7 (jv ((i + 1 : Nat) : Int))) := ((Fm.rf.sI (by omega)).sI (by omega)).sI (by omega)
        refine ⟨_, rfl, ⟨⟨hx4.kp f5 (by omega) (fun j => by omega), hp⟩, ?_, ?_, by rw [sI_1, if_pos ⟨rfl, rfl⟩, c5 z, hb], fun q => by omega, fun _ => ?_⟩, f4.tr f5 (fun _ _ y => y)⟩
        · rw [sI_1, if_neg (by omega), sI_1, if_neg (by omega), sI_1, if_pos ⟨rfl, rfl⟩, z]
        · rw [sI_1, if_neg (by omega), sI_1, if_neg (by omega), sI_1, if_neg (by omega), h84, hb]
        · rw [sI_1, if_neg (by omega), sI_1, if_pos ⟨rfl, rfl⟩, hb]
  intro m
  induction m with
  | zero =>
    intro f i μ hi hf hb hx hp h7
    obtain ⟨f, rfl⟩ : ∃ g, f = g + 1 := ⟨f - 1, by omega⟩
    exact here f i μ (by omega) hb hx hp h7
  | succ m ih =>
    intro f i μ hi hf hb hx hp h7
    obtain ⟨f, rfl⟩ : ∃ g, f = g + 1 := ⟨f - 1, by omega⟩
    rw [skF] at hb
    by_cases z : kd (gi I i) = 4
    · rw [if_pos z] at hb
      have hl := hx.1
      obtain ⟨u1, u2, u3, u5, u6, u4, _⟩ := ubt_b (hx.2.1 i (by omega))
      have f0 : Fm PSc μ (sI μ 306 7 (jv ((i + 1 : Nat) : Int))) := Fm.rf.sI (by omega)
      obtain ⟨μ1, e1, a1, a2⟩ := ih f (i + 1) _ (by omega) (by omega) hb (hx.kp f0 (by omega) (fun j => by omega)) hp (by rw [sI_1, if_pos ⟨rfl, rfl⟩])
      refine ⟨μ1, ?_, a1, f0.tr a2 (fun _ _ y => y)⟩
      rw [sh_X12_scan_0, h7, baM hx (by omega), Option.bind_some, if_pos (show i < I.length by omega)]
      simp only [jv_lit]
      rw [jv_add, show (i : Int) + 1 = ((i + 1 : Nat) : Int) by omega, pt_eq, Option.bind_some]
      by_cases y : ubt (gi I i) = 32
      · rw [if_pos (by rw [y])]
        exact e1
      · have y10 : ubt (gi I i) = 10 := (u6.mp z).resolve_left y
        rw [if_neg (by rw [jv_eq] <;> omega), Option.bind_some, if_pos (by rw [y10])]
        exact e1
    · rw [if_neg z] at hb
      exact here f i μ (by omega) hb hx hp h7
theorem scM (hn : 1200 ≤ n) {μ : Mm} (hx : IM μ I) (hp : p ≤ I.length) (h7 : μ.1 306 7 = jv p) : ∃ μ1, sh_X12_scan n μ = some μ1 ∧ TM μ1 I p ∧ Fm PSc μ μ1 := by
  have hl := hx.1
  exact sc0 (n := n) hn (I.length - p) n p μ (by omega) (by omega) rfl hx hp h7
theorem TM.nx (hn : 1200 ≤ n) {μ : Mm} (h : TM μ I p) : ∃ μ1, sh_X12_scan n μ = some μ1 ∧ TM μ1 I (te I p) ∧ Fm PSc μ μ1 := scM hn h.1.1 (te_b h.1.2).2.1 h.2.2.2.1
end TOK
