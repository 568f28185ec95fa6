/-! COLLISIONS -/
def Rw (q : Nat) (μ : Mm) (B : List Nat) : Prop := ∀ j, j < 32 → μ.1 q j = jv ((B.getD j 0 : Nat) : Int)
def anyb (A B : List Nat) : Nat → Nat → Int
  | 0, _ => 0
  | k + 1, i => if A.getD i 0 = 1 ∧ B.getD i 0 = 1 then 1 else anyb A B k (i + 1)
abbrev PFq (q : Nat) : Nat → Nat → Prop := fun k j => k = 306 ∧ j = 17 ∨ k = 310 ∨ k = q
section CLL
variable {n : Nat} {R : Nat → Int} {N fr : Nat}
theorem Rw.add {q : Nat} {μ : Mm} {B : List Nat} (h : Rw q μ B) (g : Nat) : Rw q (sI μ q B.length (jv g)) (B ++ [g]) := by
  intro j hj
  rw [sI_1]
  by_cases z : j = B.length
  · rw [if_pos ⟨rfl, z⟩, z, List.getD_eq_getElem?_getD, List.getElem?_append_right (Nat.le_refl _)]
    simp
  · rw [if_neg (fun y => z y.2), h j hj]
    congr 2
    rw [List.getD_eq_getElem?_getD, List.getD_eq_getElem?_getD]
    by_cases y : j < B.length
    · rw [List.getElem?_append_left y]
    · rw [List.getElem?_append_right (by omega), List.getElem?_eq_none (by omega), List.getElem?_eq_none (by show 1 ≤ j - B.length; omega)]
theorem Rw.kp {q : Nat} {μ μ' : Mm} {B : List Nat} {P : Nat → Nat → Prop} (h : Rw q μ B) (hf : Fm P μ μ') (hp : ∀ j, ¬ P q j) : Rw q μ' B := fun j hj => by rw [hf.at _ _ (hp j), h j hj]
theorem f132 {q : Nat} (hq : q = 325 ∨ q = 326) {s a x5 : Int32} {c : Int} {g w : Nat} (hc : 48 ≤ c ∧ c ≤ 57) (hg : g = 0 ∨ g = 1) (hw : wd c = w) (k47 : Int32 → Int32 → Mm → Option Mm) : ∀ (r f i : Nat) (μ : Mm) (B : List Nat), i + r = w → r < f → Rw q μ B → B.length + r ≤ 32 → ∃ μ1, sh_X12_layFigures_132 n s q a k47 f (jv B.length) x5 (jv c) (jv g) (jv i) μ = k47 (jv ((B ++ List.replicate r g).length)) (x5 + jv (-1)) μ1 ∧ Rw q μ1 (B ++ List.replicate r g) ∧ Fm (fun k _ => k = q) μ μ1 := by
  have l1 : ln q = 32 := by rcases hq with rfl | rfl <;> rfl
  have hw2 := wd_b c
  intro r
  induction r with
  | zero =>
    intro f i μ B hi hf hr hB
    obtain ⟨f, rfl⟩ : ∃ g, f = g + 1 := ⟨f - 1, by omega⟩
    rw [sh_X12_layFigures_132, wo_jv (by omega) (by omega), Option.bind_some, if_pos (by rw [jv_le] <;> omega), List.replicate_zero, List.append_nil]
    exact ⟨μ, rfl, hr, Fm.rf⟩
  | succ r ih =>
    intro f i μ B hi hf hr hB
    obtain ⟨f, rfl⟩ : ∃ g, f = g + 1 := ⟨f - 1, by omega⟩
    have st1 : ∃ μ1, sh_X12_layFigures_132 n s q a k47 f (jv B.length + jv 1) x5 (jv c) (jv g) (jv i + jv 1) (sI μ q B.length (jv g)) = k47 (jv ((B ++ List.replicate (r + 1) g).length)) (x5 + jv (-1)) μ1 ∧ Rw q μ1 (B ++ List.replicate (r + 1) g) ∧ Fm (fun k _ => k = q) μ μ1 := by
      obtain ⟨μ1, e, h1, h2⟩ := ih f (i + 1) (sI μ q B.length (jv g)) (B ++ [g]) (by omega) (by omega) (hr.add g) (by rw [List.length_append]; show B.length + 1 + r ≤ 32; omega)
      have f0 : Fm (fun k _ => k = q) μ (sI μ q B.length (jv g)) := Fm.rf.sI rfl
      refine ⟨μ1, ?_, ?_, f0.tr h2 (fun _ _ y => y)⟩
      · rw [jv_add, jv_add, show (B.length : Int) + 1 = ((B ++ [g]).length : Int) by rw [List.length_append]; rfl, show (i : Int) + 1 = ((i + 1 : Nat) : Int) by omega, e, List.append_assoc]
        rfl
      · rw [List.append_assoc] at h1
        exact h1
    rw [sh_X12_layFigures_132, wo_jv (by omega) (by omega), Option.bind_some, if_neg (by rw [jv_le] <;> omega)]
    simp only [jv_lit]
    rcases hg with rfl | rfl
    · rw [if_pos (show jv ((0 : Nat) : Int) = jv 0 from rfl), st_jv (by omega) (by omega), Option.bind_some, Int.toNat_natCast]
      exact st1
    · rw [if_neg (show ¬ jv ((1 : Nat) : Int) = jv 0 by decide), st_jv (by omega) (by omega), Option.bind_some, Int.toNat_natCast]
      exact st1
theorem Mx.kp {μ μ' : Mm} {L : List Int} {P : Nat → Nat → Prop} (h : Mx μ L) (hf : Fm P μ μ') (h1 : ¬ P 306 17) (h2 : ∀ j, ¬ P 310 j) : Mx μ' L := ⟨h.1, by rw [hf.at _ _ h1, h.2.1], fun i hi => by rw [hf.at _ _ (h2 i), h.2.2 i hi]⟩
theorem f47 {q : Nat} (hn : 4 ≤ n) (hq : q = 325 ∨ q = 326) {s : Int32} {a : Int} (ha : a = 0 ∨ a = 1) : ∀ (cs : List Int) (f : Nat) (B : List Nat) (ps : List Int) (μ : Mm), (∀ c ∈ cs, 48 ≤ c ∧ c ≤ 57) → cs.length < f → cs.length ≤ 8 → Mx μ (cs.reverse ++ ps) → Rw q μ B → B.length + 2 * cs.length ≤ 32 → ∃ μ1, sh_X12_layFigures_47 n s q (jv a) f (jv B.length) (jv ((cs.length : Int) - 1)) μ = some μ1 ∧ Rw q μ1 (B ++ ub a cs) ∧ Fm (fun k _ => k = q) μ μ1 := by
  have l1 : ln 310 = 16000 := rfl
  intro cs
  induction cs with
  | nil =>
    intro f B ps μ hc hf hc8 hx hr hB
    obtain ⟨f, rfl⟩ : ∃ g, f = g + 1 := ⟨f - 1, by omega⟩
    rw [sh_X12_layFigures_47, if_pos (by decide)]
    exact ⟨μ, rfl, by rw [ub, List.append_nil]; exact hr, Fm.rf⟩
  | cons c cs ih =>
    intro f B ps μ hc hf hc8 hx hr hB
    obtain ⟨f, rfl⟩ : ∃ g, f = g + 1 := ⟨f - 1, by omega⟩
    have hcc := hc c List.mem_cons_self
    have hw := wd_d hcc
    rw [List.length_cons] at hf hc8 hB
    have hlen : (cs.reverse ++ (c :: ps)).length = cs.length + 1 + ps.length := by
      rw [List.length_append, List.length_reverse, List.length_cons]
      omega
    have hx2 : Mx μ (cs.reverse ++ (c :: ps)) := by
      rw [List.reverse_cons, List.append_assoc] at hx
      exact hx
    have hxl := hx2.1
    have hv : μ.1 310 cs.length = jv c := by
      rw [hx2.2.2 _ (by omega), List.getD_eq_getElem?_getD, List.getElem?_append_right (by rw [List.length_reverse]; omega), List.length_reverse, Nat.sub_self]
      rfl
    rw [sh_X12_layFigures_47, List.length_cons, show ((cs.length + 1 : Nat) : Int) - 1 = (cs.length : Int) by omega, if_neg (by rw [jv_lit (nat_lit 0), jv_lt] <;> omega), ld_jv (by omega) (by omega), Option.bind_some, Int.toNat_natCast, hv]
    have K : ∀ g : Nat, g = go a c → ∃ μ1, sh_X12_layFigures_132 n s q (jv a) (fun (x4 : Int32) (x5 : Int32) (μ : Mm) => sh_X12_layFigures_47 n s q (jv a) f x4 x5 μ) n (jv B.length) (jv cs.length) (jv c) (jv g) (jv 0) μ = some μ1 ∧ Rw q μ1 (B ++ ub a (c :: cs)) ∧ Fm (fun k _ => k = q) μ μ1 := by
      intro g hg
      have hg2 := go_b a c
      obtain ⟨w, hwn⟩ : ∃ w : Nat, wd c = w := ⟨(wd c).toNat, by omega⟩
      obtain ⟨μ1, e1, r1, f1⟩ := f132 (n := n) hq (s := s) (a := jv a) (x5 := jv cs.length) hcc (g := g) (by omega) hwn (fun (x4 : Int32) (x5 : Int32) (μ : Mm) => sh_X12_layFigures_47 n s q (jv a) f x4 x5 μ) w n 0 μ B (by omega) (by omega) hr (by omega)
      obtain ⟨μ2, e2, r2, f2⟩ := ih f (B ++ List.replicate w g) (c :: ps) μ1 (fun x hx => hc x (List.mem_cons_of_mem _ hx)) (by omega) (by omega) (hx2.kp f1 (by rcases hq with rfl | rfl <;> omega) (fun j => by rcases hq with rfl | rfl <;> omega)) r1 (by rw [List.length_append, List.length_replicate]; omega)
      refine ⟨μ2, ?_, ?_, f1.tr f2 (fun _ _ y => y)⟩
      · have e0 : sh_X12_layFigures_132 n s q (jv a) (fun (x4 : Int32) (x5 : Int32) (μ : Mm) => sh_X12_layFigures_47 n s q (jv a) f x4 x5 μ) n (jv B.length) (jv cs.length) (jv c) (jv g) (jv 0) μ = _ := e1
        rw [e0, jv_add]
        exact e2
      · rw [ub, ← hg, hwn, Int.toNat_natCast, ← List.append_assoc]
        exact r2
    simp only [jv_lit]
    have K0 := K 0
    have K1 := K 1
    have h10 : c = 48 ∨ c = 49 ∨ c = 50 ∨ c = 51 ∨ c = 52 ∨ c = 53 ∨ c = 54 ∨ c = 55 ∨ c = 56 ∨ c = 57 := by omega
    clear K ih hv hx2 hx hcc hw hlen hxl hc
    rcases ha with rfl | rfl <;> rcases h10 with rfl | rfl | rfl | rfl | rfl | rfl | rfl | rfl | rfl | rfl
    · exact K0 rfl
    · exact K0 rfl
    · exact K0 rfl
    · exact K1 rfl
    · exact K1 rfl
    · exact K1 rfl
    · exact K0 rfl
    · exact K1 rfl
    · exact K0 rfl
    · exact K1 rfl
    · exact K0 rfl
    · exact K0 rfl
    · exact K0 rfl
    · exact K0 rfl
    · exact K0 rfl
    · exact K0 rfl
    · exact K1 rfl
    · exact K0 rfl
    · exact K1 rfl
    · exact K0 rfl
theorem f3 {q : Nat} (hn : 30 ≤ n) (hq : q = 325 ∨ q = 326) {s : Nat} (hs : s < 24) {a : Int} (ha : a = 0 ∨ a = 1) {v : Int} (h0 : 0 < v) (h9 : v < 10000) : ∀ (k f i : Nat) (μ : Mm), i + k = 32 → k < f → (∀ j, j < i → μ.1 q j = jv 0) → μ.1 314 s = jv v → ∃ μ1, sh_X12_layFigures_3 n (jv s) q (jv a) f (jv i) μ = some μ1 ∧ Rw q μ1 (ub a (rdg 4 v)) ∧ Fm (PFq q) μ μ1 := by
  have l1 : ln q = 32 := by rcases hq with rfl | rfl <;> rfl
  have l2 : ln 314 = 24 := rfl
  intro k
  induction k with
  | zero =>
    intro f i μ hi hf hz hp
    obtain ⟨f, rfl⟩ : ∃ g, f = g + 1 := ⟨f - 1, by omega⟩
    rw [sh_X12_layFigures_3, if_pos (by rw [jv_lit (nat_lit 32), jv_le] <;> omega)]
    simp only [jv_lit, nm_eq]
    have f0 : Fm (fun k j => k = 306 ∧ j = 17) μ (sI μ 306 17 (jv 0)) := Fm.rf.sI ⟨rfl, rfl⟩
    rw [pt_eq, Option.bind_some, ld_jv (by omega) (by omega), Option.bind_some, Int.toNat_natCast, f0.at _ _ (by rcases hq with rfl | rfl <;> omega), hp]
    obtain ⟨μ1, e, hx, f1⟩ := arM (n := n) (v := v) (by omega) (by omega) h9 (Mx0 (μ := μ)) (by show 0 + 4 ≤ 16000; omega)
    rw [List.nil_append] at hx
    rw [e, Option.bind_some, hx.2.1, jv_sub]
    have hr := rdg_ar h0 h9
    have hx2 : Mx μ1 ((rdg 4 v).reverse ++ []) := by
      rw [← hr, List.reverse_reverse, List.append_nil]
      exact hx
    have hlr : (rdg 4 v).length = (ar v).length := by rw [← hr, List.length_reverse]
    have hl4 := ar_len v
    obtain ⟨μ2, e2, r2, f2⟩ := f47 (n := n) (by omega) hq (s := jv s) ha (rdg 4 v) n [] [] μ1 (rdg_d 4 v) (by omega) (by omega) hx2 (fun j hj => by rw [f1.at _ _ (by rcases hq with rfl | rfl <;> omega), f0.at _ _ (by rcases hq with rfl | rfl <;> omega), hz j (by omega)]; rfl) (by show 0 + 2 * _ ≤ 32; omega)
    rw [hlr] at e2
    exact ⟨μ2, e2, r2, ((f0.mono (fun k j y => (Or.inl y : PFq q k j))).tr f1 (fun k j y => y.elim Or.inl (fun y => Or.inr (Or.inl y)))).tr f2 (fun k j y => Or.inr (Or.inr y))⟩
  | succ k ih =>
    intro f i μ hi hf hz hp
    obtain ⟨f, rfl⟩ : ∃ g, f = g + 1 := ⟨f - 1, by omega⟩
    rw [sh_X12_layFigures_3, if_neg (by rw [jv_lit (nat_lit 32), jv_le] <;> omega)]
    simp only [jv_lit]
    rw [st_jv (by omega) (by omega), Option.bind_some, Int.toNat_natCast, jv_add, show (i : Int) + 1 = ((i + 1 : Nat) : Int) by omega]
    have f0 : Fm (PFq q) μ (sI μ q i (jv 0)) := Fm.rf.sI (Or.inr (Or.inr rfl))
    obtain ⟨μ1, e, r1, f1⟩ := ih f (i + 1) (sI μ q i (jv 0)) (by omega) (by omega) (fun j hj => by
      rw [sI_1]
      by_cases y : j = i
      · rw [if_pos ⟨rfl, y⟩]
      · rw [if_neg (fun w => y w.2), hz j (by omega)]) (by rw [sI_1, if_neg (by rcases hq with rfl | rfl <;> omega), hp])
    exact ⟨μ1, e, r1, f0.tr f1 (fun _ _ y => y)⟩
theorem f115 {A B : List Nat} {x : Int32} {μ : Mm} (hA : ∀ y ∈ A, y ≤ 1) (hB : ∀ y ∈ B, y ≤ 1) (rA : Rw 326 μ A) (rB : Rw 325 μ B) : ∀ (k f i : Nat), i + k = 32 → k < f → sh_X12_collide_115 n x f (jv 1) (jv i) μ = some (jv 1, μ) ∧ sh_X12_collide_115 n x f (jv 0) (jv i) μ = some (jv (anyb A B k i), μ) := by
  have l1 : ln 325 = 32 := rfl
  have l2 : ln 326 = 32 := rfl
  have g1 : ∀ (L : List Nat), (∀ y ∈ L, y ≤ 1) → ∀ j, L.getD j 0 ≤ 1 := by
    intro L h j
    rw [List.getD_eq_getElem?_getD]
    by_cases y : j < L.length
    · rw [List.getElem?_eq_getElem y]
      exact h _ (List.getElem_mem y)
    · rw [List.getElem?_eq_none (by omega)]
      exact Nat.zero_le _
  intro k
  induction k with
  | zero =>
    intro f i hi hf
    obtain ⟨f, rfl⟩ : ∃ g, f = g + 1 := ⟨f - 1, by omega⟩
    rw [sh_X12_collide_115, sh_X12_collide_115, if_pos (by rw [jv_lit (nat_lit 32), jv_le] <;> omega), if_pos (by rw [jv_lit (nat_lit 32), jv_le] <;> omega), isB_1, isB_0]
    exact ⟨rfl, rfl⟩
  | succ k ih =>
    intro f i hi hf
    obtain ⟨f, rfl⟩ : ∃ g, f = g + 1 := ⟨f - 1, by omega⟩
    obtain ⟨i1, i2⟩ := ih f (i + 1) (by omega) (by omega)
    have ha := g1 A hA i
    have hb := g1 B hB i
    refine ⟨?_, ?_⟩
    · rw [sh_X12_collide_115, if_neg (by rw [jv_lit (nat_lit 32), jv_le] <;> omega), if_neg one_ne]
      simp only [jv_lit]
      rw [jv_add, show (i : Int) + 1 = ((i + 1 : Nat) : Int) by omega, i1]
    · rw [sh_X12_collide_115, if_neg (by rw [jv_lit (nat_lit 32), jv_le] <;> omega), if_pos zro]
      simp only [jv_lit]
      rw [ld_jv (by omega) (by omega), Option.bind_some, ld_jv (by omega) (by omega), Option.bind_some, Int.toNat_natCast, rA i (by omega), rB i (by omega), jv_add, jv_add, show (i : Int) + 1 = ((i + 1 : Nat) : Int) by omega, i1, i2, anyb]
      by_cases y : A.getD i 0 = 1 ∧ B.getD i 0 = 1
      · rw [if_pos y, if_pos (by congr 1; omega)]
      · rw [if_neg y, if_neg (by rw [jv_eq] <;> omega)]
theorem anyb_1 (A B : List Nat) : ∀ k i, anyb A B k i = 0 ∧ (∀ j, i ≤ j → j < i + k → ¬ (A.getD j 0 = 1 ∧ B.getD j 0 = 1)) ∨ anyb A B k i = 1 ∧ ∃ j, A.getD j 0 = 1 ∧ B.getD j 0 = 1 := by
  intro k
  induction k with
  | zero => intro i; exact Or.inl ⟨rfl, fun j h1 h2 => absurd h2 (by omega)⟩
  | succ k ih =>
    intro i
    rw [anyb]
    by_cases y : A.getD i 0 = 1 ∧ B.getD i 0 = 1
    · rw [if_pos y]
      exact Or.inr ⟨rfl, i, y⟩
    · rw [if_neg y]
      rcases ih (i + 1) with ⟨h1, h2⟩ | h
      · refine Or.inl ⟨h1, fun j h3 h4 => ?_⟩
        by_cases z : j = i
        · rw [z]
          exact y
        · exact h2 j (by omega) (by omega)
      · exact Or.inr h
theorem bv_lt : ∀ (L : List Nat), (∀ x ∈ L, x ≤ 1) → bv L < 2 ^ L.length := by
  intro L
  induction L with
  | nil => intro _; exact Nat.one_pos
  | cons b L ih =>
    intro h
    have := ih (fun x hx => h x (List.mem_cons_of_mem _ hx))
    have := h b List.mem_cons_self
    rw [bv, List.length_cons, Nat.pow_succ]
    omega
theorem and_any {A B : List Nat} (hA : ∀ y ∈ A, y ≤ 1) (hB : ∀ y ∈ B, y ≤ 1) (lA : A.length ≤ 8) : (nI (bv A) &&& nI (bv B)) = (0 : Int32) ↔ anyb A B 32 0 = 0 := by
  rw [and_I]
  have hlt := bv_lt A hA
  have h256 : 2 ^ A.length ≤ 2 ^ 8 := Nat.pow_le_pow_right (by omega) lA
  have hle : bv A &&& bv B ≤ bv A := Nat.and_le_left
  have e : nI (bv A &&& bv B) = (0 : Int32) ↔ bv A &&& bv B = 0 := by
    rw [jv_nI, jv_lit (nat_lit 0), jv_eq (by omega) (by omega) (by omega) (by omega)]
    omega
  rw [e]
  constructor
  · intro h
    rcases anyb_1 A B 32 0 with ⟨h1, _⟩ | ⟨_, j, h2, h3⟩
    · exact h1
    · exfalso
      have : (bv A &&& bv B).testBit j = true := by
        rw [Nat.testBit_and, bv_tb A hA, bv_tb B hB, decide_eq_true h2, decide_eq_true h3]
        rfl
      rw [h, Nat.zero_testBit] at this
      exact absurd this (by decide)
  · intro h
    rcases anyb_1 A B 32 0 with ⟨_, h1⟩ | ⟨h1, _⟩
    · apply Nat.eq_of_testBit_eq
      intro i
      rw [Nat.zero_testBit, Nat.testBit_and, bv_tb A hA, bv_tb B hB]
      by_cases y : i < 32
      · have := h1 i (by omega) (by omega)
        by_cases z : A.getD i 0 = 1
        · rw [decide_eq_false (fun w => this ⟨z, w⟩), Bool.and_false]
        · rw [decide_eq_false z, Bool.false_and]
      · have : ¬ A.getD i 0 = 1 := by
          rw [List.getD_eq_getElem?_getD, List.getElem?_eq_none (by omega)]
          exact (by decide : ¬ (0 : Nat) = 1)
        rw [decide_eq_false this, Bool.false_and]
    · omega
end CLL
