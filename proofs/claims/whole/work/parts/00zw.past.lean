/-! WHAT IS REMEMBERED: a state of the class at st, a block of the model's net as B -/
def okS (st : Nat) : Prop := okB (st + 1) ∧ okB (st + 14)
abbrev frm (s : Nat) : Nat := 12 + 102 * s + 4
abbrev lin5 (s : Nat) : Nat := 12 + 102 * s + 5
/-- the latest proof, as both sides keep it -/
def PRf (st : Nat) (μ : Mm) (B : Nat → Int32) (R : Nat → Int) (N : Nat) (Rp : Nat → Int) (Np frp : Nat) : Prop := WB 500 Rp Np frp ∧ CB (st + 14) μ Rp Np frp ∧ (R 10 = 1 → R 11 = (TB Rp (tpF Rp Np) Np Np).1 ∧ (∀ k, k ≤ (TB Rp (tpF Rp Np) Np Np).1 → B (2460 + k) = jv (lnsT Rp (tpF Rp Np) Np 0 k).length) ∧ ∀ i, i < (lnsT Rp (tpF Rp Np) Np 0 (TB Rp (tpF Rp Np) Np Np).1).length → B (2701 + i) = jv ((lnsT Rp (tpF Rp Np) Np 0 (TB Rp (tpF Rp Np) Np Np).1).getD i 0)) ∧ ∀ s, s < N → (R (frm s) = -1 ∧ μ.1 (st + 13) s = jv (-1)) ∨ (R 10 = 1 ∧ ∃ o, o < Np ∧ μ.1 (st + 13) s = jv ((o : Nat) : Int) ∧ R (frm s) = (TB Rp (tpF Rp Np) Np o).1 ∧ R (lin5 s) = ((TB Rp (tpF Rp Np) Np (o + 1)).1 : Int) - (TB Rp (tpF Rp Np) Np o).1)
def PR (st : Nat) (μ : Mm) (B : Nat → Int32) (R : Nat → Int) (N : Nat) : Prop := (μ.1 st 2 = jv (R 10) ∧ (R 10 = 0 ∨ R 10 = 1)) ∧ ∃ Rp Np frp, PRf st μ B R N Rp Np frp
def SNR (st : Nat) (μ : Mm) (B : Nat → Int32) (R : Nat → Int) (N fr : Nat) : Prop := WB 500 R N fr ∧ CB (st + 1) μ R N fr ∧ (∀ i, i < 2460 → B i = jv (R i)) ∧ PR st μ B R N
section PST
variable {n : Nat} {R : Nat → Int} {N fr : Nat}
theorem SNR.fw {st : Nat} {μ μ' : Mm} {B : Nat → Int32} {P : Nat → Nat → Prop} {Q : Nat → Prop} (h : SNR st μ B R N fr) (hf : Fw P Q μ μ') (hp : ∀ k j, st ≤ k → k ≤ st + 26 → ¬ P k j) (hq : ∀ k, st ≤ k → k ≤ st + 26 → ¬ Q k) : SNR st μ' B R N fr := by
  obtain ⟨h1, h2, h3, ⟨h4, h5⟩, Rp, Np, frp, h6, h7, h8, h9⟩ := h
  refine ⟨h1, h2.fw hf (fun q j a b => hp q j (by omega) (by omega)) (fun q a b => hq q (by omega) (by omega)), h3, ⟨by rw [hf.1 _ _ (hp _ _ (by omega) (by omega))]; exact h4, h5⟩, Rp, Np, frp, h6, h7.fw hf (fun q j a b => hp q j (by omega) (by omega)) (fun q a b => hq q (by omega) (by omega)), h8, fun s hs => ?_⟩
  rw [hf.1 _ _ (hp _ _ (by omega) (by omega))]
  exact h9 s hs
theorem SNR.cg {st : Nat} {μ : Mm} {B B' : Nat → Int32} (h : SNR st μ B R N fr) (hB : ∀ i, i < 18701 → B' i = B i) : SNR st μ B' R N fr := by
  obtain ⟨h1, h2, h3, h4, Rp, Np, frp, h6, h7, h8, h9⟩ := h
  have h0 := tpF_b h6 (by omega)
  have hT := TB_n h6 (by omega) h0 Np (Nat.le_refl _)
  have hl := tab_len h6 (by omega) h0 Np (Nat.le_refl _)
  have hN := h6.1
  refine ⟨h1, h2, fun i hi => by rw [hB i (by omega)]; exact h3 i hi, h4, Rp, Np, frp, h6, h7, fun q => ?_, h9⟩
  obtain ⟨a, b, c⟩ := h8 q
  exact ⟨a, fun k hk => by rw [hB _ (by omega)]; exact b k hk, fun i hi => by rw [hB _ (by omega)]; exact c i hi⟩
theorem st6 {t a : Nat} (hd : a + 26 < t ∨ t + 26 < a) (ot : okS t) {μ : Mm} {B : Nat → Int32} (h : SNR a μ B R N fr) : ∃ μ1, sh_X6_take t a μ = some μ1 ∧ SNR t μ1 B R N fr ∧ Fw (fun k _ => t ≤ k ∧ k ≤ t + 26) (fun k => t ≤ k ∧ k ≤ t + 26) μ μ1 := by
  obtain ⟨h1, h2, h3, ⟨h4, h5⟩, Rp, Np, frp, h6, h7, h8, h9⟩ := h
  obtain ⟨μ1, e1, b1, o1, f1⟩ := tkB (t := t + 1) (a := a + 1) (by omega) ot.1 h1 h2
  obtain ⟨μ2, e2, b2, _, f2⟩ := tkB (t := t + 14) (a := a + 14) (by omega) ot.2 h6 (h7.fw f1 (fun q j x y z => by omega) (fun q x y z => by omega))
  have v2 : μ2.1 a 2 = jv (R 10) := by rw [f2.1 _ _ (by omega), f1.1 _ _ (by omega), h4]
  have f3 : Fm (fun k _ => k = t) μ2 (sI μ2 t 2 (jv (R 10))) := Fm.rf.sI rfl
  unfold sh_X6_take
  rw [e1, Option.bind_some, e2, Option.bind_some, v2, pz_jv h5, Option.bind_some]
  refine ⟨_, rfl, ⟨h1, (b1.fw f2 (fun q j x y z => by omega) (fun q x y z => by omega)).fr f3 (fun q j x y z => by omega), h3, ⟨by rw [sI_1, if_pos ⟨rfl, rfl⟩], h5⟩, Rp, Np, frp, h6, b2.fr f3 (fun q j x y z => by omega), h8, fun s hs => ?_⟩, ((f1.mono (fun k j y => by omega) (fun k y => by omega)).tr f2 (fun k j y => by omega) (fun k y => by omega)).tr (Fw.of (Q := fun _ => False) f3) (fun k j y => by omega) (fun _ y => y.elim)⟩
  have hN := h1.1
  rw [f3.at _ _ (by omega), f2.1 _ _ (by omega), o1 s (by omega)]
  exact h9 s hs
/-- six states of the class, in a ring, and blocks of the model's past -/
abbrev slot (nx u j : Nat) : Nat := 144 + 27 * ((nx + 6 - u + j) % 6)
def UNr (μ : Mm) (u nx : Nat) : Prop := u ≤ 6 ∧ nx < 6 ∧ μ.1 0 8 = jv u ∧ μ.1 0 7 = jv nx ∧ μ.1 306 47 = jv u ∧ ∀ j, j < u → ∃ R N fr, SNR (slot nx u j) μ (fun i => μ.1 329 (18701 * j + i)) R N fr
def UN (μ : Mm) : Prop := ∃ u nx, UNr μ u nx
theorem okSl (j : Nat) (hj : j < 6) : okS (144 + 27 * j) := by
  rcases (by omega : j = 0 ∨ j = 1 ∨ j = 2 ∨ j = 3 ∨ j = 4 ∨ j = 5) with rfl | rfl | rfl | rfl | rfl | rfl <;> exact ⟨⟨rfl, rfl, rfl, rfl, rfl, rfl⟩, ⟨rfl, rfl, rfl, rfl, rfl, rfl⟩⟩
theorem UN.fw {μ μ' : Mm} {P : Nat → Nat → Prop} {Q : Nat → Prop} (h : UN μ) (hf : Fw P Q μ μ') (hp : ∀ k j, P k j → ¬ (k = 0 ∧ (j = 7 ∨ j = 8)) ∧ ¬ (k = 306 ∧ j = 47) ∧ k ≠ 329 ∧ ¬ (144 ≤ k ∧ k ≤ 305)) (hq : ∀ k, Q k → ¬ (144 ≤ k ∧ k ≤ 305)) : UN μ' := by
  obtain ⟨u, nx, h1, h2, h3, h4, h5, h6⟩ := h
  refine ⟨u, nx, h1, h2, by rw [hf.1 _ _ (fun y => by have := hp _ _ y; omega), h3], by rw [hf.1 _ _ (fun y => by have := hp _ _ y; omega), h4], by rw [hf.1 _ _ (fun y => by have := hp _ _ y; omega), h5], fun j hj => ?_⟩
  obtain ⟨R, N, fr, h⟩ := h6 j hj
  have hsl : 144 ≤ slot nx u j ∧ slot nx u j + 26 ≤ 305 := by
    show 144 ≤ 144 + 27 * ((nx + 6 - u + j) % 6) ∧ 144 + 27 * ((nx + 6 - u + j) % 6) + 26 ≤ 305
    omega
  refine ⟨R, N, fr, (h.fw hf (fun k i a b y => by have := hp _ _ y; omega) (fun k a b y => by have := hq _ y; omega)).cg (fun i _ => ?_)⟩
  exact hf.1 _ _ (fun y => by have := hp _ _ y; omega)
theorem ea37 {nx : Nat} (h : nx < 6) {μ : Mm} : sh_X11_earlierAt (jv nx) μ = some (144 + 27 * nx) := by
  have l1 : ln 37 = 6 := rfl
  unfold sh_X11_earlierAt
  rw [jv_lit (nat_lit 0), jv_nI, if_neg (by rw [jv_lt] <;> omega), if_neg (by rw [jv_le] <;> omega), inb_jv (by omega) (by omega) (by omega), if_neg (by simp), jv_ix (by omega) (by omega), Int.toNat_natCast]
theorem kfu {μ : Mm} {B : Nat → Int32} {u nx : Nat} (hs : SNR 10 μ B R N fr) (hu : u ≤ 6) (hn : nx < 6) (h8 : μ.1 0 8 = jv u) (h7 : μ.1 0 7 = jv nx) : ∃ μ1, sh_X11_keepForUndo μ = some μ1 ∧ SNR (144 + 27 * nx) μ1 B R N fr ∧ μ1.1 0 7 = jv (((nx + 1) % 6 : Nat) : Int) ∧ μ1.1 0 8 = jv ((min 6 (u + 1) : Nat) : Int) ∧ Fw (fun k j => k = 0 ∧ (j = 7 ∨ j = 8) ∨ 144 + 27 * nx ≤ k ∧ k ≤ 144 + 27 * nx + 26) (fun k => 144 + 27 * nx ≤ k ∧ k ≤ 144 + 27 * nx + 26) μ μ1 := by
  obtain ⟨μ1, e1, s1, f1⟩ := st6 (t := 144 + 27 * nx) (a := 10) (by omega) (okSl nx hn) hs
  unfold sh_X11_keepForUndo sh_X11_keepForUndo_21
  simp only [jv_lit]
  rw [h7, ea37 hn, Option.bind_some, e1, Option.bind_some, f1.1 _ _ (by omega), h7, jv_add, rm_jv (by omega) (by omega) (by omega) (by omega), Option.bind_some, pt_eq, Option.bind_some]
  have e8 : (sI μ1 0 7 (jv (((nx : Int) + 1) % 6))).1 0 8 = jv u := by rw [sI_1, if_neg (by omega), f1.1 _ _ (by omega), h8]
  rw [e8, jv_add, pt_eq, Option.bind_some]
  have ev : (if jv 6 < jv ((u : Int) + 1) then jv 6 else jv ((u : Int) + 1)) = jv ((min 6 (u + 1) : Nat) : Int) := by
    by_cases z : u = 6
    · rw [if_pos (by rw [jv_lt] <;> omega), show min 6 (u + 1) = 6 by omega]
      rfl
    · rw [if_neg (by rw [jv_lt] <;> omega), show min 6 (u + 1) = u + 1 by omega]
      rfl
  have en : (((nx : Int) + 1) % 6) = (((nx + 1) % 6 : Nat) : Int) := by omega
  rw [ev, en]
  have f2 : Fm (fun k j => k = 0 ∧ (j = 7 ∨ j = 8)) μ1 (sI (sI μ1 0 7 (jv (((nx + 1) % 6 : Nat) : Int))) 0 8 (jv ((min 6 (u + 1) : Nat) : Int))) := (Fm.rf.sI (by omega)).sI (by omega)
  refine ⟨_, rfl, s1.fw (Fw.of (Q := fun _ => False) f2) (fun k j a b y => by omega) (fun _ _ _ y => y), by rw [sI_1, if_neg (by omega), sI_1, if_pos ⟨rfl, rfl⟩], by rw [sI_1, if_pos ⟨rfl, rfl⟩], (f1.mono (fun k j y => by omega) (fun k y => by omega)).tr (Fw.of (Q := fun _ => False) f2) (fun k j y => by omega) (fun _ y => y.elim)⟩
abbrev PRM : Nat → Nat → Prop := fun k j => k = 306 ∧ j = 47 ∨ k = 329
theorem rm53 {u : Nat} (hu : u ≤ 5) : ∀ (k f i : Nat) (μ : Mm), i + k = 18701 → k < f → μ.1 306 47 = jv u → ∃ μ1, sh_X12_remember_53 n f (jv i) μ = some μ1 ∧ μ1.1 306 47 = jv ((u + 1 : Nat) : Int) ∧ (∀ x, μ1.1 329 x = if 18701 * u + i ≤ x ∧ x < 18701 * u + 18701 then μ.1 307 (x - 18701 * u) else μ.1 329 x) ∧ Fm PRM μ μ1 := by
  have l1 : ln 307 = 18701 := rfl
  have l2 : ln 329 = 112206 := rfl
  intro k
  induction k with
  | zero =>
    intro f i μ hi hf h47
    obtain ⟨f, rfl⟩ : ∃ g, f = g + 1 := ⟨f - 1, by omega⟩
    rw [sh_X12_remember_53, if_pos (by rw [jv_lit (nat_lit 18701), jv_le] <;> omega), pt_eq, Option.bind_some, h47, jv_lit (nat_lit 1), jv_add]
    refine ⟨_, rfl, by rw [sI_1, if_pos ⟨rfl, rfl⟩]; rfl, fun x => ?_, Fm.rf.sI (Or.inl ⟨rfl, rfl⟩)⟩
    rw [sI_1, if_neg (by omega), if_neg (by omega)]
  | succ k ih =>
    intro f i μ hi hf h47
    obtain ⟨f, rfl⟩ : ∃ g, f = g + 1 := ⟨f - 1, by omega⟩
    rw [sh_X12_remember_53, if_neg (by rw [jv_lit (nat_lit 18701), jv_le] <;> omega)]
    simp only [jv_lit]
    rw [ld_jv (by omega) (by omega), Option.bind_some, h47, jv_mul, jv_add, st_jv (by omega) (by omega), Option.bind_some, Int.toNat_natCast, jv_add, show (i : Int) + 1 = ((i + 1 : Nat) : Int) by omega, show (18701 * (u : Int) + i).toNat = 18701 * u + i by omega]
    have f0 : Fm PRM μ (sI μ 329 (18701 * u + i) (μ.1 307 i)) := Fm.rf.sI (Or.inr rfl)
    obtain ⟨μ1, e1, a1, a2, a3⟩ := ih f (i + 1) (sI μ 329 (18701 * u + i) (μ.1 307 i)) (by omega) (by omega) (by rw [sI_1, if_neg (by omega), h47])
    refine ⟨μ1, e1, a1, fun x => ?_, f0.tr a3 (fun _ _ y => y)⟩
    have e307 : ∀ y, (sI μ 329 (18701 * u + i) (μ.1 307 i)).1 307 y = μ.1 307 y := fun y => by rw [sI_1, if_neg (by omega)]
    rw [a2, e307, sI_1]
    by_cases z : x = 18701 * u + i
    · rw [if_neg (by omega), if_pos ⟨rfl, z⟩, if_pos (by omega), z, Nat.add_sub_cancel_left]
    · rw [if_neg (show ¬ (329 = 329 ∧ x = 18701 * u + i) from fun q => z q.2)]
      by_cases y : 18701 * u + (i + 1) ≤ x ∧ x < 18701 * u + 18701
      · rw [if_pos y, if_pos (by omega)]
      · rw [if_neg y, if_neg (by omega)]
theorem rm13 : ∀ (k f i : Nat) (μ : Mm), i + k = 112206 → 18701 ≤ i → k < f → ∃ μ1, sh_X12_remember_13 n f (jv i) μ = (pt μ1 306 47 ((μ1.1 306 47) - (1 : Int32))).bind (fun μ4 => sh_X12_remember_53 n n (0 : Int32) μ4) ∧ (∀ x, μ1.1 329 x = if i ≤ x + 18701 ∧ x + 18701 < 112206 then μ.1 329 (x + 18701) else μ.1 329 x) ∧ Fm (fun k _ => k = 329) μ μ1 := by
  have l2 : ln 329 = 112206 := rfl
  intro k
  induction k with
  | zero =>
    intro f i μ hi h1 hf
    obtain ⟨f, rfl⟩ : ∃ g, f = g + 1 := ⟨f - 1, by omega⟩
    rw [sh_X12_remember_13, if_pos (by rw [jv_lit (nat_lit 112206), jv_le] <;> omega)]
    exact ⟨μ, rfl, fun x => by rw [if_neg (by omega)], Fm.rf⟩
  | succ k ih =>
    intro f i μ hi h1 hf
    obtain ⟨f, rfl⟩ : ∃ g, f = g + 1 := ⟨f - 1, by omega⟩
    rw [sh_X12_remember_13, if_neg (by rw [jv_lit (nat_lit 112206), jv_le] <;> omega), ld_jv (by omega) (by omega), Option.bind_some, jv_lit (nat_lit 18701), jv_sub, st_jv (by omega) (by omega), Option.bind_some, Int.toNat_natCast, jv_lit (nat_lit 1), jv_add, show (i : Int) + 1 = ((i + 1 : Nat) : Int) by omega, show ((i : Int) - 18701).toNat = i - 18701 by omega]
    have f0 : Fm (fun k _ => k = 329) μ (sI μ 329 (i - 18701) (μ.1 329 i)) := Fm.rf.sI rfl
    obtain ⟨μ1, e1, a2, a3⟩ := ih f (i + 1) (sI μ 329 (i - 18701) (μ.1 329 i)) (by omega) (by omega) (by omega)
    refine ⟨μ1, e1, fun x => ?_, f0.tr a3 (fun _ _ y => y)⟩
    rw [a2, sI_1, sI_1]
    by_cases z : x = i - 18701
    · rw [if_neg (by omega), if_pos ⟨rfl, z⟩, if_pos (by omega), show x + 18701 = i by omega]
    · by_cases y : i + 1 ≤ x + 18701 ∧ x + 18701 < 112206
      · rw [if_pos y, if_neg (by omega), if_pos (by omega)]
      · rw [if_neg y, if_neg (fun q => z q.2), if_neg (by omega)]
/-- the model remembers -/
theorem rmb (hn : 120000 ≤ n) {μ : Mm} {u : Nat} (hu : u ≤ 6) (h47 : μ.1 306 47 = jv u) : ∃ μ1, sh_X12_remember n μ = some μ1 ∧ μ1.1 306 47 = jv ((min 6 (u + 1) : Nat) : Int) ∧ (∀ i, i < 18701 → μ1.1 329 (18701 * (min 6 (u + 1) - 1) + i) = μ.1 307 i) ∧ (∀ j i, j + 1 < min 6 (u + 1) → i < 18701 → μ1.1 329 (18701 * j + i) = μ.1 329 (18701 * (j + (if u = 6 then 1 else 0)) + i)) ∧ Fm PRM μ μ1 := by
  unfold sh_X12_remember
  rw [h47]
  by_cases z : u = 6
  · subst z
    rw [if_pos (by rfl)]
    obtain ⟨μ1, e1, a1, f1⟩ := rm13 (n := n) 93505 n 18701 μ (by omega) (by omega) (by omega)
    have e1' : sh_X12_remember_13 n n (18701 : Int32) μ = _ := e1
    rw [e1', f1.at _ _ (by omega), h47, pt_eq, Option.bind_some]
    have f2 : Fm PRM μ1 (sI μ1 306 47 (jv ((6 : Nat) : Int) - (1 : Int32))) := Fm.rf.sI (Or.inl ⟨rfl, rfl⟩)
    obtain ⟨μ2, e2, b1, b2, b3⟩ := rm53 (n := n) (u := 5) (by omega) 18701 n 0 (sI μ1 306 47 (jv ((6 : Nat) : Int) - (1 : Int32))) (by omega) (by omega) (by rw [sI_1, if_pos ⟨rfl, rfl⟩, jv_lit (nat_lit 1), jv_sub]; rfl)
    have e2' : sh_X12_remember_53 n n (0 : Int32) (sI μ1 306 47 (jv ((6 : Nat) : Int) - (1 : Int32))) = _ := e2
    refine ⟨μ2, e2', by rw [b1]; rfl, fun i hi => ?_, fun j i hj hi => ?_, ((f1.mono (fun k j y => by omega)).tr f2 (fun _ _ y => y)).tr b3 (fun _ _ y => y)⟩
    · rw [b2, if_pos (by omega), sI_1, if_neg (by omega), f1.at _ _ (by omega), show 18701 * (min 6 (6 + 1) - 1) + i - 18701 * 5 = i by omega]
    · rw [b2, if_neg (by omega), sI_1, if_neg (by omega), a1, if_pos (by omega), if_pos rfl, show 18701 * j + i + 18701 = 18701 * (j + 1) + i by omega]
  · rw [if_neg (by rw [jv_lit (nat_lit 6), jv_eq] <;> omega)]
    obtain ⟨μ2, e2, b1, b2, b3⟩ := rm53 (n := n) (u := u) (by omega) 18701 n 0 μ (by omega) (by omega) h47
    have e2' : sh_X12_remember_53 n n (0 : Int32) μ = _ := e2
    have em : min 6 (u + 1) = u + 1 := by omega
    rw [em]
    refine ⟨μ2, e2', b1, fun i hi => ?_, fun j i hj hi => ?_, b3⟩
    · rw [b2, if_pos (by omega), show 18701 * (u + 1 - 1) + i - 18701 * u = i by rw [Nat.add_sub_cancel]; omega]
    · rw [b2, if_neg (by omega), if_neg z, Nat.add_zero]
/-- both remember -/
theorem keep2 (hn : 120000 ≤ n) {μ μc : Mm} {ν : Mm} {u nx : Nat} (hun : UNr μ u nx) (hs : SNR 10 μ (μ.1 307) R N fr) (hk : sh_X11_keepForUndo μ = some μc) (hν1 : ∀ k j, ¬ PE k j → ¬ (10 ≤ k ∧ k ≤ 79) → ν.1 k j = μc.1 k j) (hν2 : ∀ k j, ¬ (5 ≤ k ∧ k ≤ 143) → ν.2.1 k j = μc.2.1 k j) (hν3 : ν.2.2 = μc.2.2) : ∃ μ1, sh_X12_remember n ν = some μ1 ∧ UN μ1 ∧ Fm PRM ν μ1 := by
  obtain ⟨hu, hnx, h8, h7, h47, hpast⟩ := hun
  obtain ⟨μ', e', s', a7, a8, f'⟩ := kfu (nx := nx) (u := u) hs hu hnx h8 h7
  rw [e'] at hk
  have := Option.some.inj hk
  subst this
  have hνF : Fw (fun k j => PE k j ∨ 10 ≤ k ∧ k ≤ 79) (fun k => 5 ≤ k ∧ k ≤ 143) μ' ν := ⟨fun k j q => hν1 k j (fun y => q (Or.inl y)) (fun y => q (Or.inr y)), hν2, hν3⟩
  have v47 : ν.1 306 47 = jv u := by rw [hν1 _ _ (by omega) (by omega), f'.1 _ _ (by omega), h47]
  obtain ⟨μ1, e1, b1, b2, b3, b4⟩ := rmb (n := n) hn hu v47
  have f1 : Fw PRM (fun _ => False) ν μ1 := Fw.of b4
  refine ⟨μ1, e1, ⟨min 6 (u + 1), (nx + 1) % 6, by omega, by omega, ?_, ?_, b1, fun j hj => ?_⟩, b4⟩
  · rw [b4.at _ _ (by omega), hν1 _ _ (by omega) (by omega), a8]
  · rw [b4.at _ _ (by omega), hν1 _ _ (by omega) (by omega), a7]
  · by_cases z : j + 1 = min 6 (u + 1)
    · have es : slot ((nx + 1) % 6) (min 6 (u + 1)) j = 144 + 27 * nx := by
        show 144 + 27 * (((nx + 1) % 6 + 6 - min 6 (u + 1) + j) % 6) = _
        omega
      rw [es]
      refine ⟨R, N, fr, ((s'.fw hνF (fun k i a b y => by omega) (fun k a b y => by omega)).fw f1 (fun k i a b y => by omega) (fun _ _ _ y => y)).cg (fun i hi => ?_)⟩
      show μ1.1 329 (18701 * j + i) = μ.1 307 i
      rw [show j = min 6 (u + 1) - 1 by omega, b2 i hi, hν1 _ _ (by omega) (by omega), f'.1 _ _ (by omega)]
    · obtain ⟨R2, N2, fr2, h⟩ := hpast (j + (if u = 6 then 1 else 0)) (by split <;> omega)
      have es : slot ((nx + 1) % 6) (min 6 (u + 1)) j = slot nx u (j + (if u = 6 then 1 else 0)) := by
        show 144 + 27 * (((nx + 1) % 6 + 6 - min 6 (u + 1) + j) % 6) = 144 + 27 * ((nx + 6 - u + (j + (if u = 6 then 1 else 0))) % 6)
        split <;> omega
      have hne : (nx + 6 - u + (j + (if u = 6 then 1 else 0))) % 6 ≠ nx := by
        split <;> omega
      have hlt : (nx + 6 - u + (j + (if u = 6 then 1 else 0))) % 6 < 6 := Nat.mod_lt _ (by omega)
      rw [es]
      refine ⟨R2, N2, fr2, (((h.fw f' (fun k i a b y => by
        have a' : 144 + 27 * ((nx + 6 - u + (j + (if u = 6 then 1 else 0))) % 6) ≤ k := a
        have b' : k ≤ 144 + 27 * ((nx + 6 - u + (j + (if u = 6 then 1 else 0))) % 6) + 26 := b
        generalize (nx + 6 - u + (j + (if u = 6 then 1 else 0))) % 6 = w at *
        omega) (fun k a b y => by
        have a' : 144 + 27 * ((nx + 6 - u + (j + (if u = 6 then 1 else 0))) % 6) ≤ k := a
        have b' : k ≤ 144 + 27 * ((nx + 6 - u + (j + (if u = 6 then 1 else 0))) % 6) + 26 := b
        generalize (nx + 6 - u + (j + (if u = 6 then 1 else 0))) % 6 = w at *
        omega)).fw hνF (fun k i a b y => by
        have a' : 144 + 27 * ((nx + 6 - u + (j + (if u = 6 then 1 else 0))) % 6) ≤ k := a
        have b' : k ≤ 144 + 27 * ((nx + 6 - u + (j + (if u = 6 then 1 else 0))) % 6) + 26 := b
        generalize (nx + 6 - u + (j + (if u = 6 then 1 else 0))) % 6 = w at *
        omega) (fun k a b y => by
        have a' : 144 + 27 * ((nx + 6 - u + (j + (if u = 6 then 1 else 0))) % 6) ≤ k := a
        omega)).fw f1 (fun k i a b y => by
        have a' : 144 + 27 * ((nx + 6 - u + (j + (if u = 6 then 1 else 0))) % 6) ≤ k := a
        have b' : k ≤ 144 + 27 * ((nx + 6 - u + (j + (if u = 6 then 1 else 0))) % 6) + 26 := b
        generalize (nx + 6 - u + (j + (if u = 6 then 1 else 0))) % 6 = w at *
        omega) (fun _ _ _ y => y)).cg (fun i hi => ?_)⟩
      show μ1.1 329 (18701 * j + i) = μ.1 329 (18701 * (j + (if u = 6 then 1 else 0)) + i)
      rw [b3 j i (by omega) hi, hν1 _ _ (by omega) (by omega), f'.1 _ _ (by omega)]
end PST
