/-! ALL LAID by the model -/
section LAYM
variable {n q : Nat} {R : Nat → Int} {K : Int} {N fr : Nat} {tp : Int}
abbrev PME4 (s : Nat) : Nat → Nat → Prop := fun k j => k = 306 ∧ (j = 17 ∨ j = 36) ∨ k = 310 ∨ k = 313 ∨ 316 ≤ k ∧ k ≤ 323 ∨ k = 324 ∧ j = s
theorem leM (hn : 16001 ≤ n) (hw : WB K R N fr) (hK : K ≤ 600) (h0 : 0 ≤ tp ∧ tp ≤ 100) {s : Nat} (hs : s < N) {T0 : Tb} (hT0 : T0.1 + 8 ≤ 200) {μ : Mm} (hS : MS q μ R tp N) (ha : AM μ T0) : ∃ μ1, sh_X12_layEntry n (jv s) μ = some μ1 ∧ AM μ1 (tEnt R (limT R tp N) (nwd R tp s) s T0) ∧ μ1.1 324 s = jv T0.1 ∧ Fm (PME4 s) μ μ1 := by
  have h1 := hw.1
  have hwc := (hw.sec hs).2.2.2.1
  have l9 : ln 324 = 24 := rfl
  unfold sh_X12_layEntry
  simp only [jv_lit]
  rw [ha.1, st_jv (by omega) (by omega), Option.bind_some, Int.toNat_natCast]
  have f0 : Fm (fun k j => k = 324 ∧ j = s) μ (sI μ 324 s (jv T0.1)) := Fm.rf.sI ⟨rfl, rfl⟩
  have v0 : (sI μ 324 s (jv T0.1)).1 324 s = jv T0.1 := by rw [sI_1, if_pos ⟨rfl, rfl⟩]
  generalize (sI μ 324 s (jv T0.1)) = μ0 at *
  have hS0 := hS.kp f0 (fun k j y => by omega)
  have ha0 : AM μ0 T0 := ha.kq f0 (by omega) (fun k j a b y => by omega)
  obtain ⟨μ1, a1, f1⟩ := twkM (n := n) hn hw hs (w := 0) (by omega) hS0.1 hS0.2.1
  have hS1 := hS0.kp f1 (fun k j y => by omega)
  have ha1 : AM μ1 T0 := ha0.kq f1 (by omega) (fun k j a b y => by omega)
  obtain ⟨μ2, a2, b2, f2⟩ := AM.opn ha1 (by omega) s (fsS R s) 0 (tokW R s 0)
  have hS2 := hS1.kp f2 (fun k j y => by omega)
  have hT1 : tTok R (limT R tp N) s T0 1 = tOpen T0 s (fsS R s) 0 (tokW R s 0) := by rw [tTok, if_pos rfl, tTok]
  obtain ⟨μ3, a3, b3, f3⟩ := le41 (n := n) hn hw hK h0 hs T0 hT0 ((wct R s).toNat - 1) n 1 μ2 (by omega) (by omega) (by omega) hS2 (by rw [hT1]; exact b2)
  rw [hS0.1.r3, Option.bind_some, hS0.1.oL (by omega), Option.bind_some, jv_sub, jv_mul]
  simp only [nm_eq]
  rw [show jv (0 : Int) = jv ((0 : Nat) : Int) from rfl, a1, Option.bind_some]
  simp only []
  rw [show jv ((0 : Nat) : Int) = jv (0 : Int) from rfl, show R 3 * (lev R s - 1) = fsS R s from rfl, a2, Option.bind_some]
  refine ⟨μ3, a3, b3, ?_, ?_⟩
  · rw [f3.at _ _ (by omega), f2.at _ _ (by omega), f1.at _ _ (by omega), v0]
  · exact (((f0.mono (fun k j y => (by omega : k = 306 ∧ (j = 17 ∨ j = 36) ∨ k = 310 ∨ k = 313 ∨ 316 ≤ k ∧ k ≤ 323 ∨ k = 324 ∧ j = s))).tr f1 (fun k j y => by omega)).tr f2 (fun k j y => by omega)).tr f3 (fun k j y => by omega)
abbrev PME5 : Nat → Nat → Prop := fun k j => k = 306 ∧ (j = 17 ∨ j = 36 ∨ j = 37 ∨ j = 38) ∨ k = 310 ∨ k = 313 ∨ 316 ≤ k ∧ k ≤ 324
theorem lw74 (hn : 16001 ≤ n) (hw : WB K R N fr) (hK : K ≤ 600) (h0 : 0 ≤ tp ∧ tp ≤ 100) : ∀ (j f i : Nat) (μ : Mm), i + j = N → j < f → MS q μ R tp N → AM μ (TB R tp N i) → (∀ e, e < i → μ.1 324 e = jv (TB R tp N e).1) → ∃ μ1, sh_X12_layWith_74 n (jv tp) f (jv i) μ = some (jv (itsT R tp N), μ1) ∧ AM μ1 (TB R tp N N) ∧ (∀ e, e < N → μ1.1 324 e = jv (TB R tp N e).1) ∧ Fm (fun k j => PME5 k j ∧ ¬ (k = 306 ∧ (j = 37 ∨ j = 38))) μ μ1 := by
  have h1 := hw.1
  have hR := hw.2.2.1
  intro j
  induction j with
  | zero =>
    intro f i μ hj hf hS ha he
    obtain ⟨f, rfl⟩ : ∃ g, f = g + 1 := ⟨f - 1, by omega⟩
    have ei : i = N := by omega
    subst ei
    have hT := TB_n hw hK h0 i (Nat.le_refl _)
    rw [sh_X12_layWith_74]
    simp only [jv_lit]
    rw [hS.1.r9, Option.bind_some, h1.1, if_pos (by rw [jv_le] <;> omega), hS.1.r1, Option.bind_some, Option.bind_some, ha.1, jv_add, jv_sub, dv_jv (by omega) (by omega) (by omega) (by omega), Option.bind_some]
    exact ⟨μ, rfl, ha, he, Fm.rf⟩
  | succ j ih =>
    intro f i μ hj hf hS ha he
    obtain ⟨f, rfl⟩ : ∃ g, f = g + 1 := ⟨f - 1, by omega⟩
    have hT := TB_n hw hK h0 i (by omega)
    obtain ⟨μ1, a1, b1, c1, f1⟩ := leM (n := n) hn hw hK h0 (s := i) (by omega) (T0 := TB R tp N i) (by omega) hS ha
    have hS1 := hS.kp f1 (fun k j y => by omega)
    have hE := TB_s (R := R) (tp := tp) (N := N) i
    obtain ⟨μ2, a2, b2, c2, f2⟩ := ih f (i + 1) μ1 (by omega) (by omega) hS1 (by rw [hE]; exact b1) (fun e hh => by
      by_cases z : e = i
      · subst z
        exact c1
      · rw [f1.at _ _ (by omega)]
        exact he e (by omega))
    rw [sh_X12_layWith_74]
    simp only [jv_lit]
    rw [hS.1.r9, Option.bind_some, h1.1, if_neg (by rw [jv_le] <;> omega), a1, Option.bind_some, jv_add, show (i : Int) + 1 = ((i + 1 : Nat) : Int) by omega]
    exact ⟨μ2, a2, b2, c2, (f1.mono (fun k j y => ⟨by omega, by omega⟩)).tr f2 (fun _ _ y => y)⟩
theorem lw12 (hn : 16001 ≤ n) (hw : WB K R N fr) (hK : K ≤ 600) (h0 : 0 ≤ tp ∧ tp ≤ 100) : ∀ (j f i : Nat) (μ : Mm), i + j = N → j < f → MB q μ R → LM μ R N → (∀ s, s < N → μ.1 314 s = jv (pgs R tp s)) → μ.1 306 37 = jv (colF R tp i) → ∃ μ1, sh_X12_layWith_12 n (jv tp) f (jv i) μ = some (jv (itsT R tp N), μ1) ∧ AM μ1 (TB R tp N N) ∧ (∀ e, e < N → μ1.1 324 e = jv (TB R tp N e).1) ∧ μ1.1 306 37 = jv (colF R tp N) ∧ μ1.1 306 38 = jv (limT R tp N) ∧ Fm PME5 μ μ1 := by
  have h1 := hw.1
  have h5 := hw.2.2.2.2.2.2.1
  have hR := hw.2.1
  have hlc := (limT_b hw hK h0).1
  intro j
  induction j with
  | zero =>
    intro f i μ hj hf hm hl hp hc
    obtain ⟨f, rfl⟩ : ∃ g, f = g + 1 := ⟨f - 1, by omega⟩
    have ei : i = N := by omega
    subst ei
    rw [sh_X12_layWith_12]
    simp only [jv_lit]
    rw [hm.r9, Option.bind_some, h1.1, if_pos (by rw [jv_le] <;> omega), hm.r0, Option.bind_some, hm.r5, Option.bind_some, hc, jv_sub, jv_sub, pt_eq, Option.bind_some, pt_eq, Option.bind_some]
    have f0 : Fm (fun k j => k = 306 ∧ (j = 38 ∨ j = 36)) μ (sI (sI μ 306 38 (jv (R 0 - colF R tp i - R 5))) 306 36 (jv 0)) := (Fm.rf.sI ⟨rfl, Or.inl rfl⟩).sI ⟨rfl, Or.inr rfl⟩
    have v38 : (sI (sI μ 306 38 (jv (R 0 - colF R tp i - R 5))) 306 36 (jv 0)).1 306 38 = jv (limT R tp i) := by
      rw [sI_1, if_neg (by omega), sI_1, if_pos ⟨rfl, rfl⟩]
      rfl
    have v36 : (sI (sI μ 306 38 (jv (R 0 - colF R tp i - R 5))) 306 36 (jv 0)).1 306 36 = jv 0 := by rw [sI_1, if_pos ⟨rfl, rfl⟩]
    generalize (sI (sI μ 306 38 (jv (R 0 - colF R tp i - R 5))) 306 36 (jv 0)) = μ0 at *
    obtain ⟨μ1, a1, b1, c1, f1⟩ := lw74 (n := n) hn hw hK h0 i n 0 μ0 (by omega) (by omega) ⟨hm.fr f0 (fun i _ y => by rcases hm.1 with rfl | rfl <;> omega), hl.kp f0 (fun j => ⟨by omega, by omega⟩), fun s hs => by rw [f0.at _ _ (by omega)]; exact hp s hs, v38⟩ ⟨v36, fun c hc i hi => absurd hi (by show ¬ i < 0; omega)⟩ (fun e he => absurd he (by omega))
    refine ⟨μ1, a1, b1, c1, ?_, ?_, (f0.mono (fun k j y => (by omega : k = 306 ∧ (j = 17 ∨ j = 36 ∨ j = 37 ∨ j = 38) ∨ k = 310 ∨ k = 313 ∨ 316 ≤ k ∧ k ≤ 324))).tr f1 (fun k j y => y.1)⟩
    · rw [f1.at _ _ (by omega), f0.at _ _ (by omega), hc]
    · rw [f1.at _ _ (by omega), v38]
  | succ j ih =>
    intro f i μ hj hf hm hl hp hc
    obtain ⟨f, rfl⟩ : ∃ g, f = g + 1 := ⟨f - 1, by omega⟩
    have hs : i < N := by omega
    have hnw := nwd_b hw hK hs h0.1 h0.2
    have hci := hlc i (by omega)
    obtain ⟨μ1, a1, f1⟩ := pwdM (n := n) hn hw hK h0 hs hm (hp i hs)
    rw [sh_X12_layWith_12]
    simp only [jv_lit]
    rw [hm.r9, Option.bind_some, h1.1, if_neg (by rw [jv_le] <;> omega), a1, Option.bind_some]
    simp only []
    have ec : (if μ.1 306 37 < jv (nwd R tp i) then jv (nwd R tp i) else μ.1 306 37) = jv (colF R tp (i + 1)) := by
      rw [hc, colF]
      by_cases z : colF R tp i < nwd R tp i
      · rw [if_pos (by rw [jv_lt] <;> omega), if_pos z]
      · rw [if_neg (by rw [jv_lt] <;> omega), if_neg z]
    rw [ec, pt_eq, Option.bind_some, jv_add, show (i : Int) + 1 = ((i + 1 : Nat) : Int) by omega]
    have f2 : Fm (fun k j => k = 306 ∧ (j = 17 ∨ j = 37) ∨ k = 310) μ (sI μ1 306 37 (jv (colF R tp (i + 1)))) := (f1.mono (fun k j y => (by omega : k = 306 ∧ (j = 17 ∨ j = 37) ∨ k = 310))).sI (Or.inl ⟨rfl, Or.inr rfl⟩)
    obtain ⟨μ3, a3, b3, c3, d3, e3, f3⟩ := ih f (i + 1) (sI μ1 306 37 (jv (colF R tp (i + 1)))) (by omega) (by omega) (hm.fr f2 (fun i _ y => by rcases hm.1 with rfl | rfl <;> omega)) (hl.kp f2 (fun j => ⟨by omega, by omega⟩)) (fun s hs => by rw [f2.at _ _ (by omega)]; exact hp s hs) (by rw [sI_1, if_pos ⟨rfl, rfl⟩])
    exact ⟨μ3, a3, b3, c3, d3, e3, (f2.mono (fun k j y => (by omega : k = 306 ∧ (j = 17 ∨ j = 36 ∨ j = 37 ∨ j = 38) ∨ k = 310 ∨ k = 313 ∨ 316 ≤ k ∧ k ≤ 324))).tr f3 (fun _ _ y => y)⟩
/-- the model has laid all with so many pages of the table -/
def MW (μ : Mm) (R : Nat → Int) (tp : Int) (N fr : Nat) : Prop := PM_ μ R tp N fr ∧ AM μ (TB R tp N N) ∧ (∀ e, e < N → μ.1 324 e = jv (TB R tp N e).1) ∧ μ.1 306 37 = jv (colF R tp N) ∧ μ.1 306 38 = jv (limT R tp N)
theorem MW.kp {μ μ' : Mm} {P : Nat → Nat → Prop} (h : MW μ R tp N fr) (hf : Fm P μ μ') (hp : ∀ k j, P k j → k = 306 ∧ (j = 0 ∨ j = 5 ∨ j = 17 ∨ j = 39 ∨ j = 40) ∨ k < 306 ∨ k = 307 ∨ k = 308 ∨ k = 310 ∨ k = 313 ∨ 325 ≤ k) : MW μ' R tp N fr := by
  obtain ⟨⟨h1, h2, h3⟩, h4, h5, h6, h7⟩ := h
  refine ⟨⟨fun s hs => ⟨?_, ?_⟩, ?_, ?_⟩, h4.kq hf (fun y => by have := hp _ _ y; omega) (fun k j a b y => by have := hp _ _ y; omega), fun e he => ?_, ?_, ?_⟩
  · rw [hf.2 _ _ (fun y => by have := hp _ _ y; omega)]; exact (h1 s hs).1
  · rw [hf.2 _ _ (fun y => by have := hp _ _ y; omega)]; exact (h1 s hs).2
  · rw [hf.2 _ _ (fun y => by have := hp _ _ y; omega)]; exact h2
  · rw [hf.2 _ _ (fun y => by have := hp _ _ y; omega)]; exact h3
  · rw [hf.2 _ _ (fun y => by have := hp _ _ y; omega)]; exact h5 e he
  · rw [hf.2 _ _ (fun y => by have := hp _ _ y; omega)]; exact h6
  · rw [hf.2 _ _ (fun y => by have := hp _ _ y; omega)]; exact h7
abbrev PMW : Nat → Nat → Prop := fun k j => k = 306 ∧ (j = 17 ∨ 23 ≤ j ∧ j ≤ 26 ∨ 36 ≤ j ∧ j ≤ 38) ∨ k = 310 ∨ 313 ≤ k ∧ k ≤ 324
theorem lwM (hn : 16001 ≤ n) (hw : WB K R N fr) (hK : K ≤ 600) (h0 : 0 ≤ tp ∧ tp ≤ 100) {μ : Mm} (hm : MB q μ R) (hl : LM μ R N) : ∃ μ1, sh_X12_layWith n (jv tp) μ = some (jv (itsT R tp N), μ1) ∧ MW μ1 R tp N fr ∧ Fm PMW μ μ1 := by
  have h1 := hw.1
  obtain ⟨μ1, a1, f1, p1⟩ := lpM (n := n) (by omega) hw hK h0.1 h0.2 hm
  unfold sh_X12_layWith
  simp only [jv_lit]
  rw [a1, Option.bind_some, pt_eq, Option.bind_some]
  have f2 : Fm PMW μ (sI μ1 306 37 (jv 0)) := (f1.mono (fun k j y => (by omega : k = 306 ∧ (j = 17 ∨ 23 ≤ j ∧ j ≤ 26 ∨ 36 ≤ j ∧ j ≤ 38) ∨ k = 310 ∨ 313 ≤ k ∧ k ≤ 324))).sI (by omega)
  have hl1 := hl.kp f2 (fun j => ⟨by omega, by omega⟩)
  have hm1 := hm.fr f2 (fun i _ y => by rcases hm.1 with rfl | rfl <;> omega)
  obtain ⟨μ3, a3, b3, c3, d3, e3, f3⟩ := lw12 (n := n) hn hw hK h0 N n 0 (sI μ1 306 37 (jv 0)) (by omega) (by omega) hm1 hl1 (fun s hs => by rw [sI_1, if_neg (by omega)]; exact (p1.1 s hs).1) (by rw [sI_1, if_pos ⟨rfl, rfl⟩]; rfl)
  refine ⟨μ3, a3, ⟨⟨fun s hs => ⟨?_, ?_⟩, ?_, ?_⟩, b3, c3, d3, e3⟩, f2.tr f3 (fun k j y => by omega)⟩
  · rw [f3.at _ _ (by omega), sI_1, if_neg (by omega)]; exact (p1.1 s hs).1
  · rw [f3.at _ _ (by omega), sI_1, if_neg (by omega)]; exact (p1.1 s hs).2
  · rw [f3.at _ _ (by omega), sI_1, if_neg (by omega)]; exact p1.2.1
  · rw [f3.at _ _ (by omega), sI_1, if_neg (by omega)]; exact p1.2.2
def MY (μ : Mm) (R : Nat → Int) (N fr : Nat) : Prop := LM μ R N ∧ MW μ R (tpF R N) N fr ∧ μ.1 306 39 = jv (tpF R N) ∧ μ.1 306 40 = jv (rnF R N)
abbrev PMY : Nat → Nat → Prop := fun k j => k = 306 ∧ (j = 17 ∨ 23 ≤ j ∧ j ≤ 26 ∨ 36 ≤ j ∧ j ≤ 40) ∨ 310 ≤ k ∧ k ≤ 324
theorem MY.kp {μ μ' : Mm} {P : Nat → Nat → Prop} (h : MY μ R N fr) (hf : Fm P μ μ') (hp : ∀ k j, P k j → k = 306 ∧ (j = 0 ∨ j = 5 ∨ j = 17) ∨ k < 306 ∨ k = 307 ∨ k = 308 ∨ k = 310 ∨ k = 313 ∨ 325 ≤ k) : MY μ' R N fr := by
  obtain ⟨h1, h2, h3, h4⟩ := h
  refine ⟨h1.kp hf (fun j => ⟨fun y => by have := hp _ _ y; omega, fun y => by have := hp _ _ y; omega⟩), h2.kp hf (fun k j y => by have := hp _ _ y; omega), ?_, ?_⟩
  · rw [hf.2 _ _ (fun y => by have := hp _ _ y; omega)]; exact h3
  · rw [hf.2 _ _ (fun y => by have := hp _ _ y; omega)]; exact h4
theorem lay40 (hn : 16001 ≤ n) (hw : WB K R N fr) (hK : K ≤ 600) : ∀ (k f : Nat) (r tp g : Int) (μ : Mm), r + k = 8 → 1 ≤ r → k < f → 0 ≤ tp ∧ tp ≤ 100 → 0 ≤ g ∧ g ≤ 100 → MB q μ R → LM μ R N → MW μ R tp N fr → μ.1 306 39 = jv tp → μ.1 306 40 = jv r → ∃ μ1, sh_X12_lay_40 n f (jv g) (jv (itsT R tp N)) μ = some μ1 ∧ LM μ1 R N ∧ MW μ1 R (if itsT R tp N = tp then tp else (rds R N k (itsT R tp N) g).1) N fr ∧ μ1.1 306 39 = jv (if itsT R tp N = tp then tp else (rds R N k (itsT R tp N) g).1) ∧ μ1.1 306 40 = jv (if itsT R tp N = tp then r else r + (rds R N k (itsT R tp N) g).2) ∧ Fm PMY μ μ1 := by
  intro k
  induction k with
  | zero =>
    intro f r tp g μ hr hr1 hf h0 hg hm hl hW e39 e40
    obtain ⟨f, rfl⟩ : ∃ g, f = g + 1 := ⟨f - 1, by omega⟩
    have hit := itsT_b hw hK h0
    rw [sh_X12_lay_40, e40, if_pos (by rw [jv_lit (nat_lit 8), jv_le] <;> omega)]
    unfold sh_X12_lay_101
    rw [e39]
    by_cases z : itsT R tp N = tp
    · rw [if_pos (by rw [z]), if_pos z, if_pos z]
      exact ⟨μ, rfl, hl, hW, e39, e40, Fm.rf⟩
    · rw [if_neg (by rw [jv_eq] <;> omega), if_neg z, if_neg z, pt_eq, Option.bind_some, sI_1, if_pos ⟨rfl, rfl⟩]
      have f0 : Fm (fun k j => k = 306 ∧ j = 39) μ (sI μ 306 39 (jv g)) := Fm.rf.sI ⟨rfl, rfl⟩
      obtain ⟨μ1, a1, b1, f1⟩ := lwM (n := n) hn hw hK hg (hm.fr f0 (fun i _ y => by rcases hm.1 with rfl | rfl <;> omega)) (hl.kp f0 (fun j => ⟨by omega, by omega⟩))
      rw [a1, Option.bind_some]
      simp only [nm_eq]
      refine ⟨μ1, rfl, (hl.kp f0 (fun j => ⟨by omega, by omega⟩)).kp f1 (fun j => ⟨by omega, by omega⟩), b1, ?_, ?_, (f0.mono (fun k j y => (by omega : k = 306 ∧ (j = 17 ∨ 23 ≤ j ∧ j ≤ 26 ∨ 36 ≤ j ∧ j ≤ 40) ∨ 310 ≤ k ∧ k ≤ 324))).tr f1 (fun k j y => by omega)⟩
      · rw [f1.at _ _ (by omega), sI_1, if_pos ⟨rfl, rfl⟩]
        rfl
      · rw [f1.at _ _ (by omega), f0.at _ _ (by omega), e40]
        show jv r = jv (r + 0)
        rw [Int.add_zero]
  | succ k ih =>
    intro f r tp g μ hr hr1 hf h0 hg hm hl hW e39 e40
    obtain ⟨f, rfl⟩ : ∃ g, f = g + 1 := ⟨f - 1, by omega⟩
    have hit := itsT_b hw hK h0
    rw [sh_X12_lay_40, e40, if_neg (by rw [jv_lit (nat_lit 8), jv_le] <;> omega), e39]
    by_cases z : itsT R tp N = tp
    · rw [if_pos (by rw [z]), if_pos z, if_pos z]
      unfold sh_X12_lay_101
      rw [e39, if_pos (by rw [z])]
      exact ⟨μ, rfl, hl, hW, e39, e40, Fm.rf⟩
    · rw [if_neg (by rw [jv_eq] <;> omega), if_neg (by rw [jv_lit (nat_lit 0), jv_eq] <;> omega), if_neg z, if_neg z]
      unfold sh_X12_lay_70
      simp only [jv_lit]
      rw [pt_eq, Option.bind_some, sI_1, if_neg (by omega), e40, jv_add, pt_eq, Option.bind_some, sI_1, if_neg (by omega), sI_1, if_pos ⟨rfl, rfl⟩]
      have f0 : Fm (fun k j => k = 306 ∧ (j = 39 ∨ j = 40)) μ (sI (sI μ 306 39 (jv (itsT R tp N))) 306 40 (jv (r + 1))) := (Fm.rf.sI ⟨rfl, Or.inl rfl⟩).sI ⟨rfl, Or.inr rfl⟩
      have v39 : (sI (sI μ 306 39 (jv (itsT R tp N))) 306 40 (jv (r + 1))).1 306 39 = jv (itsT R tp N) := by rw [sI_1, if_neg (by omega), sI_1, if_pos ⟨rfl, rfl⟩]
      have v40 : (sI (sI μ 306 39 (jv (itsT R tp N))) 306 40 (jv (r + 1))).1 306 40 = jv (r + 1) := by rw [sI_1, if_pos ⟨rfl, rfl⟩]
      generalize (sI (sI μ 306 39 (jv (itsT R tp N))) 306 40 (jv (r + 1))) = μ0 at *
      have hm0 := hm.fr f0 (fun i _ y => by rcases hm.1 with rfl | rfl <;> omega)
      have hl0 := hl.kp f0 (fun j => ⟨by omega, by omega⟩)
      obtain ⟨μ1, a1, b1, f1⟩ := lwM (n := n) hn hw hK hit hm0 hl0
      have hit2 := itsT_b hw hK hit
      rw [a1, Option.bind_some]
      simp only [nm_eq]
      have eg : (if jv g < jv (itsT R (itsT R tp N) N) then jv (itsT R (itsT R tp N) N) else jv g) = jv (if g < itsT R (itsT R tp N) N then itsT R (itsT R tp N) N else g) := by
        by_cases y : g < itsT R (itsT R tp N) N
        · rw [if_pos (by rw [jv_lt] <;> omega), if_pos y]
        · rw [if_neg (by rw [jv_lt] <;> omega), if_neg y]
      rw [eg]
      obtain ⟨μ2, a2, b2, c2, d2, e2, f2⟩ := ih f (r + 1) (itsT R tp N) (if g < itsT R (itsT R tp N) N then itsT R (itsT R tp N) N else g) μ1 (by omega) (by omega) (by omega) hit (by split <;> omega) (hm0.fr f1 (fun i _ y => by rcases hm.1 with rfl | rfl <;> omega)) (hl0.kp f1 (fun j => ⟨by omega, by omega⟩)) b1 (by rw [f1.at _ _ (by omega), v39]) (by rw [f1.at _ _ (by omega), v40])
      have er : rds R N (k + 1) (itsT R tp N) g = if itsT R (itsT R tp N) N = itsT R tp N then (itsT R tp N, 1) else ((rds R N k (itsT R (itsT R tp N) N) (if g < itsT R (itsT R tp N) N then itsT R (itsT R tp N) N else g)).1, (rds R N k (itsT R (itsT R tp N) N) (if g < itsT R (itsT R tp N) N then itsT R (itsT R tp N) N else g)).2 + 1) := rfl
      rw [er]
      refine ⟨μ2, a2, b2, ?_, ?_, ?_, ((f0.mono (fun k j y => (by omega : k = 306 ∧ (j = 17 ∨ 23 ≤ j ∧ j ≤ 26 ∨ 36 ≤ j ∧ j ≤ 40) ∨ 310 ≤ k ∧ k ≤ 324))).tr f1 (fun k j y => by omega)).tr f2 (fun _ _ y => y)⟩
      · by_cases w : itsT R (itsT R tp N) N = itsT R tp N
        · rw [if_pos w] at c2 ⊢
          exact c2
        · rw [if_neg w] at c2 ⊢
          exact c2
      · by_cases w : itsT R (itsT R tp N) N = itsT R tp N
        · rw [if_pos w] at d2 ⊢
          exact d2
        · rw [if_neg w] at d2 ⊢
          exact d2
      · by_cases w : itsT R (itsT R tp N) N = itsT R tp N
        · rw [if_pos w] at e2 ⊢
          exact e2
        · rw [if_neg w] at e2 ⊢
          rw [e2]
          congr 1
          show r + 1 + _ = r + (_ + 1)
          omega
theorem layMM (hn : 16001 ≤ n) (hw : WB K R N fr) (hK : K ≤ 600) {μ : Mm} (hm : MB q μ R) : ∃ μ1, sh_X12_lay n μ = some μ1 ∧ MY μ1 R N fr ∧ Fm PMY μ μ1 := by
  have h1 := hw.1
  obtain ⟨μ1, a1, l1, f1⟩ := layLM (n := n) (by omega) hw hm
  unfold sh_X12_lay
  simp only [jv_lit]
  rw [a1, Option.bind_some, pt_eq, Option.bind_some, pt_eq, Option.bind_some]
  have f2 : Fm (fun k j => k = 306 ∧ (j = 39 ∨ j = 40)) μ1 (sI (sI μ1 306 40 (jv 0)) 306 39 (jv 0)) := (Fm.rf.sI ⟨rfl, Or.inr rfl⟩).sI ⟨rfl, Or.inl rfl⟩
  have v39 : (sI (sI μ1 306 40 (jv 0)) 306 39 (jv 0)).1 306 39 = jv 0 := by rw [sI_1, if_pos ⟨rfl, rfl⟩]
  have v40 : (sI (sI μ1 306 40 (jv 0)) 306 39 (jv 0)).1 306 40 = jv 0 := by rw [sI_1, if_neg (by omega), sI_1, if_pos ⟨rfl, rfl⟩]
  generalize (sI (sI μ1 306 40 (jv 0)) 306 39 (jv 0)) = μ2 at *
  have hm2 := (hm.fr f1 (fun i _ y => by rcases hm.1 with rfl | rfl <;> omega)).fr f2 (fun i _ y => by rcases hm.1 with rfl | rfl <;> omega)
  have hl2 := l1.kp f2 (fun j => ⟨by omega, by omega⟩)
  have g2 : Fm PMY μ μ2 := (f1.mono (fun k j y => (by omega : k = 306 ∧ (j = 17 ∨ 23 ≤ j ∧ j ≤ 26 ∨ 36 ≤ j ∧ j ≤ 40) ∨ 310 ≤ k ∧ k ≤ 324))).tr f2 (fun k j y => by omega)
  rw [hm2.r9, Option.bind_some, h1.1]
  by_cases z : N = 0
  · have htp : tpF R N = 0 := by unfold tpF; rw [if_pos z]
    have hrn : rnF R N = 0 := by unfold rnF; rw [if_pos z]
    obtain ⟨μ3, a3, b3, f3⟩ := lwM (n := n) hn hw hK (tp := 0) (by omega) hm2 hl2
    rw [if_pos (by rw [z]; rfl), a3, Option.bind_some]
    refine ⟨μ3, rfl, ⟨hl2.kp f3 (fun j => ⟨by omega, by omega⟩), ?_, ?_, ?_⟩, g2.tr f3 (fun k j y => by omega)⟩
    · rw [htp]; exact b3
    · rw [htp, f3.at _ _ (by omega), v39]
    · rw [hrn, f3.at _ _ (by omega), v40]
  · rw [if_neg (by rw [jv_eq] <;> omega), pt_eq, Option.bind_some]
    obtain ⟨m, rfl⟩ : ∃ m, n = m + 1 := ⟨n - 1, by omega⟩
    have f3 : Fm (fun k j => k = 306 ∧ j = 39) μ2 (sI μ2 306 39 (jv 1)) := Fm.rf.sI ⟨rfl, rfl⟩
    have w39 : (sI μ2 306 39 (jv 1)).1 306 39 = jv 1 := by rw [sI_1, if_pos ⟨rfl, rfl⟩]
    have w40 : (sI μ2 306 39 (jv 1)).1 306 40 = jv 0 := by rw [sI_1, if_neg (by omega), v40]
    generalize (sI μ2 306 39 (jv 1)) = μ3 at *
    have hm3 := hm2.fr f3 (fun i _ y => by rcases hm.1 with rfl | rfl <;> omega)
    have hl3 := hl2.kp f3 (fun j => ⟨by omega, by omega⟩)
    rw [sh_X12_lay_40, w40, if_neg (by rw [jv_lit (nat_lit 8), jv_le] <;> omega), w39, if_neg (by rw [jv_eq] <;> omega), if_pos (by rw [jv_lit (nat_lit 0)])]
    unfold sh_X12_lay_70
    simp only [jv_lit]
    rw [pt_eq, Option.bind_some, sI_1, if_neg (by omega), w40, jv_add, pt_eq, Option.bind_some, sI_1, if_neg (by omega), sI_1, if_pos ⟨rfl, rfl⟩]
    have f4 : Fm (fun k j => k = 306 ∧ (j = 39 ∨ j = 40)) μ3 (sI (sI μ3 306 39 (jv 1)) 306 40 (jv (0 + 1))) := (Fm.rf.sI ⟨rfl, Or.inl rfl⟩).sI ⟨rfl, Or.inr rfl⟩
    have x39 : (sI (sI μ3 306 39 (jv 1)) 306 40 (jv (0 + 1))).1 306 39 = jv 1 := by rw [sI_1, if_neg (by omega), sI_1, if_pos ⟨rfl, rfl⟩]
    have x40 : (sI (sI μ3 306 39 (jv 1)) 306 40 (jv (0 + 1))).1 306 40 = jv 1 := by rw [sI_1, if_pos ⟨rfl, rfl⟩]; rfl
    generalize (sI (sI μ3 306 39 (jv 1)) 306 40 (jv (0 + 1))) = μ4 at *
    have hm4 := hm3.fr f4 (fun i _ y => by rcases hm.1 with rfl | rfl <;> omega)
    have hl4 := hl3.kp f4 (fun j => ⟨by omega, by omega⟩)
    obtain ⟨μ5, a5, b5, f5⟩ := lwM (n := m + 1) hn hw hK (tp := 1) (by omega) hm4 hl4
    have hit := itsT_b hw hK (tp := 1) (N := N) (by omega)
    rw [a5, Option.bind_some]
    simp only [nm_eq]
    have eg : (if jv 0 < jv (itsT R 1 N) then jv (itsT R 1 N) else jv 0) = jv (if 0 < itsT R 1 N then itsT R 1 N else 0) := by
      by_cases y : 0 < itsT R 1 N
      · rw [if_pos (by rw [jv_lt] <;> omega), if_pos y]
      · rw [if_neg (by rw [jv_lt] <;> omega), if_neg y]
    rw [eg]
    obtain ⟨μ6, a6, b6, c6, d6, e6, f6⟩ := lay40 (n := m + 1) hn hw hK 7 m 1 1 (if 0 < itsT R 1 N then itsT R 1 N else 0) μ5 (by omega) (by omega) (by omega) (by omega) (by split <;> omega) (hm4.fr f5 (fun i _ y => by rcases hm.1 with rfl | rfl <;> omega)) (hl4.kp f5 (fun j => ⟨by omega, by omega⟩)) b5 (by rw [f5.at _ _ (by omega), x39]) (by rw [f5.at _ _ (by omega), x40])
    have er : rds R N 8 1 0 = if itsT R 1 N = 1 then (1, 1) else ((rds R N 7 (itsT R 1 N) (if 0 < itsT R 1 N then itsT R 1 N else 0)).1, (rds R N 7 (itsT R 1 N) (if 0 < itsT R 1 N then itsT R 1 N else 0)).2 + 1) := rfl
    have htp : tpF R N = if itsT R 1 N = 1 then 1 else (rds R N 7 (itsT R 1 N) (if 0 < itsT R 1 N then itsT R 1 N else 0)).1 := by
      unfold tpF
      rw [if_neg z, er]
      by_cases w : itsT R 1 N = 1
      · rw [if_pos w, if_pos w]
      · rw [if_neg w, if_neg w]
    have hrn : rnF R N = if itsT R 1 N = 1 then 1 else 1 + (rds R N 7 (itsT R 1 N) (if 0 < itsT R 1 N then itsT R 1 N else 0)).2 := by
      unfold rnF
      rw [if_neg z, er]
      by_cases w : itsT R 1 N = 1
      · rw [if_pos w, if_pos w]
      · rw [if_neg w, if_neg w]
        show _ + 1 = 1 + _
        omega
    refine ⟨μ6, a6, ⟨b6, by rw [htp]; exact c6, by rw [htp]; exact d6, by rw [hrn]; exact e6⟩, (((g2.tr f3 (fun k j y => by omega)).tr f4 (fun k j y => by omega)).tr f5 (fun k j y => by omega)).tr f6 (fun _ _ y => y)⟩
end LAYM
