/-! PAGES: sections flow one behind the other -/
def hdl (R : Nat → Int) (s : Nat) : Int := if lev R s = 1 then 3 else 1
def flB (R : Nat → Int) (s : Nat) (p : Int × Int) : Int × Int :=
  if lev R s = 1 then
    (if R 8 = 1 ∧ (if 0 < p.2 then p.1 + 1 else p.1) % 2 = 0 then (if 0 < p.2 then p.1 + 1 else p.1) + 1 else (if 0 < p.2 then p.1 + 1 else p.1), 0)
  else if R 2 - p.2 < 2 then (p.1 + 1, 0) else p
def flE (R : Nat → Int) (s : Nat) (p : Int × Int) : Int × Int :=
  ((flB R s p).1 + ((flB R s p).2 + hdl R s + lng R s - 1) / R 2, (flB R s p).2 + hdl R s + lng R s - ((flB R s p).2 + hdl R s + lng R s - 1) / R 2 * R 2)
def flw (R : Nat → Int) (p : Int) (a : Int) : Nat → Int × Int
  | 0 => (a, 0)
  | s + 1 => if prt R s = p then flE R s (flw R p a s) else flw R p a s
def fst (R : Nat → Int) (tp : Int) (s : Nat) : Int := if prt R s = 0 then tp + 1 else 1
def pgs (R : Nat → Int) (tp : Int) (s : Nat) : Int := (flB R s (flw R (prt R s) (fst R tp s) s)).1
def lns (R : Nat → Int) (tp : Int) (s : Nat) : Int := (flB R s (flw R (prt R s) (fst R tp s) s)).2
def bhd (R : Nat → Int) (tp : Int) (N fr : Nat) : Int := if 0 < fr then (flw R 0 (tp + 1) N).1 + 1 else tp + 1
def mnP (R : Nat → Int) (N fr : Nat) : Int := if fr < N then (flw R 1 1 N).1 else 0
def bgM (R : Nat → Int) (tp : Int) (N fr : Nat) : Int := if R 8 = 1 ∧ bhd R tp N fr % 2 = 0 then bhd R tp N fr + 1 else bhd R tp N fr
def mBg (R : Nat → Int) (tp : Int) (N fr : Nat) : Int := if fr < N then bgM R tp N fr else 0
def lsP (R : Nat → Int) (tp : Int) (N fr : Nat) : Int := if fr < N then bgM R tp N fr + mnP R N fr - 1 else bhd R tp N fr - 1
def bkp (R : Nat → Int) (tp : Int) (N fr s : Nat) : Int := if prt R s = 0 then pgs R tp s else bgM R tp N fr + pgs R tp s - 1
def prn (R : Nat → Int) (tp : Int) (s : Nat) : List Int := if prt R s = 0 then ro (pgs R tp s) else ar (pgs R tp s)
def nwd (R : Nat → Int) (tp : Int) (s : Nat) : Int := wsum (prn R tp s)
section PG
variable {R : Nat → Int} {K : Int} {N fr s : Nat}
theorem flB_b (hw : WB K R N fr) (hs : s < N) {p : Int × Int} (h1 : 0 ≤ p.2) (h2 : p.2 ≤ R 2) : p.1 ≤ (flB R s p).1 ∧ (flB R s p).1 ≤ p.1 + 2 ∧ 0 ≤ (flB R s p).2 ∧ (flB R s p).2 + 2 ≤ R 2 := by
  have hP := hw.2.2.2.1
  unfold flB
  split
  · split <;> split <;> refine ⟨?_, ?_, ?_, ?_⟩ <;> (try simp only []) <;> omega
  · split <;> refine ⟨?_, ?_, ?_, ?_⟩ <;> (try simp only []) <;> omega
theorem dv5 {t P : Int} (h0 : 0 ≤ t) (h : t ≤ 800) (hP : 5 ≤ P) (hP2 : P ≤ 99) : 0 ≤ t / P ∧ t / P ≤ 160 ∧ t / P * P ≤ t ∧ t < t / P * P + P := by
  have e1 : t / P * P ≤ t := Int.ediv_mul_le t (by omega)
  have e2 : t < t / P * P + P := by
    have h3 := Int.lt_ediv_add_one_mul_self t (show 0 < P by omega)
    rw [Int.add_mul, Int.one_mul] at h3
    exact h3
  have e0 : 0 ≤ t / P := Int.ediv_nonneg h0 (by omega)
  refine ⟨e0, ?_, e1, e2⟩
  have : t / P * 5 ≤ t / P * P := Int.mul_le_mul_of_nonneg_left hP e0
  omega
theorem flE_b (hw : WB K R N fr) (hK : K ≤ 600) (hs : s < N) {p : Int × Int} (h1 : 0 ≤ p.2) (h2 : p.2 ≤ R 2) : p.1 ≤ (flE R s p).1 ∧ (flE R s p).1 ≤ p.1 + 162 ∧ 1 ≤ (flE R s p).2 ∧ (flE R s p).2 ≤ R 2 := by
  have hP := hw.2.2.2.1
  have hb := flB_b hw hs h1 h2
  have hl := (hw.sec hs).2.2.1
  have hh : 1 ≤ hdl R s ∧ hdl R s ≤ 3 := by unfold hdl; split <;> omega
  have hd := dv5 (t := (flB R s p).2 + hdl R s + lng R s - 1) (P := R 2) (by omega) (by omega) hP.1 hP.2
  unfold flE
  refine ⟨?_, ?_, ?_, ?_⟩ <;> (try simp only []) <;> omega
theorem flw_b (hw : WB K R N fr) (hK : K ≤ 600) (q a : Int) : ∀ i, i ≤ N → a ≤ (flw R q a i).1 ∧ (flw R q a i).1 ≤ a + 162 * i ∧ 0 ≤ (flw R q a i).2 ∧ (flw R q a i).2 ≤ R 2 := by
  have hP := hw.2.2.2.1
  intro i
  induction i with
  | zero => intro _; exact ⟨Int.le_refl _, by show a ≤ a + 162 * 0; omega, Int.le_refl _, by show (0 : Int) ≤ R 2; omega⟩
  | succ i ih =>
    intro hi
    have h := ih (by omega)
    rw [flw]
    split
    · have := flE_b hw hK (s := i) (by omega) h.2.2.1 h.2.2.2
      omega
    · omega
theorem pgs_b (hw : WB K R N fr) (hK : K ≤ 600) (hs : s < N) {tp : Int} (h0 : 0 ≤ tp) (h1 : tp ≤ 100) : 1 ≤ pgs R tp s ∧ pgs R tp s < 3992 ∧ 0 ≤ lns R tp s ∧ lns R tp s ≤ 99 := by
  have hP := hw.2.2.2.1
  have hN := hw.1.2.1
  have hf : 1 ≤ fst R tp s ∧ fst R tp s ≤ tp + 1 := by unfold fst; split <;> omega
  have h := flw_b hw hK (prt R s) (fst R tp s) s (by omega)
  have hb := flB_b hw hs h.2.2.1 h.2.2.2
  unfold pgs lns
  omega
theorem prn_len (hw : WB K R N fr) (hK : K ≤ 600) (hs : s < N) {tp : Int} (h0 : 0 ≤ tp) (h1 : tp ≤ 100) : (prn R tp s).length ≤ 15 ∧ okT (prn R tp s) := by
  have hp := pgs_b hw hK hs h0 h1
  have ha := ar_len (pgs R tp s)
  have hr := ro_len (v := pgs R tp s) (by omega) (by omega)
  unfold prn
  split
  · exact ⟨hr, okT_ro⟩
  · exact ⟨by omega, okT_ar⟩
theorem nwd_b (hw : WB K R N fr) (hK : K ≤ 600) (hs : s < N) {tp : Int} (h0 : 0 ≤ tp) (h1 : tp ≤ 100) : 0 ≤ nwd R tp s ∧ nwd R tp s ≤ 45 := by
  have h := (prn_len hw hK hs h0 h1).1
  have := wsum_b (prn R tp s)
  unfold nwd
  omega
/-! the model -/
abbrev PFl (s : Nat) : Nat → Nat → Prop := fun k j => k = 306 ∧ (j = 25 ∨ j = 26) ∨ (k = 314 ∨ k = 315) ∧ j = s
theorem flow96 {q : Nat} {μ : Mm} (hm : MB q μ R) (hw : WB K R N fr) (hK : K ≤ 600) (hs : s < N) {pg l c : Int} (hp : 0 ≤ pg ∧ pg ≤ 100000) (hl : 0 ≤ l ∧ l ≤ 99) (hc : c = if lev R s = 1 then 1 else 0) (h1 : μ.1 306 25 = jv pg) (h2 : μ.1 306 26 = jv l) : ∃ μ1, sh_X12_flow_96 (jv s) (jv c) (jv (R 2)) μ = some μ1 ∧ Fm (PFl s) μ μ1 ∧ μ1.1 314 s = jv pg ∧ μ1.1 315 s = jv l ∧ μ1.1 306 25 = jv (pg + (l + hdl R s + lng R s - 1) / R 2) ∧ μ1.1 306 26 = jv (l + hdl R s + lng R s - (l + hdl R s + lng R s - 1) / R 2 * R 2) := by
  have hN := hw.1.2.1
  have hP := hw.2.2.2.1
  have hlg := (hw.sec hs).2.2.1
  have hh : 1 ≤ hdl R s ∧ hdl R s ≤ 3 := by unfold hdl; split <;> omega
  have hd := dv5 (t := l + hdl R s + lng R s - 1) (P := R 2) (by omega) (by omega) hP.1 hP.2
  have l1 : ln 314 = 24 := rfl
  have l2 : ln 315 = 24 := rfl
  unfold sh_X12_flow_96
  rw [st_jv (by omega) (by omega), Option.bind_some, st_jv (by omega) (by omega), Option.bind_some, Int.toNat_natCast]
  simp only [jv_lit]
  have hf0 : Fm (PFl s) μ (sI (sI μ 314 s (μ.1 306 25)) 315 s ((sI μ 314 s (μ.1 306 25)).1 306 26)) := (Fm.rf.sI (Or.inr ⟨Or.inl rfl, rfl⟩)).sI (Or.inr ⟨Or.inr rfl, rfl⟩)
  have a1 : (sI (sI μ 314 s (μ.1 306 25)) 315 s ((sI μ 314 s (μ.1 306 25)).1 306 26)).1 306 25 = jv pg := by rw [sI_1, if_neg (by omega), sI_1, if_neg (by omega), h1]
  have a2 : (sI (sI μ 314 s (μ.1 306 25)) 315 s ((sI μ 314 s (μ.1 306 25)).1 306 26)).1 306 26 = jv l := by rw [sI_1, if_neg (by omega), sI_1, if_neg (by omega), h2]
  have a3 : (sI (sI μ 314 s (μ.1 306 25)) 315 s ((sI μ 314 s (μ.1 306 25)).1 306 26)).1 314 s = jv pg := by rw [sI_1, if_neg (by omega), sI_1, if_pos ⟨rfl, rfl⟩, h1]
  have a4 : (sI (sI μ 314 s (μ.1 306 25)) 315 s ((sI μ 314 s (μ.1 306 25)).1 306 26)).1 315 s = jv l := by rw [sI_1, if_pos ⟨rfl, rfl⟩, sI_1, if_neg (by omega), h2]
  have hm0 := hm.fr hf0 (fun i _ y => by rcases hm.1 with rfl | rfl <;> omega)
  have e129 : ∀ d : Int, d = hdl R s → ∃ μ1, sh_X12_flow_129 (jv s) (jv (R 2)) (jv l) (jv d) (sI (sI μ 314 s (μ.1 306 25)) 315 s ((sI μ 314 s (μ.1 306 25)).1 306 26)) = some μ1 ∧ Fm (PFl s) μ μ1 ∧ μ1.1 314 s = jv pg ∧ μ1.1 315 s = jv l ∧ μ1.1 306 25 = jv (pg + (l + hdl R s + lng R s - 1) / R 2) ∧ μ1.1 306 26 = jv (l + hdl R s + lng R s - (l + hdl R s + lng R s - 1) / R 2 * R 2) := by
    intro d hd'
    subst hd'
    unfold sh_X12_flow_129
    simp only [jv_lit]
    generalize (sI (sI μ 314 s (μ.1 306 25)) 315 s ((sI μ 314 s (μ.1 306 25)).1 306 26)) = μ0 at *
    rw [hm0.oN (by omega), Option.bind_some, nm_eq, jv_add, jv_add, jv_sub, dv_jv (by omega) (by omega) (by omega) (by omega), Option.bind_some, pt_eq, Option.bind_some, Option.bind_some, a1, jv_add, jv_mul, jv_sub, pt_eq, Option.bind_some]
    refine ⟨_, rfl, (hf0.sI (Or.inl ⟨rfl, Or.inl rfl⟩)).sI (Or.inl ⟨rfl, Or.inr rfl⟩), ?_, ?_, ?_, ?_⟩
    · rw [sI_1, if_neg (by omega), sI_1, if_neg (by omega), a3]
    · rw [sI_1, if_neg (by omega), sI_1, if_neg (by omega), a4]
    · rw [sI_1, if_neg (by omega), sI_1, if_pos ⟨rfl, rfl⟩]
    · rw [sI_1, if_pos ⟨rfl, rfl⟩]
  rw [a2]
  by_cases z : lev R s = 1
  · rw [if_pos z] at hc
    subst hc
    rw [if_neg (by rw [jv_eq] <;> omega)]
    exact e129 3 (by unfold hdl; rw [if_pos z])
  · rw [if_neg z] at hc
    subst hc
    rw [if_pos rfl]
    exact e129 1 (by unfold hdl; rw [if_neg z])
theorem flowM {q : Nat} {μ : Mm} (hm : MB q μ R) (hw : WB K R N fr) (hK : K ≤ 600) (hs : s < N) {p : Int × Int} (hp : 0 ≤ p.1 ∧ p.1 ≤ 10000) (hl : 0 ≤ p.2 ∧ p.2 ≤ R 2) (h1 : μ.1 306 25 = jv p.1) (h2 : μ.1 306 26 = jv p.2) : ∃ μ1, sh_X12_flow (jv s) μ = some μ1 ∧ Fm (PFl s) μ μ1 ∧ μ1.1 314 s = jv (flB R s p).1 ∧ μ1.1 315 s = jv (flB R s p).2 ∧ μ1.1 306 25 = jv (flE R s p).1 ∧ μ1.1 306 26 = jv (flE R s p).2 := by
  have hN := hw.1.2.1
  have hP := hw.2.2.2.1
  have h8 := hw.2.2.2.2.2.2.2.2.2.1
  have hlv := (hw.sec hs).2.1
  have hb := flB_b hw hs hl.1 hl.2
  -- the break
  have k62 : ∀ (μ0 : Mm) (c pg l : Int), Fm (PFl s) μ μ0 → c = (if lev R s = 1 then 1 else 0) → 0 ≤ pg ∧ pg ≤ 10001 → 0 ≤ l ∧ l ≤ 99 → μ0.1 306 25 = jv pg → μ0.1 306 26 = jv l → flB R s p = (if lev R s = 1 ∧ R 8 = 1 ∧ pg % 2 = 0 then pg + 1 else pg, l) → ∃ μ1, sh_X12_flow_62 (jv s) (jv c) (jv (R 2)) μ0 = some μ1 ∧ Fm (PFl s) μ μ1 ∧ μ1.1 314 s = jv (flB R s p).1 ∧ μ1.1 315 s = jv (flB R s p).2 ∧ μ1.1 306 25 = jv (flE R s p).1 ∧ μ1.1 306 26 = jv (flE R s p).2 := by
    intro μ0 c pg l hf hc hpg hl' e1 e2 hfl
    have hm0 := hm.fr hf (fun i _ y => by rcases hm.1 with rfl | rfl <;> omega)
    have fin : ∀ (μ2 : Mm) (pg2 : Int), Fm (PFl s) μ μ2 → 0 ≤ pg2 ∧ pg2 ≤ 10002 → μ2.1 306 25 = jv pg2 → μ2.1 306 26 = jv l → flB R s p = (pg2, l) → ∃ μ1, sh_X12_flow_96 (jv s) (jv c) (jv (R 2)) μ2 = some μ1 ∧ Fm (PFl s) μ μ1 ∧ μ1.1 314 s = jv (flB R s p).1 ∧ μ1.1 315 s = jv (flB R s p).2 ∧ μ1.1 306 25 = jv (flE R s p).1 ∧ μ1.1 306 26 = jv (flE R s p).2 := by
      intro μ2 pg2 hf2 hpg2 g1 g2 hfl2
      obtain ⟨μ1, a, b, c1, c2, c3, c4⟩ := flow96 (hm.fr hf2 (fun i _ y => by rcases hm.1 with rfl | rfl <;> omega)) hw hK hs (pg := pg2) (l := l) (c := c) (by omega) hl' hc g1 g2
      refine ⟨μ1, a, hf2.tr b (fun _ _ z => z), ?_, ?_, ?_, ?_⟩
      · rw [hfl2]; exact c1
      · rw [hfl2]; exact c2
      · unfold flE; rw [hfl2]; exact c3
      · unfold flE; rw [hfl2]; exact c4
    unfold sh_X12_flow_62
    simp only [jv_lit]
    by_cases z : lev R s = 1
    · rw [if_pos z] at hc
      rw [if_neg (by rw [hc, jv_eq] <;> omega), hm0.r8, Option.bind_some]
      by_cases z8 : R 8 = 1
      · rw [if_pos (by rw [z8]), e1, rm_jv (by omega) (by omega) (by omega) (by omega), Option.bind_some]
        by_cases z2 : pg % 2 = 0
        · rw [if_pos ⟨z, z8, z2⟩] at hfl
          rw [if_pos (by rw [z2]), jv_add, pt_eq, Option.bind_some]
          exact fin _ (pg + 1) (hf.sI (Or.inl ⟨rfl, Or.inl rfl⟩)) (by omega) (by rw [sI_1, if_pos ⟨rfl, rfl⟩]) (by rw [sI_1, if_neg (by omega)]; exact e2) hfl
        · rw [if_neg (fun y => z2 y.2.2)] at hfl
          rw [if_neg (by rw [jv_eq] <;> omega)]
          exact fin _ pg hf (by omega) e1 e2 hfl
      · rw [if_neg (fun y => z8 y.2.1)] at hfl
        rw [if_neg (by rw [jv_eq] <;> omega)]
        exact fin _ pg hf (by omega) e1 e2 hfl
    · rw [if_neg (fun y => z y.1)] at hfl
      rw [if_neg z] at hc
      rw [if_pos (by rw [hc])]
      exact fin _ pg hf (by omega) e1 e2 hfl
  have k47 : ∀ (c : Int), c = (if lev R s = 1 then 1 else 0) → flB R s p = (if lev R s = 1 ∧ R 8 = 1 ∧ (p.1 + 1) % 2 = 0 then p.1 + 1 + 1 else p.1 + 1, 0) → ∃ μ1, sh_X12_flow_47 (jv s) (jv c) (jv (R 2)) μ = some μ1 ∧ Fm (PFl s) μ μ1 ∧ μ1.1 314 s = jv (flB R s p).1 ∧ μ1.1 315 s = jv (flB R s p).2 ∧ μ1.1 306 25 = jv (flE R s p).1 ∧ μ1.1 306 26 = jv (flE R s p).2 := by
    intro c hc hfl
    unfold sh_X12_flow_47
    simp only [jv_lit]
    rw [h1, jv_add, pt_eq, Option.bind_some, pt_eq, Option.bind_some]
    exact k62 _ c (p.1 + 1) 0 ((Fm.rf.sI (Or.inl ⟨rfl, Or.inl rfl⟩)).sI (Or.inl ⟨rfl, Or.inr rfl⟩)) hc (by omega) (by omega) (by rw [sI_1, if_neg (by omega), sI_1, if_pos ⟨rfl, rfl⟩]) (by rw [sI_1, if_pos ⟨rfl, rfl⟩]) hfl
  unfold sh_X12_flow sh_X12_flow_15
  simp only [jv_lit]
  rw [hm.oL (by omega), Option.bind_some]
  by_cases z : lev R s = 1
  · rw [if_pos (by rw [z]), hm.r2, Option.bind_some, if_neg (by rw [jv_eq] <;> omega), h2]
    by_cases z2 : 0 < p.2
    · rw [if_neg (by rw [jv_le] <;> omega)]
      refine k47 1 (by rw [if_pos z]) ?_
      unfold flB
      rw [if_pos z, if_pos z2]
      by_cases y : R 8 = 1 ∧ (p.1 + 1) % 2 = 0
      · rw [if_pos y, if_pos ⟨z, y⟩]
      · rw [if_neg y, if_neg (fun x => y x.2)]
    · rw [if_pos (by rw [jv_le] <;> omega)]
      refine k62 μ 1 p.1 p.2 Fm.rf (by rw [if_pos z]) (by omega) (by omega) h1 h2 ?_
      unfold flB
      rw [if_pos z, if_neg z2, show p.2 = 0 by omega]
      by_cases y : R 8 = 1 ∧ p.1 % 2 = 0
      · rw [if_pos y, if_pos ⟨z, y⟩]
      · rw [if_neg y, if_neg (fun x => y x.2)]
  · rw [if_neg (by rw [jv_eq] <;> omega), hm.r2, Option.bind_some, if_pos trivial, h2, jv_sub]
    by_cases z2 : R 2 - p.2 < 2
    · rw [if_neg (by rw [jv_le] <;> omega)]
      refine k47 0 (by rw [if_neg z]) ?_
      unfold flB
      rw [if_neg z, if_pos z2, if_neg (fun x => z x.1)]
    · rw [if_pos (by rw [jv_le] <;> omega)]
      refine k62 μ 0 p.1 p.2 Fm.rf (by rw [if_neg z]) (by omega) (by omega) h1 h2 ?_
      unfold flB
      rw [if_neg z, if_neg z2, if_neg (fun x => z x.1)]
end PG
