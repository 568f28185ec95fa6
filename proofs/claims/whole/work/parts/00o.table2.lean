/-! THE TABLE of the class -/
def AT (pl : Nat → Nat) (C mk mj : Nat) (μ : Mm) (T : Tb) : Prop := μ.1 mk mj = jv T.1 ∧ ∀ c, c < C → ∀ i, i < T.1 → μ.1 (pl c) i = jv (T.2 c i)
theorem AT.set {pl : Nat → Nat} {C mk mj : Nat} {μ : Mm} {T : Tb} (h : AT pl C mk mj μ T) (hi : ∀ c, c < C → ∀ d, d < C → pl c = pl d → c = d) (hm : ∀ c, c < C → pl c ≠ mk) {c : Nat} (hc : c < C) (i : Nat) (v : Int) : AT pl C mk mj (sI μ (pl c) i (jv v)) (tSet T i c v) := by
  refine ⟨?_, fun d hd j hj => ?_⟩
  · rw [sI_1, if_neg (fun y => hm c hc y.1.symm)]
    exact h.1
  · rw [sI_1, tSet_2]
    by_cases z : d = c ∧ j = i
    · rw [if_pos z, if_pos ⟨by rw [z.1], z.2⟩]
    · rw [if_neg z, if_neg (fun y => z ⟨hi d hd c hc y.1, y.2⟩)]
      exact h.2 d hd j hj
theorem AT.out {pl : Nat → Nat} {C mk mj : Nat} {μ : Mm} {T : Tb} (h : AT pl C mk mj μ T) {c : Nat} (hc : C ≤ c) (i : Nat) (v : Int) : AT pl C mk mj μ (tSet T i c v) := ⟨h.1, fun d hd j hj => by rw [tSet_2, if_neg (by omega)]; exact h.2 d hd j hj⟩
theorem AT.opn {pl : Nat → Nat} {C mk mj : Nat} {μ μ' : Mm} {T : Tb} (h : AT pl C mk mj μ T) {s st tk w : Int} (h1 : μ'.1 mk mj = jv ((T.1 : Int) + 1)) (h2 : ∀ c, c < C → ∀ i, i < T.1 → μ'.1 (pl c) i = μ.1 (pl c) i) (h3 : ∀ c, c < C → μ'.1 (pl c) T.1 = jv (tRow s st (st + w) tk c)) : AT pl C mk mj μ' (tOpen T s st tk w) := by
  refine ⟨h1, fun c hc i hi => ?_⟩
  rw [tOpen_1] at hi
  rw [tOpen_2]
  by_cases z : i = T.1
  · subst z
    rw [if_pos rfl, h3 c hc]
  · rw [if_neg z, h2 c hc i (by omega)]
    exact h.2 c hc i (by omega)
theorem AT.kp {pl : Nat → Nat} {C mk mj : Nat} {μ μ' : Mm} {T : Tb} (h : AT pl C mk mj μ T) {P : Nat → Nat → Prop} (hf : Fm P μ μ') (h1 : ¬ P mk mj) (h2 : ∀ c, c < C → ∀ i, ¬ P (pl c) i) : AT pl C mk mj μ' T := ⟨by rw [hf.2 _ _ h1]; exact h.1, fun c hc i hi => by rw [hf.2 _ _ (h2 c hc i)]; exact h.2 c hc i hi⟩
theorem lt5 {c : Nat} (h : c < 5) : c = 0 ∨ c = 1 ∨ c = 2 ∨ c = 3 ∨ c = 4 := by omega
theorem lt8 {c : Nat} (h : c < 8) : c = 0 ∨ c = 1 ∨ c = 2 ∨ c = 3 ∨ c = 4 ∨ c = 5 ∨ c = 6 ∨ c = 7 := by omega
def okTb (t : Nat) : Prop := ln (t + 2) = 192 ∧ ln (t + 4) = 192 ∧ ln (t + 6) = 192 ∧ ln (t + 8) = 192 ∧ ln (t + 10) = 192 ∧ ln (t + 12) = 24 ∧ ln (t + 14) = 24 ∧ ln (t + 16) = 24 ∧ ln (t + 18) = 24
abbrev AC (t : Nat) : Mm → Tb → Prop := AT (fun c => t + 2 + 2 * c) 5 t 2
theorem AC.set {t : Nat} {μ : Mm} {T : Tb} (h : AC t μ T) {c : Nat} (hc : c < 5) (i : Nat) (v : Int) : AC t (sI μ (t + 2 + 2 * c) i (jv v)) (tSet T i c v) := AT.set h (fun c _ d _ e => by have e' : t + 2 + 2 * c = t + 2 + 2 * d := e; omega) (fun c _ e => by have e' : t + 2 + 2 * c = t := e; omega) hc i v
abbrev PTt (t : Nat) : Nat → Nat → Prop := fun k j => k = t ∧ j = 2 ∨ t + 2 ≤ k ∧ k ≤ t + 10
theorem AC.opn {t : Nat} {μ : Mm} {T : Tb} (ho : okTb t) (h : AC t μ T) (hT : T.1 < 192) (s st tk w : Int) : ∃ μ1, sh_X7_openLine t (jv s) (jv st) (jv tk) (jv w) μ = some μ1 ∧ AC t μ1 (tOpen T s st tk w) ∧ Fm (PTt t) μ μ1 := by
  have l1 : ln (t + 1 + 1) = 192 := ho.1
  have l2 : ln (t + 3 + 1) = 192 := ho.2.1
  have l3 : ln (t + 5 + 1) = 192 := ho.2.2.1
  have l4 : ln (t + 7 + 1) = 192 := ho.2.2.2.1
  have l5 : ln (t + 9 + 1) = 192 := ho.2.2.2.2.1
  unfold sh_X7_openLine
  simp only [jv_lit]
  rw [h.1, jv_add, p5_in (by omega) (by omega), Option.bind_some, sI_1, if_neg (by omega), h.1, p5_in (by omega) (by omega), Option.bind_some, sI_1, if_neg (by omega), sI_1, if_neg (by omega), h.1, p5_in (by omega) (by omega), Option.bind_some, sI_1, if_neg (by omega), sI_1, if_neg (by omega), sI_1, if_neg (by omega), h.1, p5_in (by omega) (by omega), Option.bind_some, sI_1, if_neg (by omega), sI_1, if_neg (by omega), sI_1, if_neg (by omega), sI_1, if_neg (by omega), h.1, p5_in (by omega) (by omega), Option.bind_some, sI_1, if_neg (by omega), sI_1, if_neg (by omega), sI_1, if_neg (by omega), sI_1, if_neg (by omega), sI_1, if_neg (by omega), h.1, pt_eq, Option.bind_some, jv_add, Int.toNat_natCast]
  refine ⟨_, rfl, AT.opn h ?_ ?_ ?_, ?_⟩
  · rw [sI_1, if_pos ⟨rfl, rfl⟩]
  · intro c hc i hi
    simp only [sI_1]
    rw [if_neg (by omega), if_neg (by omega), if_neg (by omega), if_neg (by omega), if_neg (by omega), if_neg (by omega)]
  · intro c hc
    simp only [sI_1]
    rcases lt5 hc with rfl | rfl | rfl | rfl | rfl
    · rw [if_neg (by omega), if_neg (by omega), if_neg (by omega), if_neg (by omega), if_neg (by omega), if_pos ⟨by omega, trivial⟩]
      rfl
    · rw [if_neg (by omega), if_neg (by omega), if_neg (by omega), if_neg (by omega), if_pos ⟨by omega, trivial⟩]
      rfl
    · rw [if_neg (by omega), if_neg (by omega), if_neg (by omega), if_pos ⟨by omega, trivial⟩]
      rfl
    · rw [if_neg (by omega), if_neg (by omega), if_pos ⟨by omega, trivial⟩]
      rfl
    · rw [if_neg (by omega), if_pos ⟨by omega, trivial⟩]
      rfl
  · exact (((((Fm.rf.sI (Or.inr (by omega))).sI (Or.inr (by omega))).sI (Or.inr (by omega))).sI (Or.inr (by omega))).sI (Or.inr (by omega))).sI (Or.inl ⟨rfl, rfl⟩)
theorem AC.get {t : Nat} {μ : Mm} {T : Tb} (h : AC t μ T) {c i : Nat} (hc : c < 5) (hi : i < T.1) : μ.1 (t + 2 + 2 * c) i = jv (T.2 c i) := h.2 c hc i hi
section TBC
variable {n t kb m : Nat} {R : Nat → Int} {K : Int} {N fr : Nat}
theorem fs8 {μ : Mm} (hb : CB kb μ R N fr) (hw : WB K R N fr) {s : Nat} (hs : s < N) : sh_X7_firstStart kb (jv s) μ = some (jv (fsS R s)) := by
  unfold sh_X7_firstStart
  simp only [jv_lit]
  rw [hb.s3, Option.bind_some, hb.lv hw hs, Option.bind_some, jv_sub, jv_mul]
  rfl
theorem lt8_l (hw : WB K R N fr) (ho : okTb t) (hkm : kb + 12 < t) (hmt : m + 12 < t) {lim : Int} (hlim : -200 ≤ lim ∧ lim ≤ 120) {s : Nat} (hs : s < N) (T0 : Tb) (hT0 : T0.1 + 8 ≤ 192) : ∀ (r f k : Nat) (μ : Mm), (k : Int) + r = wct R s → r < f → CB kb μ R N fr → ME m μ R N → μ.1 t 1 = jv lim → AC t μ (tTok R lim s T0 k) → ∃ μ1, sh_X7_layTokens_10 n t kb m (jv s) f (jv (fsS R s)) (jv k) μ = some μ1 ∧ AC t μ1 (tTok R lim s T0 (wct R s).toNat) ∧ Fm (PTt t) μ μ1 := by
  have h1 := hw.1
  have hwc := (hw.sec hs).2.2.2.1
  have l5 : ln (t + 5 + 1) = 192 := ho.2.2.1
  have l7 : ln (t + 7 + 1) = 192 := ho.2.2.2.1
  have hf := fsS_b hw hs
  have h4 := hw.2.2.2.2.2.1
  intro r
  induction r with
  | zero =>
    intro f k μ hk hf' hb hm hlm ha
    obtain ⟨f, rfl⟩ : ∃ g, f = g + 1 := ⟨f - 1, by omega⟩
    rw [sh_X7_layTokens_10, hb.wc hw hs, Option.bind_some, if_pos (by rw [jv_le] <;> omega), show (wct R s).toNat = k by omega]
    exact ⟨μ, rfl, ha, Fm.rf⟩
  | succ r ih =>
    intro f k μ hk hf' hb hm hlm ha
    obtain ⟨f, rfl⟩ : ∃ g, f = g + 1 := ⟨f - 1, by omega⟩
    have hwb := tokW_b hw hs k
    have lm : ln (m + 9 + 1) = 192 := hm.1.2.2.2.2.1
    have htw : sh_X5_at (m + 9) (jv ((s : Int) * 8 + k)) μ = some (jv (tokW R s k)) := by
      rw [a5_in (by omega) (by omega), show ((s : Int) * 8 + k).toNat = 8 * s + k by omega]
      exact congrArg some ((hm.2 s hs).2.2.2.2.1 k (by omega))
    have go : ∀ (μ1 : Mm), AC t μ1 (tTok R lim s T0 (k + 1)) → Fm (PTt t) μ μ1 → ∃ μ2, sh_X7_layTokens_10 n t kb m (jv s) f (jv (fsS R s)) (jv ((k : Int) + 1)) μ1 = some μ2 ∧ AC t μ2 (tTok R lim s T0 (wct R s).toNat) ∧ Fm (PTt t) μ μ2 := by
      intro μ1 ha1 hf1
      obtain ⟨μ2, a, b, c⟩ := ih f (k + 1) μ1 (by omega) (by omega) (hb.fr hf1 (fun q j x y z => by omega)) (hm.fr hf1 (fun q j x y z => by omega)) (by rw [hf1.at _ _ (by omega)]; exact hlm) ha1
      rw [show (k : Int) + 1 = ((k + 1 : Nat) : Int) by omega]
      exact ⟨μ2, a, b, hf1.tr c (fun _ _ z => z)⟩
    rw [sh_X7_layTokens_10, hb.wc hw hs, Option.bind_some, if_neg (by rw [jv_le] <;> omega)]
    simp only [jv_lit, jv_add, jv_mul]
    rw [htw, Option.bind_some, nm_eq, ha.1, jv_sub]
    by_cases z : k = 0
    · subst z
      obtain ⟨v, hv⟩ := a5_ex (t := t + 5) (x := jv (((tTok R lim s T0 0).1 : Int) - 1)) (μ := μ)
      rw [hv, Option.bind_some, sw_jv (by omega) (by omega), Option.bind_some, nm_eq, if_pos (show jv ((0 : Nat) : Int) = jv 0 from rfl)]
      obtain ⟨μ1, a1, b1, c1⟩ := AC.opn ho ha (by show T0.1 < 192; omega) s (fsS R s) 0 (tokW R s 0)
      rw [show jv ((0 : Nat) : Int) = jv 0 from rfl, a1, Option.bind_some]
      exact go μ1 b1 c1
    · obtain ⟨g, rfl⟩ : ∃ g, k = g + 1 := ⟨k - 1, by omega⟩
      have hi := TI.tok hw hlim.2 hs T0 g
      have hst : tTok R lim s T0 (g + 1 + 1) = if lL (tTok R lim s T0 (g + 1)) 2 + 1 + tokW R s (g + 1) ≤ lim then tAdd (tTok R lim s T0 (g + 1)) (tokW R s (g + 1)) else tOpen (tTok R lim s T0 (g + 1)) s (fsS R s + R 4) ((g + 1 : Nat) : Int) (tokW R s (g + 1)) := by
        rw [tTok, if_neg (by omega)]
      generalize hT : tTok R lim s T0 (g + 1) = T at *
      obtain ⟨i1, i2, i3, i4, i5⟩ := hi
      have il := i4 (T.1 - 1) (by omega) (by omega)
      have e2 : lL T 2 = T.2 2 (T.1 - 1) := rfl
      have e3 : lL T 3 = T.2 3 (T.1 - 1) := rfl
      have hend : μ.1 (t + 5 + 1) (T.1 - 1) = jv (lL T 2) := ha.2 2 (by omega) (T.1 - 1) (by omega)
      have hcnt : μ.1 (t + 7 + 1) (T.1 - 1) = jv (lL T 3) := ha.2 3 (by omega) (T.1 - 1) (by omega)
      rw [a5_in (by omega) (by omega), Option.bind_some, show ((T.1 : Int) - 1).toNat = T.1 - 1 by omega, hend, sw_jv (by omega) (by omega), Option.bind_some, nm_eq, show wd 32 = 1 from rfl, if_neg (by rw [jv_eq] <;> omega), hlm]
      simp only [jv_add]
      by_cases y : lL T 2 + 1 + tokW R s (g + 1) ≤ lim
      · rw [if_pos y] at hst
        rw [if_neg (by rw [jv_lt] <;> omega), p5_in (by omega) (by omega), Option.bind_some, d5_in (by omega) (by omega), Option.bind_some, show ((T.1 : Int) - 1).toNat = T.1 - 1 by omega, sI_1, if_neg (by omega), hcnt, jv_add]
        refine go _ ?_ ((Fm.rf.sI (Or.inr (by omega))).sI (Or.inr (by omega)))
        rw [hst]
        have h3 := AC.set ha (c := 3) (by omega) (T.1 - 1) (lL T 3 + 1)
        have h2 := AC.set ha (c := 2) (by omega) (T.1 - 1) (lL T 2 + 1 + tokW R s (g + 1))
        refine ⟨?_, fun c hc i hi => ?_⟩
        · rw [sI_1, if_neg (by omega), sI_1, if_neg (by omega)]
          exact ha.1
        · show (sI (sI μ (t + 5 + 1) (T.1 - 1) (jv (lL T 2 + 1 + tokW R s (g + 1)))) (t + 7 + 1) (T.1 - 1) (jv (lL T 3 + 1))).1 (t + 2 + 2 * c) i = jv (if c = 2 ∧ i = T.1 - 1 then lL T 2 + 1 + tokW R s (g + 1) else if c = 3 ∧ i = T.1 - 1 then lL T 3 + 1 else T.2 c i)
          rw [sI_1, sI_1]
          by_cases a3 : c = 3 ∧ i = T.1 - 1
          · rw [if_pos (by omega), if_neg (by omega), if_pos a3]
          · rw [if_neg (by omega)]
            by_cases a2 : c = 2 ∧ i = T.1 - 1
            · rw [if_pos (by omega), if_pos a2]
            · rw [if_neg (by omega), if_neg a2, if_neg a3]
              exact ha.2 c hc i hi
      · rw [if_neg y] at hst
        obtain ⟨μ1, a1, b1, c1⟩ := AC.opn ho ha (by omega) s (fsS R s + R 4) ((g + 1 : Nat) : Int) (tokW R s (g + 1))
        rw [if_pos (by rw [jv_lt] <;> omega), hb.s4, Option.bind_some, jv_add, a1, Option.bind_some]
        refine go μ1 ?_ c1
        rw [hst]
        exact b1
theorem ltok8 {μ : Mm} (hn : 30 ≤ n) (hw : WB K R N fr) (ho : okTb t) (hkm : kb + 12 < t) (hmt : m + 12 < t) {lim : Int} (hlim : -200 ≤ lim ∧ lim ≤ 120) {s : Nat} (hs : s < N) {T0 : Tb} (hT0 : T0.1 + 8 ≤ 192) (hb : CB kb μ R N fr) (hm : ME m μ R N) (h1 : μ.1 t 1 = jv lim) (ha : AC t μ T0) : ∃ μ1, sh_X7_layTokens n t kb m (jv s) μ = some μ1 ∧ AC t μ1 (tTok R lim s T0 (wct R s).toNat) ∧ Fm (PTt t) μ μ1 := by
  have hwc := (hw.sec hs).2.2.2.1
  unfold sh_X7_layTokens
  rw [fs8 hb hw hs, Option.bind_some, jv_lit (nat_lit 0)]
  exact lt8_l hw ho hkm hmt hlim hs T0 hT0 (wct R s).toNat n 0 μ (by omega) (by omega) hb hm h1 ha
theorem dX_b (hw : WB K R N fr) {e : Int} (h0 : 0 ≤ e ∧ e ≤ 120) : 0 ≤ dX R e ∧ dX R e ≤ 200 ∧ 0 ≤ (e + R 5 + R 7 - 1) / R 7 ∧ (e + R 5 + R 7 - 1) / R 7 ≤ 200 := by
  have h5 := hw.2.2.2.2.2.2.1
  have h7 := hw.2.2.2.2.2.2.2.2.1
  have a1 : 0 ≤ (e + R 5 + R 7 - 1) / R 7 := Int.ediv_nonneg (by omega) (by omega)
  have a2 : (e + R 5 + R 7 - 1) / R 7 ≤ e + R 5 + R 7 - 1 := Int.ediv_le_self _ (by omega)
  have a3 : (e + R 5 + R 7 - 1) / R 7 * R 7 ≤ e + R 5 + R 7 - 1 := Int.ediv_mul_le _ (by omega)
  have a4 : 0 ≤ (e + R 5 + R 7 - 1) / R 7 * R 7 := Int.mul_nonneg a1 (by omega)
  unfold dX
  omega
theorem dCn_b (hw : WB K R N fr) {e nw : Int} (h0 : 0 ≤ e ∧ e ≤ 120) (hn0 : 0 ≤ nw) : 0 ≤ dCn R nw e ∧ dCn R nw e ≤ 121 := by
  have h7 := hw.2.2.2.2.2.2.2.2.1
  have h5 := hw.2.2.2.2.2.2.1
  have hR := hw.2.1
  have hx := dX_b hw h0
  unfold dCn
  split
  · next q =>
    have hM : dM R nw ≤ 119 := by unfold dM; omega
    have a1 : 0 ≤ (dM R nw - dX R e) / R 7 := Int.ediv_nonneg (by omega) (by omega)
    have a2 : (dM R nw - dX R e) / R 7 ≤ dM R nw - dX R e := Int.ediv_le_self _ (by omega)
    omega
  · omega
theorem ld8 {μ : Mm} (hw : WB K R N fr) (ho : okTb t) {s : Nat} (hs : s < N) {T : Tb} (hT : 0 < T.1 ∧ T.1 ≤ 192) {nw : Int} (hnw : 0 ≤ nw ∧ nw ≤ 100) (he : 0 ≤ lL T 2 ∧ lL T 2 ≤ 120) (hb : CB kb μ R N fr) (ha : AC t μ T) : sh_X7_layDots t kb (jv s) (jv nw) μ = some (sI (sI μ (t + 16) s (jv (dFi R nw (lL T 2)))) (t + 18) s (jv (dCn R nw (lL T 2)))) := by
  have h1 := hw.1
  have h7 := hw.2.2.2.2.2.2.2.2.1
  have h5 := hw.2.2.2.2.2.2.1
  have hR := hw.2.1
  have l5 : ln (t + 5 + 1) = 192 := ho.2.2.1
  have l15 : ln (t + 15 + 1) = 24 := ho.2.2.2.2.2.2.2.1
  have l17 : ln (t + 17 + 1) = 24 := ho.2.2.2.2.2.2.2.2
  have hend : μ.1 (t + 5 + 1) (T.1 - 1) = jv (lL T 2) := ha.2 2 (by omega) (T.1 - 1) (by omega)
  have hx := dX_b hw he
  unfold sh_X7_layDots
  simp only [jv_lit]
  rw [hb.s5, Option.bind_some, hb.s7, Option.bind_some, ha.1, jv_sub, a5_in (by omega) (by omega), Option.bind_some, show ((T.1 : Int) - 1).toNat = T.1 - 1 by omega, hend, jv_add, qU_in (by omega) (by omega) (by omega), Option.bind_some, nm_eq, jv_mul, hb.s0, Option.bind_some, nm_eq, jv_sub, jv_sub, jv_sub]
  have ex : (lL T 2 + R 5 + R 7 - 1) / R 7 * R 7 = dX R (lL T 2) := rfl
  have em : R 0 - nw - R 5 - 1 = dM R nw := rfl
  have hM : -200 ≤ dM R nw ∧ dM R nw ≤ 119 := by unfold dM; omega
  rw [ex, em]
  unfold sh_X7_layDots_76 sh_X7_layDots_94
  simp only [jv_lit]
  by_cases z : dX R (lL T 2) ≤ dM R nw
  · have hd2 : (dM R nw - dX R (lL T 2)) / R 7 ≤ dM R nw - dX R (lL T 2) := Int.ediv_le_self _ (by omega)
    have hd3 : 0 ≤ (dM R nw - dX R (lL T 2)) / R 7 := Int.ediv_nonneg (by omega) (by omega)
    rw [if_pos (by rw [jv_le] <;> omega), if_pos trivial, p5_in (by omega) (by omega), Option.bind_some, if_pos trivial, jv_sub, qu_in (by omega) (by omega) (by omega) (by omega), Option.bind_some, jv_add, p5_in (by omega) (by omega), Option.bind_some, Int.toNat_natCast]
    unfold dFi dCn
    rw [if_pos z, if_pos z]
  · rw [if_neg (by rw [jv_le] <;> omega), if_neg (by rw [jv_eq] <;> omega), p5_in (by omega) (by omega), Option.bind_some, if_neg (by rw [jv_eq] <;> omega), p5_in (by omega) (by omega), Option.bind_some, Int.toNat_natCast, jv_neg]
    unfold dFi dCn
    rw [if_neg z, if_neg z]
theorem bl8 {μ : Mm} (hw : WB K R N fr) (ho : okTb t) (hkm : kb + 12 < t) (hmt : m + 12 < t) {s : Nat} (hs : s < N) {T : Tb} (hT : 0 < T.1 ∧ T.1 < 192) (hb : CB kb μ R N fr) (hm : ME m μ R N) (ha : AC t μ T) : ∃ μ1, sh_X7_breakLastToken t kb m (jv s) μ = some μ1 ∧ AC t μ1 (tOpen (tCut T (lastW R s)) s (fsS R s + R 4) (wct R s - 1) (lastW R s)) ∧ Fm (PTt t) μ μ1 := by
  have h1 := hw.1
  have hwc := (hw.sec hs).2.2.2.1
  have l5 : ln (t + 5 + 1) = 192 := ho.2.2.1
  have l7 : ln (t + 7 + 1) = 192 := ho.2.2.2.1
  have lm : ln (m + 9 + 1) = 192 := hm.1.2.2.2.2.1
  have hend : μ.1 (t + 5 + 1) (T.1 - 1) = jv (lL T 2) := ha.2 2 (by omega) (T.1 - 1) (by omega)
  have hcnt : μ.1 (t + 7 + 1) (T.1 - 1) = jv (lL T 3) := ha.2 3 (by omega) (T.1 - 1) (by omega)
  have htw : sh_X5_at (m + 9) (jv ((s : Int) * 8 + (wct R s - 1))) μ = some (jv (lastW R s)) := by
    rw [a5_in (by omega) (by omega), show ((s : Int) * 8 + (wct R s - 1)).toNat = 8 * s + ((wct R s).toNat - 1) by omega]
    exact congrArg some ((hm.2 s hs).2.2.2.2.1 ((wct R s).toNat - 1) (by omega))
  unfold sh_X7_breakLastToken
  simp only [jv_lit]
  rw [hb.wc hw hs, Option.bind_some, nm_eq, jv_sub, jv_mul, jv_add, htw, Option.bind_some, sw_jv (by omega) (by omega), Option.bind_some, ha.1, jv_sub, jv_neg, show wd 32 = 1 from rfl, jv_sub, d5_in (by omega) (by omega), Option.bind_some, show ((T.1 : Int) - 1).toNat = T.1 - 1 by omega, hend, jv_add, jv_neg, sI_1, if_neg (by omega), ha.1, jv_sub, d5_in (by omega) (by omega), Option.bind_some, show ((T.1 : Int) - 1).toNat = T.1 - 1 by omega, sI_1, if_neg (by omega), hcnt, jv_add]
  have hf : Fm (PTt t) μ (sI (sI μ (t + 5 + 1) (T.1 - 1) (jv (lL T 2 + (-lastW R s - 1)))) (t + 7 + 1) (T.1 - 1) (jv (lL T 3 + -1))) := (Fm.rf.sI (Or.inr (by omega))).sI (Or.inr (by omega))
  have hac : AC t (sI (sI μ (t + 5 + 1) (T.1 - 1) (jv (lL T 2 + (-lastW R s - 1)))) (t + 7 + 1) (T.1 - 1) (jv (lL T 3 + -1))) (tCut T (lastW R s)) := by
    refine ⟨?_, fun c hc i hi => ?_⟩
    · rw [sI_1, if_neg (by omega), sI_1, if_neg (by omega)]
      exact ha.1
    · show (sI (sI μ (t + 5 + 1) (T.1 - 1) (jv (lL T 2 + (-lastW R s - 1)))) (t + 7 + 1) (T.1 - 1) (jv (lL T 3 + -1))).1 (t + 2 + 2 * c) i = jv (if c = 7 ∧ i = T.1 - 1 then -1 else if c = 6 ∧ i = T.1 - 1 then 0 else if c = 2 ∧ i = T.1 - 1 then lL T 2 - (1 + lastW R s) else if c = 3 ∧ i = T.1 - 1 then lL T 3 - 1 else T.2 c i)
      rw [if_neg (by omega), if_neg (by omega), sI_1, sI_1]
      by_cases a3 : c = 3 ∧ i = T.1 - 1
      · rw [if_pos (by omega), if_neg (by omega), if_pos a3]
        rfl
      · rw [if_neg (by omega)]
        by_cases a2 : c = 2 ∧ i = T.1 - 1
        · rw [if_pos (by omega), if_pos a2]
          congr 1
          omega
        · rw [if_neg (by omega), if_neg a2, if_neg a3]
          exact ha.2 c hc i hi
  generalize (sI (sI μ (t + 5 + 1) (T.1 - 1) (jv (lL T 2 + (-lastW R s - 1)))) (t + 7 + 1) (T.1 - 1) (jv (lL T 3 + -1))) = μ2 at *
  have hb2 := hb.fr hf (fun q j x y z => by omega)
  obtain ⟨μ1, a1, b1, c1⟩ := AC.opn ho hac (by show T.1 < 192; omega) s (fsS R s + R 4) (wct R s - 1) (lastW R s)
  rw [fs8 hb2 hw hs, Option.bind_some, hb2.s4, Option.bind_some, jv_add, a1, Option.bind_some]
  exact ⟨μ1, rfl, b1, hf.tr c1 (fun _ _ z => z)⟩
end TBC
