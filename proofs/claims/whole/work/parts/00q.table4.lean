/-! THE TABLE of the model -/
def mp (c : Nat) : Nat := match c with
  | 0 => 316
  | 1 => 317
  | 2 => 320
  | 3 => 319
  | 4 => 318
  | 5 => 321
  | 6 => 322
  | _ => 323
theorem mp_i : ∀ c, c < 8 → ∀ d, d < 8 → mp c = mp d → c = d := by decide
theorem mp_m : ∀ c, c < 8 → mp c ≠ 306 := by decide
theorem mp_r : ∀ c, c < 8 → 316 ≤ mp c ∧ mp c ≤ 323 := by decide
abbrev AM : Mm → Tb → Prop := AT mp 8 306 36
theorem AM.set {μ : Mm} {T : Tb} (h : AM μ T) {c : Nat} (hc : c < 8) (i : Nat) (v : Int) : AM (sI μ (mp c) i (jv v)) (tSet T i c v) := AT.set h mp_i mp_m hc i v
theorem nbz0 : vp_nar .boolean (jv 0) = jv 0 := by decide
theorem nbz1 : vp_nar .boolean (jv 1) = jv 1 := by decide
abbrev PMT : Nat → Nat → Prop := fun k j => k = 306 ∧ (j = 17 ∨ j = 36) ∨ k = 310 ∨ k = 313 ∨ 316 ≤ k ∧ k ≤ 323
theorem AM.opn {μ : Mm} {T : Tb} (h : AM μ T) (hT : T.1 < 240) (s st tk w : Int) : ∃ μ1, sh_X12_beginLine (jv s) (jv tk) (jv st) (jv w) μ = some μ1 ∧ AM μ1 (tOpen T s st tk w) ∧ Fm (fun k j => k = 306 ∧ j = 36 ∨ 316 ≤ k ∧ k ≤ 323) μ μ1 := by
  have l0 : ln 316 = 240 := rfl
  have l1 : ln 317 = 240 := rfl
  have l2 : ln 318 = 240 := rfl
  have l3 : ln 319 = 240 := rfl
  have l4 : ln 320 = 240 := rfl
  have l5 : ln 321 = 240 := rfl
  have l6 : ln 322 = 240 := rfl
  have l7 : ln 323 = 240 := rfl
  have rd : ∀ (μ9 : Mm) (k : Nat) (v : Int32), k ≠ 306 → (sI μ9 k T.1 v).1 306 36 = μ9.1 306 36 := fun μ9 k v hk => by rw [sI_1, if_neg (by omega)]
  unfold sh_X12_beginLine
  simp only [jv_lit]
  rw [h.1, nbz0, jv_add, jv_neg, st_jv (by omega) (by omega), Option.bind_some, Int.toNat_natCast, rd _ _ _ (by omega), h.1, st_jv (by omega) (by omega), Option.bind_some, Int.toNat_natCast, rd _ _ _ (by omega), rd _ _ _ (by omega), h.1, st_jv (by omega) (by omega), Option.bind_some, Int.toNat_natCast, rd _ _ _ (by omega), rd _ _ _ (by omega), rd _ _ _ (by omega), h.1, st_jv (by omega) (by omega), Option.bind_some, Int.toNat_natCast, rd _ _ _ (by omega), rd _ _ _ (by omega), rd _ _ _ (by omega), rd _ _ _ (by omega), h.1, st_jv (by omega) (by omega), Option.bind_some, Int.toNat_natCast, rd _ _ _ (by omega), rd _ _ _ (by omega), rd _ _ _ (by omega), rd _ _ _ (by omega), rd _ _ _ (by omega), h.1, st_jv (by omega) (by omega), Option.bind_some, Int.toNat_natCast, rd _ _ _ (by omega), rd _ _ _ (by omega), rd _ _ _ (by omega), rd _ _ _ (by omega), rd _ _ _ (by omega), rd _ _ _ (by omega), h.1, st_jv (by omega) (by omega), Option.bind_some, Int.toNat_natCast, rd _ _ _ (by omega), rd _ _ _ (by omega), rd _ _ _ (by omega), rd _ _ _ (by omega), rd _ _ _ (by omega), rd _ _ _ (by omega), rd _ _ _ (by omega), h.1, st_jv (by omega) (by omega), Option.bind_some, Int.toNat_natCast, rd _ _ _ (by omega), rd _ _ _ (by omega), rd _ _ _ (by omega), rd _ _ _ (by omega), rd _ _ _ (by omega), rd _ _ _ (by omega), rd _ _ _ (by omega), rd _ _ _ (by omega), h.1, pt_eq, Option.bind_some, jv_add]
  refine ⟨_, rfl, AT.opn h ?_ ?_ ?_, ?_⟩
  · rw [sI_1, if_pos ⟨rfl, rfl⟩]
  · intro c hc i hi
    have := mp_r c hc
    simp only [sI_1]
    rw [if_neg (by omega), if_neg (by omega), if_neg (by omega), if_neg (by omega), if_neg (by omega), if_neg (by omega), if_neg (by omega), if_neg (by omega), if_neg (by omega)]
  · intro c hc
    rcases lt8 hc with rfl | rfl | rfl | rfl | rfl | rfl | rfl | rfl <;> simp [sI_1, mp, tRow]
  · exact ((((((((Fm.rf.sI (Or.inr (by omega))).sI (Or.inr (by omega))).sI (Or.inr (by omega))).sI (Or.inr (by omega))).sI (Or.inr (by omega))).sI (Or.inr (by omega))).sI (Or.inr (by omega))).sI (Or.inr (by omega))).sI (Or.inl ⟨rfl, rfl⟩)
section TBM
variable {n q : Nat} {R : Nat → Int} {K : Int} {N fr : Nat} {tp : Int}
theorem pwdM {s : Nat} (hn : 16001 ≤ n) (hw : WB K R N fr) (hK : K ≤ 600) (h0 : 0 ≤ tp ∧ tp ≤ 100) (hs : s < N) {μ : Mm} (hm : MB q μ R) (hp : μ.1 314 s = jv (pgs R tp s)) : ∃ μ1, sh_X12_printedWidth n (jv s) μ = some (jv (nwd R tp s), μ1) ∧ Fm PM μ μ1 := by
  have h1 := hw.1
  have hpg := pgs_b hw hK hs h0.1 h0.2
  have hpr := prn_len hw hK hs h0.1 h0.2
  have l1 : ln 314 = 24 := rfl
  unfold sh_X12_printedWidth sh_X12_putPrinted
  simp only [jv_lit]
  rw [pt_eq, Option.bind_some]
  have hf0 : Fm PM μ (sI μ 306 17 (jv 0)) := Fm.rf.sI (Or.inl ⟨rfl, rfl⟩)
  have hm0 := hm.fr hf0 (fun i _ y => by rcases hm.1 with rfl | rfl <;> omega)
  have hx0 := Mx0 (μ := μ)
  have hp0 : (sI μ 306 17 (jv 0)).1 314 s = jv (pgs R tp s) := by rw [sI_1, if_neg (by omega)]; exact hp
  generalize (sI μ 306 17 (jv 0)) = μ0 at *
  have fin : ∀ o : Option Mm, Wr Mx PM μ0 [] o (prn R tp s) → ∃ μ1, (o.bind fun r2 => (sh_X12_textWidth n (jv 0) r2).bind fun r3 => some (r3, r2)) = some (jv (nwd R tp s), μ1) ∧ Fm PM μ μ1 := by
    intro o ⟨μ1, e, hx, hf⟩
    rw [List.nil_append] at hx
    refine ⟨μ1, ?_, hf0.tr hf (fun _ _ z => z)⟩
    rw [e, Option.bind_some, tw (by omega) hpr.2.get hx, Option.bind_some]
    rfl
  rw [hm0.oP (by omega), Option.bind_some]
  rcases hw.pb hs with ⟨z, -⟩ | ⟨z, -⟩
  · rw [if_pos (by rw [z]), ld_jv (by omega) (by omega), Option.bind_some, Int.toNat_natCast, hp0]
    refine fin _ ?_
    unfold prn
    rw [if_pos z]
    exact (roM (by omega) (by omega) (by omega) hx0 (by show 0 + 30 ≤ 16000; omega)).last
  · rw [if_neg (by rw [z, jv_eq] <;> omega), ld_jv (by omega) (by omega), Option.bind_some, Int.toNat_natCast, hp0]
    refine fin _ ?_
    unfold prn
    rw [if_neg (by omega)]
    exact (arM (by omega) (by omega) (by omega) hx0 (by show 0 + 4 ≤ 16000; omega)).last
def rmd (g M x : Int) : Int := if x ≤ M then (M - x) / g + 1 else 0
theorem dl87 {g M : Int} (hg : 1 ≤ g ∧ g ≤ 9) (hM : -200 ≤ M ∧ M ≤ 120) {i : Nat} (hi : i < 240) {a : Int32} (ha : a = jv i) : ∀ (j f : Nat) (x c : Int) (μ : Mm), (j : Int) = rmd g M x → j < f → 0 ≤ x ∧ x ≤ 300 → 0 ≤ c → c + j ≤ 1000 → μ.1 322 i = jv c → ∃ μ1, sh_X12_layDots_87 n a f (jv g) (jv (M + 1)) (jv x) μ = some μ1 ∧ μ1.1 322 i = jv (c + j) ∧ Fm (fun k j => k = 322 ∧ j = i) μ μ1 := by
  have l6 : ln 322 = 240 := rfl
  subst ha
  intro j
  induction j with
  | zero =>
    intro f x c μ hj hf hx hc hc2 hv
    obtain ⟨f, rfl⟩ : ∃ g, f = g + 1 := ⟨f - 1, by omega⟩
    have hxM : M < x := by
      unfold rmd at hj
      split at hj
      · next z => have : 0 ≤ (M - x) / g := Int.ediv_nonneg (by omega) (by omega); omega
      · omega
    rw [sh_X12_layDots_87]
    simp only [jv_lit]
    rw [jv_add, if_pos (by rw [jv_lt] <;> omega)]
    exact ⟨μ, rfl, by rw [hv]; congr 1; omega, Fm.rf⟩
  | succ j ih =>
    intro f x c μ hj hf hx hc hc2 hv
    obtain ⟨f, rfl⟩ : ∃ g, f = g + 1 := ⟨f - 1, by omega⟩
    have hxM : x ≤ M := by
      unfold rmd at hj
      split at hj
      · next z => exact z
      · omega
    have hj2 : (j : Int) = (M - x) / g := by
      unfold rmd at hj
      rw [if_pos hxM] at hj
      omega
    have hnx : (j : Int) = rmd g M (x + g) := by
      unfold rmd
      have e : (M - x) / g = (M - (x + g)) / g + 1 := by
        rw [show M - x = (M - (x + g)) + g * 1 by omega, Int.add_mul_ediv_left _ _ (by omega)]
      split
      · rw [hj2, e]
      · rw [hj2]
        exact Int.ediv_eq_zero_of_lt (by omega) (by omega)
    rw [sh_X12_layDots_87]
    simp only [jv_lit]
    rw [jv_add, if_neg (by rw [jv_lt] <;> omega), ld_jv (by omega) (by omega), Option.bind_some, Int.toNat_natCast, hv, jv_add, st_jv (by omega) (by omega), Option.bind_some, Int.toNat_natCast, nm_eq, jv_add]
    have hf1 : Fm (fun k j => k = 322 ∧ j = i) μ (sI μ 322 i (jv (c + 1))) := Fm.rf.sI ⟨rfl, rfl⟩
    obtain ⟨μ1, a, b, d⟩ := ih f (x + g) (c + 1) (sI μ 322 i (jv (c + 1))) hnx (by omega) (by omega) (by omega) (by omega) (by rw [sI_1, if_pos ⟨rfl, rfl⟩])
    exact ⟨μ1, a, by rw [b]; congr 1; omega, hf1.tr d (fun _ _ z => z)⟩
theorem ldM {s : Nat} (hn : 16001 ≤ n) (hw : WB K R N fr) (hK : K ≤ 600) (h0 : 0 ≤ tp ∧ tp ≤ 100) (hs : s < N) {μ : Mm} {T : Tb} (hT : 0 < T.1 ∧ T.1 ≤ 240) (he : 0 ≤ lL T 2 ∧ lL T 2 ≤ 120) (hsec : lL T 0 = s) (hm : MB q μ R) (hp : μ.1 314 s = jv (pgs R tp s)) (ha : AM μ T) : ∃ μ1, sh_X12_layDots n (jv ((T.1 : Int) - 1)) μ = some μ1 ∧ AM μ1 (tDot R (nwd R tp s) T) ∧ Fm PMT μ μ1 := by
  have h1 := hw.1
  have h7 := hw.2.2.2.2.2.2.2.2.1
  have h5 := hw.2.2.2.2.2.2.1
  have hR := hw.2.1
  have hnw := nwd_b hw hK hs h0.1 h0.2
  have l0 : ln 316 = 240 := rfl
  have l4 : ln 320 = 240 := rfl
  have l6 : ln 322 = 240 := rfl
  have l7 : ln 323 = 240 := rfl
  have hx := dX_b hw he
  have hdc := dCn_b hw (e := lL T 2) (nw := nwd R tp s) he hnw.1
  have ei : ((T.1 : Int) - 1).toNat = T.1 - 1 := by omega
  obtain ⟨μ1, a1, f1⟩ := pwdM (n := n) hn hw hK h0 hs hm hp
  have hm1 := hm.fr f1 (fun i _ y => by rcases hm.1 with rfl | rfl <;> omega)
  have ha1 : AM μ1 T := ha.kp f1 (by omega) (fun c hc i y => by have := mp_r c hc; omega)
  unfold sh_X12_layDots
  simp only [jv_lit]
  rw [ld_jv (by omega) (by omega), Option.bind_some, ei, show μ.1 316 (T.1 - 1) = jv (lL T 0) from ha.2 0 (by omega) _ (by omega), hsec, hm.r7, Option.bind_some, hm.r0, Option.bind_some, a1, Option.bind_some, hm1.r5, Option.bind_some]
  simp only [nm_eq]
  rw [jv_sub, jv_sub, ld_jv (by omega) (by omega), Option.bind_some, ei, show μ1.1 320 (T.1 - 1) = jv (lL T 2) from ha1.2 2 (by omega) _ (by omega), Option.bind_some]
  simp only [jv_add, jv_sub]
  rw [dv_jv (by omega) (by omega) (by omega) (by omega), Option.bind_some]
  simp only [jv_mul, jv_add]
  have ex : (lL T 2 + R 5 + R 7 - 1) / R 7 * R 7 = dX R (lL T 2) := rfl
  have em : R 0 - nwd R tp s - R 5 = dM R (nwd R tp s) + 1 := by unfold dM; omega
  have hM : -200 ≤ dM R (nwd R tp s) ∧ dM R (nwd R tp s) ≤ 119 := by unfold dM; omega
  rw [ex, em, st_jv (by omega) (by omega), Option.bind_some, ei, jv_neg]
  have h87 : ∀ v : Int, v = dFi R (nwd R tp s) (lL T 2) → ∃ μ2, ((st (sI μ1 322 (T.1 - 1) (jv 0)) 323 (jv ((T.1 : Int) - 1)) (jv v)).bind fun μ16 => sh_X12_layDots_87 n (jv ((T.1 : Int) - 1)) n (jv (R 7)) (jv (dM R (nwd R tp s) + 1)) (jv (dX R (lL T 2))) μ16) = some μ2 ∧ AM μ2 (tDot R (nwd R tp s) T) ∧ Fm PMT μ μ2 := by
    intro v hv
    subst hv
    rw [st_jv (by omega) (by omega), Option.bind_some, ei]
    have hr : dCn R (nwd R tp s) (lL T 2) = rmd (R 7) (dM R (nwd R tp s)) (dX R (lL T 2)) := rfl
    have f2 : Fm PMT μ (sI (sI μ1 322 (T.1 - 1) (jv 0)) 323 (T.1 - 1) (jv (dFi R (nwd R tp s) (lL T 2)))) := ((f1.mono (fun k j y => (by omega : k = 306 ∧ (j = 17 ∨ j = 36) ∨ k = 310 ∨ k = 313 ∨ 316 ≤ k ∧ k ≤ 323))).sI (by omega)).sI (by omega)
    obtain ⟨μ2, a2, b2, f3⟩ := dl87 (n := n) (g := R 7) (M := dM R (nwd R tp s)) h7 (by omega) (i := T.1 - 1) (by omega) (a := jv ((T.1 : Int) - 1)) (by congr 1; omega) (dCn R (nwd R tp s) (lL T 2)).toNat n (dX R (lL T 2)) 0 (sI (sI μ1 322 (T.1 - 1) (jv 0)) 323 (T.1 - 1) (jv (dFi R (nwd R tp s) (lL T 2)))) (by rw [← hr]; omega) (by omega) (by omega) (by omega) (by omega) (by rw [sI_1, if_neg (by omega), sI_1, if_pos ⟨rfl, rfl⟩])
    refine ⟨μ2, a2, ?_, f2.tr f3 (fun k j y => (by omega : k = 306 ∧ (j = 17 ∨ j = 36) ∨ k = 310 ∨ k = 313 ∨ 316 ≤ k ∧ k ≤ 323))⟩
    refine ⟨?_, fun c hc i hi => ?_⟩
    · rw [f3.at _ _ (by omega), sI_1, if_neg (by omega), sI_1, if_neg (by omega)]
      exact ha1.1
    · have hcr := mp_r c hc
      show μ2.1 (mp c) i = jv (if c = 7 ∧ i = T.1 - 1 then dFi R (nwd R tp s) (lL T 2) else if c = 6 ∧ i = T.1 - 1 then dCn R (nwd R tp s) (lL T 2) else T.2 c i)
      have h6i : mp c = 322 → c = 6 := fun e => mp_i c hc 6 (by omega) e
      have h7i : mp c = 323 → c = 7 := fun e => mp_i c hc 7 (by omega) e
      by_cases z6 : c = 6 ∧ i = T.1 - 1
      · rw [if_neg (by omega), if_pos z6, z6.1, z6.2]
        show μ2.1 322 (T.1 - 1) = _
        rw [b2]
        congr 1
        omega
      · by_cases z7 : c = 7 ∧ i = T.1 - 1
        · rw [if_pos z7, z7.1, z7.2]
          show μ2.1 323 (T.1 - 1) = _
          rw [f3.at _ _ (by omega), sI_1, if_pos ⟨rfl, rfl⟩]
        · rw [if_neg z7, if_neg z6, f3.at _ _ (fun y => z6 ⟨h6i y.1, y.2⟩), sI_1, if_neg (fun y => z7 ⟨h7i y.1, y.2⟩), sI_1, if_neg (fun y => z6 ⟨h6i y.1, y.2⟩)]
          exact ha1.2 c hc i hi
  by_cases z : dX R (lL T 2) ≤ dM R (nwd R tp s)
  · rw [if_neg (by rw [jv_lt] <;> omega)]
    exact h87 _ (by unfold dFi; rw [if_pos z])
  · rw [if_pos (by rw [jv_lt] <;> omega)]
    exact h87 _ (by unfold dFi; rw [if_neg z])
end TBM
