/-! ANOTHER LEVEL, asked by the model; both -/
section LV2
variable {n : Nat} {R : Nat → Int} {N fr : Nat} {I O : List Int}
def LB (R : Nat → Int) (s : Nat) (p : Int) : Int := if s = 0 then 1 else if prt R (s - 1) = p then (if lev R (s - 1) + 1 < 4 then lev R (s - 1) + 1 else 4) else 1
theorem lbM {q : Nat} {μ : Mm} (hm : MB q μ R) {s : Nat} (hs : s ≤ 24) {p : Int} (hp : p = 0 ∨ p = 1) (hb : 0 < s → (prt R (s - 1) = 0 ∨ prt R (s - 1) = 1) ∧ 1 ≤ lev R (s - 1) ∧ lev R (s - 1) ≤ 4) : sh_X12_levelBehind (jv ((s : Int) - 1)) (jv p) μ = some (jv (LB R s p)) := by
  unfold sh_X12_levelBehind LB
  simp only [jv_lit]
  by_cases z : s = 0
  · rw [if_pos (by rw [jv_lt] <;> omega), if_pos z]
  · obtain ⟨h1, h2⟩ := hb (by omega)
    rw [if_neg (by rw [jv_lt] <;> omega), if_neg z, show (s : Int) - 1 = ((s - 1 : Nat) : Int) by omega, hm.oP (by omega), Option.bind_some]
    by_cases y : prt R (s - 1) = p
    · rw [if_pos (by rw [y]), if_pos y, hm.oL (by omega), Option.bind_some, jv_add]
      by_cases x : lev R (s - 1) + 1 < 4
      · rw [if_pos (by rw [jv_lt] <;> omega), if_pos x]
      · rw [if_neg (by rw [jv_lt] <;> omega), if_neg x]
    · rw [if_neg (by rw [jv_eq] <;> omega), if_neg y]
abbrev alL (R : Nat → Int) (N i : Nat) : Prop := ∀ j, j < N → i ≤ j → lev R j ≤ LB R j (prt R j)
theorem LB_b (R : Nat → Int) (s : Nat) (p : Int) (h : 0 < s → 1 ≤ lev R (s - 1)) : 1 ≤ LB R s p ∧ LB R s p ≤ 4 := by
  unfold LB
  by_cases z : s = 0
  · rw [if_pos z]
    omega
  · have := h (by omega)
    rw [if_neg z]
    split
    · split <;> omega
    · omega
theorem arM4 {μ : Mm} (hm : MB 307 μ R) (hN : R 9 = N ∧ N ≤ 24) (hb : ∀ j, j < N → (prt R j = 0 ∨ prt R j = 1) ∧ 1 ≤ lev R j ∧ lev R j ≤ 4) : ∀ (k f i : Nat), i + k = N → k < f → sh_X12_areLevels_4 n μ f (jv 0) (jv i) = some (jv 0) ∧ sh_X12_areLevels_4 n μ f (jv 1) (jv i) = some (jv (if alL R N i then 1 else 0)) := by
  intro k
  induction k with
  | zero =>
    intro f i hi hf
    obtain ⟨f, rfl⟩ : ∃ g, f = g + 1 := ⟨f - 1, by omega⟩
    constructor
    · rw [sh_X12_areLevels_4, jv_lit (nat_lit 9), mbl9 hm, Option.bind_some, hN.1, if_pos (by rw [jv_le] <;> omega), isB_0]
      rfl
    · rw [sh_X12_areLevels_4, jv_lit (nat_lit 9), mbl9 hm, Option.bind_some, hN.1, if_pos (by rw [jv_le] <;> omega), isB_1, if_pos (fun j a b => absurd a (by omega))]
      rfl
  | succ k ih =>
    intro f i hi hf
    obtain ⟨f, rfl⟩ : ∃ g, f = g + 1 := ⟨f - 1, by omega⟩
    obtain ⟨i0, i1⟩ := ih f (i + 1) (by omega) (by omega)
    have hbi := hb i (by omega)
    have hlb := LB_b R i (prt R i) (fun q => (hb (i - 1) (by omega)).2.1)
    constructor
    · rw [sh_X12_areLevels_4, jv_lit (nat_lit 9), mbl9 hm, Option.bind_some, hN.1, if_neg (by rw [jv_le] <;> omega), if_pos zro, jv_lit (nat_lit 1), jv_add, show (i : Int) + 1 = ((i + 1 : Nat) : Int) by omega, jv0, i0]
    · rw [sh_X12_areLevels_4, jv_lit (nat_lit 9), mbl9 hm, Option.bind_some, hN.1, if_neg (by rw [jv_le] <;> omega), if_neg one_ne]
      simp only [jv_lit]
      rw [hm.oL (by omega), Option.bind_some, hm.oP (by omega), Option.bind_some, jv_sub, lbM hm (by omega) hbi.1 (fun q => ⟨(hb (i - 1) (by omega)).1, (hb (i - 1) (by omega)).2⟩), Option.bind_some, jv_add, show (i : Int) + 1 = ((i + 1 : Nat) : Int) by omega, i0, i1]
      have e : lev R i ≤ LB R i (prt R i) → (alL R N i ↔ alL R N (i + 1)) := fun z => ⟨fun q j a b => q j a (by omega), fun q j a b => by
        by_cases y : j = i
        · rw [y]; exact z
        · exact q j a (by omega)⟩
      by_cases z : lev R i ≤ LB R i (prt R i)
      · rw [if_neg (by rw [jv_lt] <;> omega)]
        by_cases y : alL R N i
        · rw [if_pos y, if_pos ((e z).mp y)]
        · rw [if_neg y, if_neg (fun q => y ((e z).mpr q))]
      · rw [if_pos (by rw [jv_lt] <;> omega), if_neg (fun q => z (q i (by omega) (Nat.le_refl _)))]
/-- the model's condition is the class's -/
theorem al_ok (hw : WB 500 R N fr) {s : Nat} (hs : s < N) {v : Int} (hv : 1 ≤ v ∧ v ≤ 4) : alL (bup R (lvc s) v) N 0 ↔ okLv R N fr s v := by
  obtain ⟨g1, g2, g3, g4, g5⟩ := lv_ne (R := R) s v
  have pz : ∀ j, j < N → (prt R (j - 1) = prt R j ↔ j ≠ fr ∨ j = 0) := by
    intro j hj
    by_cases y : j = 0
    · rw [y]
      exact ⟨fun _ => Or.inr rfl, fun _ => rfl⟩
    · rcases hw.pb hj with ⟨h1, h2⟩ | ⟨h1, h2⟩ <;> rcases hw.pb (s := j - 1) (by omega) with ⟨h3, h4⟩ | ⟨h3, h4⟩
      · constructor
        · intro _; left; omega
        · intro _; omega
      · exfalso; omega
      · constructor
        · intro q; omega
        · intro q; exfalso; rcases q with q | q <;> omega
      · constructor
        · intro _; left; omega
        · intro _; omega
  have eLB : ∀ j, j < N → LB (bup R (lvc s) v) j (prt (bup R (lvc s) v) j) = if j = 0 ∨ j = fr then 1 else (if (if j - 1 = s then v else lev R (j - 1)) + 1 < 4 then (if j - 1 = s then v else lev R (j - 1)) + 1 else 4) := by
    intro j hj
    unfold LB
    rw [g3, g3, g1]
    by_cases y : j = 0
    · rw [if_pos y, if_pos (Or.inl y)]
    · rw [if_neg y]
      by_cases x : j = fr
      · rw [if_neg (fun q => by rcases (pz j hj).mp q with w | w <;> omega), if_pos (Or.inr x)]
      · rw [if_pos ((pz j hj).mpr (Or.inl x)), if_neg (show ¬ (j = 0 ∨ j = fr) by omega)]
  constructor
  · intro h
    constructor
    · have h1 := h s hs (Nat.zero_le _)
      rw [eLB s hs, g1, if_pos rfl] at h1
      by_cases y : s = 0 ∨ s = fr
      · rw [if_pos y] at h1 ⊢
        exact h1
      · rw [if_neg y] at h1 ⊢
        rw [if_neg (show ¬ s - 1 = s by omega)] at h1
        split at h1 <;> omega
    · intro h2 h3
      have h1 := h (s + 1) h2 (Nat.zero_le _)
      rw [eLB (s + 1) h2, g1, if_neg (show ¬ s + 1 = s by omega), if_neg (show ¬ (s + 1 = 0 ∨ s + 1 = fr) by omega), if_pos (show s + 1 - 1 = s by omega)] at h1
      split at h1 <;> omega
  · intro h j hj _
    obtain ⟨_, b2, _, _, _, b6⟩ := hw.sec hj
    rw [eLB j hj, g1]
    by_cases z : j = s
    · rw [if_pos z]
      have h1 := h.1
      rw [← z] at h1
      by_cases y : j = 0 ∨ j = fr
      · rw [if_pos y] at h1 ⊢
        exact h1
      · rw [if_neg y] at h1 ⊢
        rw [if_neg (show ¬ j - 1 = s by omega)]
        split <;> omega
    · rw [if_neg z]
      by_cases y : j = 0 ∨ j = fr
      · rw [if_pos y] at b6 ⊢
        exact b6
      · rw [if_neg y] at b6 ⊢
        by_cases x : j - 1 = s
        · have := h.2 (by omega) (by omega)
          rw [show s + 1 = j by omega] at this
          rw [if_pos x]
          split <;> omega
        · rw [if_neg x]
          split <;> omega
theorem seL {μ : Mm} (hm : MB 307 μ R) {s : Nat} (hs : s < 24) (v : Int) : sh_X12_set (jv s) (jv 0) (jv v) μ = some (sI μ 307 (lvc s) (jv v)) := by
  have l1 : ln 307 = 18701 := rfl
  unfold sh_X12_set
  simp only [jv_lit]
  rw [hm.2.1, jv_mul, jv_add, jv_add, st_jv (by omega) (by omega), Option.bind_some, show (12 + 102 * (s : Int) + 0).toNat = 12 + 102 * s + 0 by omega]
theorem ckLv {μ : Mm} {a : Int} (ha : i32 a) : sh_X11_checkLevel (jv a) μ = some (if 1 ≤ a ∧ a ≤ 4 then .inr () else .inl 1) := by
  unfold i32 at ha
  unfold sh_X11_checkLevel sh_X11_checkLevel_10
  simp only [jv_lit]
  by_cases z : a < 1
  · rw [if_pos (by rw [jv_lt] <;> omega), if_neg (by omega)]
  · rw [if_neg (by rw [jv_lt] <;> omega)]
    by_cases y : a ≤ 4
    · rw [if_pos (by rw [jv_le] <;> omega), if_pos ⟨by omega, y⟩]
    · rw [if_neg (by rw [jv_le] <;> omega), if_neg (by omega)]
theorem okC_lv (s : Nat) (hs : s < 24) : okC (lvc s) := ⟨by show 12 + 102 * s + 0 < 2460; omega, by show 12 + 102 * s + 0 ≠ 10; omega, by show 12 + 102 * s + 0 ≠ 11; omega, fun s' => ⟨by show 12 + 102 * s + 0 ≠ 12 + 102 * s' + 4; omega, by show 12 + 102 * s + 0 ≠ 12 + 102 * s' + 5; omega⟩⟩
theorem q_setLevel (hn : 120000 ≤ n) {μ : Mm} (h : ST μ I O R N fr) (a b : Int32) : Qs [2, 1] μ I O (sh_X11_setLevel n a b μ) (sh_X12_setLevel n a b) := by
  have hq := h.qs
  have hw := hq.1
  have hN := hw.1
  obtain ⟨z, h1, h2, rfl⟩ := jv_ex a
  obtain ⟨y, h3, h4, rfl⟩ := jv_ex b
  unfold sh_X11_setLevel
  rw [ckS hq ⟨h1, h2⟩, Option.bind_some, ckLv ⟨h3, h4⟩, Option.bind_some]
  by_cases hz : 0 ≤ z ∧ z < N
  · obtain ⟨s, rfl⟩ : ∃ s : Nat, z = s := ⟨z.toNat, by omega⟩
    have hs : s < N := by omega
    have hls := (hw.sec hs).2.1
    rw [if_pos hz, Sum.elim_inr]
    -- the model, the section being there
    have e70 : ∀ (ν : Mm) (is x4 : Int), MB 307 ν R → (is = 0 ∨ is = 1) → sh_X12_setLevel_70 n (jv s) (jv y) (jv is) (jv x4) ν = if is = 1 then (sh_X12_remember n (sI ν 306 0 (jv 0))).bind fun r5 => (sh_X12_set (jv s) (jv 0) (jv y) r5).bind fun r6 => some (jv x4, r6) else some (jv 0, sI ν 306 0 (jv 2)) := by
      intro ν is x4 hν his
      unfold sh_X12_setLevel_70
      rw [isS hν hw ⟨h1, h2⟩, Option.bind_some, if_pos hz]
      simp only [jv_lit]
      rcases his with rfl | rfl
      · have ep : sh_X12_passes2 (jv 1) (jv 0) ν = some (jv 0, sI ν 306 0 (jv 2)) := rfl
        rw [ep, Option.bind_some, if_pos (show jv 0 = jv 0 from rfl), if_neg (by omega)]
      · have ep : sh_X12_passes2 (jv 1) (jv 1) ν = some (jv 1, sI ν 306 0 (jv 0)) := rfl
        rw [ep, Option.bind_some, if_neg (show ¬ jv 1 = jv 0 by decide), if_pos rfl]
    have eM : ∀ ν : Mm, MB 307 ν R → ∃ ν', Fm (fun k _ => False) ν ν' ∧ sh_X12_setLevel n (jv s) (jv y) ν = sh_X12_setLevel_70 n (jv s) (jv y) (jv (if (1 ≤ y ∧ y ≤ 4) ∧ okLv R N fr s y then 1 else 0)) (jv (lev R s)) ν' := by
      intro ν hν
      have hi := isS hν hw (a := (s : Int)) ⟨h1, h2⟩
      rw [if_pos hz] at hi
      unfold sh_X12_setLevel sh_X12_setLevel_24 sh_X12_setLevel_25
      rw [hi, Option.bind_some, if_neg one_ne, li1, li4, in_b ⟨h3, h4⟩ (by unfold i32; omega) (by unfold i32; omega), Option.bind_some]
      simp only [jv_lit, Option.bind_some]
      rw [hν.oL (by omega), Option.bind_some, if_neg (show ¬ jv 1 = jv 0 by decide)]
      unfold sh_X12_setLevel_44
      simp only [jv_lit]
      by_cases hy : 1 ≤ y ∧ y ≤ 4
      · rw [if_pos hy]
        simp only [if_neg (show ¬ jv 1 = jv 0 by decide)]
        rw [seL hν (by omega)]
        simp only [Option.bind_some]
        have hm2 : MB 307 (sI ν 307 (lvc s) (jv y)) (bup R (lvc s) y) := hν.up (by show 12 + 102 * s + 0 < 2460; omega)
        obtain ⟨g1, g2, g3, g4, g5⟩ := lv_ne (R := R) s y
        have ea : sh_X12_areLevels_4 n (sI ν 307 (lvc s) (jv y)) n (jv 1) (jv 0) = _ := (arM4 (n := n) hm2 (N := N) ⟨by rw [bup_ne (show 9 ≠ 12 + 102 * s + 0 by omega)]; exact hN.1, hN.2.1⟩ (fun j hj => by
          have hb := (hw.sec hj).2.1
          rw [g3, g1]
          refine ⟨by rcases hw.pb hj with q | q <;> omega, ?_⟩
          split <;> omega) N n 0 (by omega) (by omega)).2
        unfold sh_X12_areLevels
        simp only [jv_lit]
        rw [ea, Option.bind_some, seL hm2 (by omega), Option.bind_some]
        refine ⟨sI (sI ν 307 (lvc s) (jv y)) 307 (lvc s) (jv (lev R s)), ⟨rfl, fun k j _ => ?_⟩, ?_⟩
        · rw [sI_1, sI_1]
          by_cases w : k = 307 ∧ j = lvc s
          · rw [if_pos w, w.1, w.2, hν.2.2 (lvc s) (by show 12 + 102 * s + 0 < 2460; omega)]
            rfl
          · rw [if_neg w, if_neg w]
        · congr 2
          by_cases w : okLv R N fr s y
          · rw [if_pos ((al_ok hw hs hy).mpr w), if_pos ⟨hy, w⟩]
          · rw [if_neg (fun q => w ((al_ok hw hs hy).mp q)), if_neg (fun q => w q.2)]
      · rw [if_neg hy, if_pos (show jv 0 = jv 0 from rfl), if_neg (fun q : (1 ≤ y ∧ y ≤ 4) ∧ okLv R N fr s y => hy q.1)]
        refine ⟨ν, Fm.rf, ?_⟩
        rw [if_pos trivial]
    have bad : ¬ ((1 ≤ y ∧ y ≤ 4) ∧ okLv R N fr s y) → ∃ μ2, sh_X12_setLevel n (jv s) (jv y) μ = some (jv 0, μ2) ∧ μ2.1 306 0 = jv 2 ∧ ST μ2 I O R N fr := by
      intro hno
      obtain ⟨ν', f', e'⟩ := eM μ hq.2.2.2
      have hm' := hq.2.2.2.fr f' (fun _ _ q => q)
      rw [if_neg hno, e70 ν' 0 (lev R s) hm' (Or.inl rfl), if_neg (by omega)] at e'
      exact ⟨_, e', by rw [sI_1, if_pos ⟨rfl, rfl⟩], (h.kq (f'.mono (fun _ _ q => q.elim))).th _⟩
    by_cases hy : 1 ≤ y ∧ y ≤ 4
    · rw [if_pos hy, Sum.elim_inr, hq.2.1.po hw hs, Option.bind_some, jv_lit (nat_lit 1), jv_add, lvC hw hq.2.1 hs hy, Option.bind_some]
      by_cases ho : okLv R N fr s y
      · rw [if_pos ho, if_neg one_ne]
        obtain ⟨μ1, e1, b1, K⟩ := edit1 (n := n) hn h (c := lvc s) (v := y) (okC_lv s (by omega)) (hw.lv hs hy ho)
        obtain ⟨e2, b2⟩ := b1.lv2 hw hs y
        obtain ⟨μ3, μ4, e3, m3, e4, m4, hST, th⟩ := K _ (Fm.rf.sI (by omega)) b2
        obtain ⟨ν', f', e'⟩ := eM μ3 m3
        have hν : ν' = μ3 := by
          refine Prod.ext ?_ f'.1
          funext k j
          exact f'.2 k j (fun q => q)
        rw [hν, if_pos ⟨hy, ho⟩, e70 μ3 1 (lev R s) m3 (Or.inr rfl), if_pos rfl, e4, Option.bind_some, seL m4 (by omega), Option.bind_some] at e'
        refine ⟨.inr (jv (lev R s)), μ3, jv (lev R s), _, I, O, _, N, fr, ?_, e', ⟨th, rfl⟩, hST⟩
        rw [e1, Option.bind_some, show (14 : Nat) = 11 + 3 from rfl, b1.lv hw hs, Option.bind_some, e2, Option.bind_some, e3]
        rfl
      · obtain ⟨μ2, e2, t2, s2⟩ := bad (fun q => ho q.2)
        rw [if_neg ho, if_pos zro]
        exact ⟨.inl 1, μ, jv 0, μ2, I, O, R, N, fr, rfl, e2, ⟨1, rfl, by rw [t2]; rfl⟩, s2⟩
    · obtain ⟨μ2, e2, t2, s2⟩ := bad (fun q => hy q.1)
      rw [if_neg hy]
      exact ⟨.inl 1, μ, jv 0, μ2, I, O, R, N, fr, rfl, e2, ⟨1, rfl, by rw [t2]; rfl⟩, s2⟩
  · rw [if_neg hz]
    have hi := isS hq.2.2.2 hw (a := z) ⟨h1, h2⟩
    rw [if_neg hz] at hi
    refine ⟨.inl 2, μ, jv 0, sI μ 306 0 (jv 1), I, O, R, N, fr, rfl, ?_, ⟨0, rfl, by rw [sI_1, if_pos ⟨rfl, rfl⟩]; rfl⟩, h.th _⟩
    unfold sh_X12_setLevel sh_X12_setLevel_24 sh_X12_setLevel_25 sh_X12_setLevel_44 sh_X12_setLevel_70
    rw [hi, Option.bind_some, if_pos zro, Option.bind_some, if_pos zro, if_pos rfl, Option.bind_some]
    rfl
end LV2
