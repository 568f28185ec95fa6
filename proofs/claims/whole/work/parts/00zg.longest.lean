/-! LONGEST titles -/
section LGS
variable {n : Nat} {R : Nat → Int} {N fr : Nat}
theorem ttw_b (hw : WB 500 R N fr) {s : Nat} (hs : s < N) : 0 ≤ ttw R s ∧ ttw R s ≤ 1000 := by
  have hwc := (hw.sec hs).2.2.2.1
  have : ∀ w : Nat, 0 ≤ ttl R s w ∧ ttl R s w ≤ 73 * w := by
    intro w
    induction w with
    | zero => exact ⟨Int.le_refl _, Int.le_refl _⟩
    | succ w ih =>
      have hb := tokW_b hw hs w
      rw [ttl]
      split <;> omega
  have := this (wct R s).toNat
  unfold ttw
  omega
abbrev ahT (R : Nat → Int) (i k : Nat) : Prop := ttw R i < ttw R k ∨ ttw R k = ttw R i ∧ k < i
theorem LY.tw {μ : Mm} {t : Nat} (h : LY t μ R N fr) (hw : WB 500 R N fr) {e : Nat} (he : e < N) : sh_X5_at (t + 12) (jv e) μ = some (jv (ttw R e)) := by
  have hN := hw.1
  have l1 : ln (t + 12 + 1) = 24 := h.1.1.2.2.2.2.2
  rw [a5_in (by omega) (by omega), Int.toNat_natCast]
  exact congrArg some (h.2.1.2 e he).2.2.2.2.2
theorem tbC {μ : Mm} (hq : QS μ R N fr) {i : Nat} (hi : i < N) : ∀ (k f j : Nat) (x : Int), j + k = N → k < f → sh_X11_titlesBefore_20 n (jv i) μ f (jv x) (jv (ttw R i)) (jv j) = some (jv (x + cnt (ahT R i) k j)) := by
  obtain ⟨hw, hb, hL, hm⟩ := hq
  have hN := hw.1
  have b1 := ttw_b hw hi
  intro k
  induction k with
  | zero =>
    intro f j x hj hf
    obtain ⟨f, rfl⟩ : ∃ g, f = g + 1 := ⟨f - 1, by omega⟩
    rw [sh_X11_titlesBefore_20, hb.2.2.1.2.1, if_pos (by rw [jv_le] <;> omega), cnt, Int.add_zero]
  | succ k ih =>
    intro f j x hj hf
    obtain ⟨f, rfl⟩ : ∃ g, f = g + 1 := ⟨f - 1, by omega⟩
    have b2 := ttw_b hw (s := j) (by omega)
    rw [sh_X11_titlesBefore_20, hb.2.2.1.2.1, if_neg (by rw [jv_le] <;> omega), show (50 : Nat) = 38 + 12 from rfl, hL.tw hw (by omega), Option.bind_some]
    simp only [jv_lit]
    rw [jv_add, jv_add, show (j : Int) + 1 = ((j + 1 : Nat) : Int) by omega, ih f (j + 1) _ (by omega) (by omega), ih f (j + 1) _ (by omega) (by omega), cnt]
    by_cases y : ttw R i < ttw R j
    · rw [if_pos (by rw [jv_lt] <;> omega), if_pos (Or.inl y), Int.add_assoc]
    · rw [if_neg (by rw [jv_lt] <;> omega)]
      by_cases z : ttw R j = ttw R i
      · rw [if_pos (by rw [z])]
        by_cases w : j < i
        · rw [if_neg (by rw [jv_le] <;> omega), if_pos (Or.inr ⟨z, w⟩), Int.add_assoc]
        · rw [if_pos (by rw [jv_le] <;> omega), if_neg (by omega), Int.zero_add]
      · rw [if_neg (by rw [jv_eq] <;> omega), if_neg (by omega), Int.zero_add]
abbrev isT (R : Nat → Int) (N : Nat) (p : Int) (i : Nat) : Prop := cnt (ahT R i) N 0 = p
theorem lgC (hn : 40 ≤ n) {μ : Mm} (hq : QS μ R N fr) {p : Int} (hp : i32 p) : ∀ (k f i : Nat), i + k = N → k < f → sh_X11_longest_7 n (jv p) μ f (jv i) = some (.inr (jv (fnd (isT R N p) k i))) := by
  have hN := hq.1.1
  unfold i32 at hp
  intro k
  induction k with
  | zero =>
    intro f i hi hf
    obtain ⟨f, rfl⟩ : ∃ g, f = g + 1 := ⟨f - 1, by omega⟩
    rw [sh_X11_longest_7, hq.2.1.2.2.1.2.1, if_pos (by rw [jv_le] <;> omega)]
    rfl
  | succ k ih =>
    intro f i hi hf
    obtain ⟨f, rfl⟩ : ∃ g, f = g + 1 := ⟨f - 1, by omega⟩
    have hc := cnt_b (ahT R i) N 0
    have e0 : sh_X11_titlesBefore_20 n (jv i) μ n (jv 0) (jv (ttw R i)) (jv 0) = _ := tbC (n := n) hq (i := i) (by omega) N n 0 0 (by omega) (by omega)
    rw [sh_X11_longest_7, hq.2.1.2.2.1.2.1, if_neg (by rw [jv_le] <;> omega)]
    unfold sh_X11_titlesBefore
    simp only [jv_lit]
    rw [show (50 : Nat) = 38 + 12 from rfl, hq.2.2.1.tw hq.1 (by omega), Option.bind_some, e0, Option.bind_some, Int.zero_add, jv_add, show (i : Int) + 1 = ((i + 1 : Nat) : Int) by omega, ih f (i + 1) (by omega) (by omega), fnd]
    by_cases y : cnt (ahT R i) N 0 = p
    · rw [if_pos (by rw [y]), if_pos y]
    · rw [if_neg (by rw [jv_eq] <;> omega), if_neg y]
theorem tbM (hn : 16001 ≤ n) (hw : WB 500 R N fr) {a : Int32} (k24 : Int32 → Mm → Option (Int32 × Mm)) {i : Nat} (hi : i < N) : ∀ (k f j : Nat) (x : Int) (μ : Mm), j + k = N → k < f → MB 307 μ R → LM μ R N → ∃ μ1, sh_X12_longest_40 n a k24 f (jv i) (jv x) (jv j) μ = (if jv (x + cnt (ahT R i) k j) = a then some (jv i, μ1) else k24 (jv ((i + 1 : Nat) : Int)) μ1) ∧ Fm PM2 μ μ1 := by
  have hN := hw.1
  have b1 := ttw_b hw hi
  intro k
  induction k with
  | zero =>
    intro f j x μ hj hf hm hl
    obtain ⟨f, rfl⟩ : ∃ g, f = g + 1 := ⟨f - 1, by omega⟩
    rw [sh_X12_longest_40, jv_lit (nat_lit 9), mbl9 hm, Option.bind_some, hN.1, if_pos (by rw [jv_le] <;> omega), cnt, Int.add_zero, jv_lit (nat_lit 1), jv_add]
    exact ⟨μ, rfl, Fm.rf⟩
  | succ k ih =>
    intro f j x μ hj hf hm hl
    obtain ⟨f, rfl⟩ : ∃ g, f = g + 1 := ⟨f - 1, by omega⟩
    have b2 := ttw_b hw (s := j) (by omega)
    have kp : ∀ {μ1 μ2 : Mm}, Fm PM2 μ1 μ2 → MB 307 μ1 R → LM μ1 R N → MB 307 μ2 R ∧ LM μ2 R N := fun f1 h1 h2 => ⟨h1.fr f1 (fun i _ => by omega), h2.kp f1 (fun j => ⟨by omega, by omega⟩)⟩
    obtain ⟨μ1, e1, f1⟩ := toM0 (n := n) hn hw (s := j) (by omega) hm hl
    obtain ⟨m1, l1⟩ := kp f1 hm hl
    obtain ⟨μ2, e2, f2⟩ := toM0 (n := n) hn hw hi m1 l1
    obtain ⟨m2, l2⟩ := kp f2 m1 l1
    obtain ⟨μ3, e3, f3⟩ := toM0 (n := n) hn hw (s := j) (by omega) m2 l2
    obtain ⟨m3, l3⟩ := kp f3 m2 l2
    obtain ⟨μ4, e4, f4⟩ := toM0 (n := n) hn hw hi m3 l3
    obtain ⟨m4, l4⟩ := kp f4 m3 l3
    have g2 := f1.tr f2 (fun _ _ y => y)
    have g4 := (g2.tr f3 (fun _ _ y => y)).tr f4 (fun _ _ y => y)
    rw [sh_X12_longest_40, jv_lit (nat_lit 9), mbl9 hm, Option.bind_some, hN.1, if_neg (by rw [jv_le] <;> omega), e1, Option.bind_some, e2, Option.bind_some]
    simp only [jv_lit, nm_eq]
    rw [e3, Option.bind_some, e4, Option.bind_some, jv_add, jv_add, jv_add, show (j : Int) + 1 = ((j + 1 : Nat) : Int) by omega, cnt]
    by_cases y : ttw R i < ttw R j
    · obtain ⟨μ5, e5, f5⟩ := ih f (j + 1) (x + 1) μ2 (by omega) (by omega) m2 l2
      rw [if_pos (by rw [jv_lt] <;> omega), if_pos (Or.inl y), e5, Int.add_assoc]
      exact ⟨μ5, rfl, g2.tr f5 (fun _ _ y => y)⟩
    · obtain ⟨μ5, e5, f5⟩ := ih f (j + 1) (x + 0) μ4 (by omega) (by omega) m4 l4
      obtain ⟨μ6, e6, f6⟩ := ih f (j + 1) (x + 1) μ4 (by omega) (by omega) m4 l4
      rw [if_neg (by rw [jv_lt] <;> omega)]
      by_cases z : ttw R j = ttw R i
      · rw [if_pos (by rw [z])]
        by_cases w : j < i
        · rw [if_neg (by rw [jv_le] <;> omega), if_pos (Or.inr ⟨z, w⟩), e6, Int.add_assoc]
          exact ⟨μ6, rfl, g4.tr f6 (fun _ _ y => y)⟩
        · rw [if_pos (by rw [jv_le] <;> omega), if_neg (by omega), e5, Int.add_assoc]
          exact ⟨μ5, rfl, g4.tr f5 (fun _ _ y => y)⟩
      · rw [if_neg (by rw [jv_eq] <;> omega), if_neg (by omega), e5, Int.add_assoc]
        exact ⟨μ5, rfl, g4.tr f5 (fun _ _ y => y)⟩
theorem lgM (hn : 16001 ≤ n) (hw : WB 500 R N fr) {p : Int} (hp : i32 p) : ∀ (k f i : Nat) (μ : Mm), i + k = N → k < f → MB 307 μ R → LM μ R N → ∃ μ1, sh_X12_longest_24 n (jv p) f (jv i) μ = some (jv (fnd (isT R N p) k i), μ1) ∧ Fm PM2 μ μ1 := by
  have hN := hw.1
  unfold i32 at hp
  intro k
  induction k with
  | zero =>
    intro f i μ hi hf hm hl
    obtain ⟨f, rfl⟩ : ∃ g, f = g + 1 := ⟨f - 1, by omega⟩
    rw [sh_X12_longest_24, jv_lit (nat_lit 9), mbl9 hm, Option.bind_some, hN.1, if_pos (by rw [jv_le] <;> omega)]
    exact ⟨μ, rfl, Fm.rf⟩
  | succ k ih =>
    intro f i μ hi hf hm hl
    obtain ⟨f, rfl⟩ : ∃ g, f = g + 1 := ⟨f - 1, by omega⟩
    have hc := cnt_b (ahT R i) N 0
    rw [sh_X12_longest_24, jv_lit (nat_lit 9), mbl9 hm, Option.bind_some, hN.1, if_neg (by rw [jv_le] <;> omega), fnd]
    obtain ⟨μ1, e1, f1⟩ := tbM (n := n) hn hw (a := jv p) (fun (x2 : Int32) (μ : Mm) => sh_X12_longest_24 n (jv p) f x2 μ) (i := i) (by omega) N n 0 0 μ (by omega) (by omega) hm hl
    have e1' : sh_X12_longest_40 n (jv p) (fun (x2 : Int32) (μ : Mm) => sh_X12_longest_24 n (jv p) f x2 μ) n (jv i) (jv 0) (jv 0) μ = _ := e1
    simp only [jv_lit]
    rw [e1', Int.zero_add]
    by_cases y : cnt (ahT R i) N 0 = p
    · rw [if_pos (by rw [y]), if_pos y]
      exact ⟨μ1, rfl, f1⟩
    · rw [if_neg (by rw [jv_eq] <;> omega), if_neg y]
      obtain ⟨μ2, e2, f2⟩ := ih f (i + 1) μ1 (by omega) (by omega) (hm.fr f1 (fun i _ => by omega)) (hl.kp f1 (fun j => ⟨by omega, by omega⟩))
      exact ⟨μ2, e2, f1.tr f2 (fun _ _ y => y)⟩
theorem ckP {z : Int} (hz : i32 z) {μ : Mm} : sh_X11_checkPlace (jv z) μ = some (if 0 ≤ z then .inr () else .inl 1) := by
  unfold i32 at hz
  unfold sh_X11_checkPlace
  rw [jv_lit (nat_lit 0)]
  by_cases y : 0 ≤ z
  · rw [if_pos (by rw [jv_le] <;> omega), if_pos y]
  · rw [if_neg (by rw [jv_le] <;> omega), if_neg y]
theorem q_longest (hn : 16001 ≤ n) {μ : Mm} (hq : QS μ R N fr) (a : Int32) : Qr [1] μ (sh_X11_longest n a μ) (sh_X12_longest n a μ) := by
  obtain ⟨z, h1, h2, rfl⟩ := jv_ex a
  have hN := hq.1.1
  unfold sh_X11_longest sh_X12_longest sh_X12_longest_10
  rw [ckP ⟨h1, h2⟩, Option.bind_some]
  simp only [jv_lit]
  by_cases y : 0 ≤ z
  · have f0 : Fm PQ μ (sI μ 306 0 (jv 0)) := Fm.rf.sI (by omega)
    obtain ⟨μ1, e1, hl, f1⟩ := layLM (n := n) (by omega) hq.1 (hq.2.2.2.r00 (v := jv 0))
    have g1 : Fm PQ μ μ1 := f0.tr f1 (fun k j y => by omega)
    obtain ⟨μ2, e2, f2⟩ := lgM (n := n) hn hq.1 ⟨h1, h2⟩ N n 0 μ1 (by omega) (by omega) (hq.2.2.2.fr g1 (fun i _ => by omega)) hl
    have eM : sh_X12_longest_24 n (jv z) n (jv 0) μ1 = _ := e2
    have eC : sh_X11_longest_7 n (jv z) μ n (jv 0) = _ := lgC (n := n) (by omega) hq ⟨h1, h2⟩ N n 0 (by omega) (by omega)
    rw [if_pos y, if_neg (show ¬ jv z < jv 0 by rw [jv_lt] <;> omega), pas1, Option.bind_some, if_neg (show ¬ jv 1 = jv 0 by decide), e1, Option.bind_some, eM, Sum.elim_inr, eC]
    exact ⟨_, _, _, rfl, rfl, g1.tr f2 (fun k j y => by omega), by rw [f2.at _ _ (by omega), f1.at _ _ (by omega), sI_1, if_pos ⟨rfl, rfl⟩], rfl⟩
  · rw [if_neg y, if_pos (show jv z < jv 0 by rw [jv_lt] <;> omega), pas0, Option.bind_some, if_pos (show jv 0 = jv 0 from rfl)]
    exact ⟨_, _, _, rfl, rfl, Fm.rf.sI (by omega), 0, rfl, by rw [sI_1, if_pos ⟨rfl, rfl⟩]; rfl⟩
end LGS
