/-! THE DIFFERENT WORDS laid by the model -/
def GM (μ : Mm) (R : Nat → Int) (W : List Nat) : Prop := μ.1 306 44 = jv (Lk R W).length ∧ ∀ i, i < (Lk R W).length → μ.1 327 i = jv (((Lk R W).getD i 0 : Nat) : Int)
abbrev PGM : Nat → Nat → Prop := fun k j => k = 306 ∧ j = 44 ∨ k = 327
section WRM
variable {n : Nat} {R : Nat → Int} {N fr : Nat}
theorem MB.gm {μ μ' : Mm} (h : MB 307 μ R) (hf : Fm PGM μ μ') : MB 307 μ' R := h.fr hf (fun i _ => by omega)
theorem ctM (hn : 200 ≤ n) (hw : WB 500 R N fr) {μ : Mm} {W : List Nat} (hm : MB 307 μ R) (hg : GM μ R W) (hW : ∀ x ∈ W, isW R N x) {p : Nat} (hp : p < (Lk R W).length) (hp2 : p < 192) {s w : Nat} (hc : isW R N (8 * s + w)) (hww : w < 8) : ∃ d : Int, sh_X12_compareTo n (jv s) (jv w) (jv p) μ = some (jv d) ∧ (d = 0 ↔ kc R ((Lk R W).getD p 0) = kc R (8 * s + w)) ∧ (0 < d ↔ kc R ((Lk R W).getD p 0) < kc R (8 * s + w)) ∧ -122 ≤ d ∧ d ≤ 122 := by
  have hN := hw.1
  have l1 : ln 327 = 192 := rfl
  have hx : isW R N ((Lk R W).getD p 0) := hW _ ((Lk_sp R W).2.2.1 _ (by rw [gD hp]; exact List.getElem_mem hp))
  have hx1 := hx.1
  have ho := hx.ok hw
  have hco := hc.ok hw
  have hc1 := hc.1
  generalize hxe : (Lk R W).getD p 0 = x at *
  have ev : μ.1 327 p = jv x := by rw [hg.2 p hp, hxe]
  unfold sh_X12_compareTo
  simp only [jv_lit]
  rw [ld_jv (by omega) (by omega), Option.bind_some, Int.toNat_natCast, ev, dv_jv (by omega) (by omega) (by omega) (by omega), Option.bind_some, Option.bind_some, rm_jv (by omega) (by omega) (by omega) (by omega), Option.bind_some, show (x : Int) / 8 = ((x / 8 : Nat) : Int) by omega, show (x : Int) % 8 = ((x % 8 : Nat) : Int) by omega]
  have e1 : (8 * s + w) / 8 = s := by omega
  have e2 : (8 * s + w) % 8 = w := by omega
  rw [e1] at hc1
  rw [e1, e2] at hco
  rw [cpM (by omega) hm (by omega) hww (by omega) (by omega) hco ho, Option.bind_some]
  have hcm := cmpd_pk hco ho
  unfold kc
  rw [e1, e2]
  exact ⟨_, rfl, by rw [hcm.1]; exact ⟨fun q => q.symm, fun q => q.symm⟩, hcm.2.1, hcm.2.2.1, hcm.2.2.2⟩
theorem lw51 {s w : Nat} {p : Nat} (hs : s < 24) (hww : w < 8) : ∀ (j f : Nat) (μ : Mm), p + j < 192 → j < f → ∃ μ1, sh_X12_layWord_51 n (jv s) (jv w) f (jv p) (jv ((p + j : Nat) : Int)) μ = some μ1 ∧ μ1.1 306 44 = μ.1 306 44 + jv 1 ∧ (∀ i, μ1.1 327 i = if i = p then jv ((8 * s + w : Nat) : Int) else if p < i ∧ i ≤ p + j then μ.1 327 (i - 1) else μ.1 327 i) ∧ Fm PGM μ μ1 := by
  have l1 : ln 327 = 192 := rfl
  intro j
  induction j with
  | zero =>
    intro f μ hj hf
    obtain ⟨f, rfl⟩ : ∃ g, f = g + 1 := ⟨f - 1, by omega⟩
    rw [sh_X12_layWord_51, if_pos (by rw [jv_le] <;> omega)]
    simp only [jv_lit]
    rw [jv_mul, jv_add, st_jv (by omega) (by omega), Option.bind_some, Int.toNat_natCast, pt_eq, Option.bind_some]
    refine ⟨_, rfl, ?_, fun i => ?_, (Fm.rf.sI (Or.inr rfl)).sI (Or.inl ⟨rfl, rfl⟩)⟩
    · rw [sI_1, if_pos ⟨rfl, rfl⟩, sI_1, if_neg (by omega)]
    · rw [sI_1, if_neg (by omega), sI_1]
      by_cases z : i = p
      · rw [if_pos ⟨rfl, z⟩, if_pos z]
        rfl
      · rw [if_neg (fun q => z q.2), if_neg z, if_neg (by omega)]
  | succ j ih =>
    intro f μ hj hf
    obtain ⟨f, rfl⟩ : ∃ g, f = g + 1 := ⟨f - 1, by omega⟩
    rw [sh_X12_layWord_51, if_neg (by rw [jv_le] <;> omega)]
    simp only [jv_lit]
    rw [jv_sub, show ((p + (j + 1) : Nat) : Int) - 1 = ((p + j : Nat) : Int) by omega, ld_jv (by omega) (by omega), Option.bind_some, st_jv (by omega) (by omega), Option.bind_some, Int.toNat_natCast, Int.toNat_natCast, jv_neg, jv_add, show ((p + (j + 1) : Nat) : Int) + -1 = ((p + j : Nat) : Int) by omega]
    obtain ⟨μ1, e1, a1, a2, a3⟩ := ih f (sI μ 327 (p + (j + 1)) (μ.1 327 (p + j))) (by omega) (by omega)
    have f0 : Fm PGM μ (sI μ 327 (p + (j + 1)) (μ.1 327 (p + j))) := Fm.rf.sI (Or.inr rfl)
    refine ⟨μ1, e1, ?_, fun i => ?_, f0.tr a3 (fun _ _ y => y)⟩
    · rw [a1, sI_1, if_neg (by omega)]
    · rw [a2, sI_1, sI_1]
      by_cases z : i = p
      · rw [if_pos z, if_pos z]
      · rw [if_neg z, if_neg z]
        by_cases y : p < i ∧ i ≤ p + j
        · rw [if_pos y, if_neg (by omega), if_pos (by omega)]
        · rw [if_neg y]
          by_cases v : i = p + (j + 1)
          · rw [if_pos ⟨rfl, v⟩, if_pos (by omega), show i - 1 = p + j by omega]
          · rw [if_neg (fun q => v q.2), if_neg (by omega)]
theorem lw26 (hn : 200 ≤ n) (hw : WB 500 R N fr) {μ : Mm} {W : List Nat} {s w : Nat} (hm : MB 307 μ R) (hg : GM μ R W) (hc : isW R N (8 * s + w)) (hww : w < 8) (hW : ∀ x ∈ W, isW R N x) (hl : (Lk R W).length ≤ 191) : ∃ μ1, sh_X12_layWord_26 n (jv s) (jv w) (jv (psn R (kc R (8 * s + w)) (Lk R W))) μ = some μ1 ∧ GM μ1 R (W ++ [8 * s + w]) ∧ Fm PGM μ μ1 := by
  have hN := hw.1
  have hc1 := hc.1
  obtain ⟨h1, h2, h3⟩ := psn_sp R (kc R (8 * s + w)) (Lk R W)
  have ins : ¬ fd R (Lk R W) (8 * s + w) → ∃ μ1, sh_X12_layWord_51 n (jv s) (jv w) n (jv (psn R (kc R (8 * s + w)) (Lk R W))) (jv (Lk R W).length) μ = some μ1 ∧ GM μ1 R (W ++ [8 * s + w]) ∧ Fm PGM μ μ1 := by
    intro hno
    have eL : Lk R (W ++ [8 * s + w]) = (Lk R W).take (psn R (kc R (8 * s + w)) (Lk R W)) ++ (8 * s + w) :: (Lk R W).drop (psn R (kc R (8 * s + w)) (Lk R W)) := by
      rw [Lk_add]
      unfold insW
      rw [if_neg hno]
    generalize hp : psn R (kc R (8 * s + w)) (Lk R W) = p at *
    obtain ⟨μ1, e1, a1, a2, a3⟩ := lw51 (n := n) (s := s) (w := w) (p := p) (by omega) hww ((Lk R W).length - p) n μ (by omega) (by omega)
    rw [show p + ((Lk R W).length - p) = (Lk R W).length by omega] at e1
    refine ⟨μ1, e1, ⟨?_, fun i hi => ?_⟩, a3⟩
    · rw [a1, hg.1, eL, ins_l h1, jv_add]
      rfl
    · rw [eL, ins_l h1] at hi
      rw [eL, ins_g h1, a2]
      by_cases z : i = p
      · rw [if_pos z, if_neg (by omega), if_pos z]
      · rw [if_neg z]
        by_cases y : i < p
        · rw [if_neg (by omega), if_pos y, hg.2 i (by omega)]
        · rw [if_pos (by omega), if_neg y, if_neg z, hg.2 (i - 1) (by omega)]
  unfold sh_X12_layWord_26
  simp only [nm_eq, jv_lit]
  rw [hg.1]
  by_cases z : psn R (kc R (8 * s + w)) (Lk R W) = (Lk R W).length
  · rw [if_pos (by rw [jv_le] <;> omega)]
    exact ins (fun q => by have := q.1; omega)
  · have hlt : psn R (kc R (8 * s + w)) (Lk R W) < (Lk R W).length := by omega
    obtain ⟨d, e, d1, d2, d3⟩ := ctM hn hw hm hg hW hlt (by omega) hc hww
    rw [if_neg (by rw [jv_le] <;> omega), e, Option.bind_some]
    by_cases y : kc R ((Lk R W).getD (psn R (kc R (8 * s + w)) (Lk R W)) 0) = kc R (8 * s + w)
    · have eL : Lk R (W ++ [8 * s + w]) = Lk R W := by
        rw [Lk_add]
        unfold insW
        rw [if_pos ⟨hlt, y⟩]
      rw [d1.mpr y, if_pos (show jv 0 = jv 0 from rfl)]
      exact ⟨μ, rfl, by unfold GM; rw [eL]; exact hg, Fm.rf⟩
    · have : ¬ d = 0 := fun q => y (d1.mp q)
      rw [if_neg (show ¬ jv d = jv 0 by rw [jv_eq] <;> omega)]
      exact ins (fun q => y q.2)
theorem lw2 (hn : 200 ≤ n) (hw : WB 500 R N fr) {W : List Nat} {s w : Nat} (hc : isW R N (8 * s + w)) (hww : w < 8) (hW : ∀ x ∈ W, isW R N x) (hl : (Lk R W).length ≤ 191) {μ : Mm} (hm : MB 307 μ R) (hg : GM μ R W) : ∀ (B A : List Nat) (f : Nat), Lk R W = A ++ B → B.length < f → sh_X12_layWord_2 n (jv s) (jv w) f (jv A.length) μ = sh_X12_layWord_26 n (jv s) (jv w) (jv ((A.length + psn R (kc R (8 * s + w)) B : Nat) : Int)) μ := by
  intro B
  induction B with
  | nil =>
    intro A f hA hf
    obtain ⟨f, rfl⟩ : ∃ g, f = g + 1 := ⟨f - 1, by omega⟩
    have : (Lk R W).length = A.length := by rw [hA, List.append_nil]
    rw [sh_X12_layWord_2, hg.1, if_pos (by rw [jv_le] <;> omega)]
    rfl
  | cons b B ih =>
    intro A f hA hf
    obtain ⟨f, rfl⟩ : ∃ g, f = g + 1 := ⟨f - 1, by omega⟩
    have hlen : (Lk R W).length = A.length + B.length + 1 := by rw [hA, List.length_append, List.length_cons]; omega
    have hb : (Lk R W).getD A.length 0 = b := by
      rw [hA, List.getD_eq_getElem?_getD, List.getElem?_append_right (Nat.le_refl _), Nat.sub_self]
      rfl
    rw [List.length_cons] at hf
    obtain ⟨d, e, d1, d2, d3⟩ := ctM hn hw hm hg hW (p := A.length) (by omega) (by omega) hc hww
    rw [hb] at d1 d2
    rw [sh_X12_layWord_2, hg.1, if_neg (by rw [jv_le] <;> omega), e, Option.bind_some, psn]
    by_cases z : kc R b < kc R (8 * s + w)
    · have hd := d2.mpr z
      rw [if_neg (by rw [jv_lit (nat_lit 0), jv_le] <;> omega), if_pos z, jv_lit (nat_lit 1), jv_add]
      have := ih (A ++ [b]) f (by rw [hA, List.append_assoc]; rfl) (by omega)
      rw [List.length_append] at this
      have e1 : ((A.length + [b].length : Nat) : Int) = (A.length : Int) + 1 := rfl
      rw [e1] at this
      rw [this]
      congr 2
      show ((A.length + 1 + psn R (kc R (8 * s + w)) B : Nat) : Int) = ((A.length + (psn R (kc R (8 * s + w)) B + 1) : Nat) : Int)
      omega
    · have hd : ¬ 0 < d := fun q => z (d2.mp q)
      rw [if_pos (by rw [jv_lit (nat_lit 0), jv_le] <;> omega), if_neg z]
      rfl
theorem lwM8 (hn : 200 ≤ n) (hw : WB 500 R N fr) {W : List Nat} {s w : Nat} (hc : isW R N (8 * s + w)) (hww : w < 8) (hW : ∀ x ∈ W, isW R N x) (hl : W.length ≤ 191) {μ : Mm} (hm : MB 307 μ R) (hg : GM μ R W) : ∃ μ1, sh_X12_layWord n (jv s) (jv w) μ = some μ1 ∧ GM μ1 R (W ++ [8 * s + w]) ∧ Fm PGM μ μ1 := by
  have s2 := (Lk_sp R W).2.1
  unfold sh_X12_layWord
  have e : sh_X12_layWord_2 n (jv s) (jv w) n (jv 0) μ = _ := lw2 (n := n) hn hw hc hww hW (by omega) hm hg (Lk R W) [] n rfl (by omega)
  rw [jv0, e, show ([] : List Nat).length + psn R (kc R (8 * s + w)) (Lk R W) = psn R (kc R (8 * s + w)) (Lk R W) from Nat.zero_add _]
  exact lw26 hn hw hm hg hc hww hW (by omega)
/-- the words of a prefix are words there are -/
theorem pre_ok (hw : WB 500 R N fr) {s w : Nat} (hs : s < N) (hww : (w : Int) ≤ wct R s) : (∀ x ∈ wal R s ++ wsl s w, isW R N x) ∧ (wal R s ++ wsl s w).length ≤ 8 * s + w := by
  have hwc := (hw.sec hs).2.2.2.1
  constructor
  · intro x hx
    rcases List.mem_append.mp hx with h | h
    · exact wal_mem hw s (by omega) x h
    · obtain ⟨v, h1, h2⟩ := wsl_mem _ x h
      exact ⟨by omega, by rw [show x / 8 = s by omega, show x % 8 = v by omega]; omega⟩
  · have := wal_len hw s (by omega)
    rw [List.length_append, wsl_len]
    omega
theorem cd_ok {s w : Nat} (hs : s < N) (hww : (w : Int) < wct R s) (h8 : w < 8) : isW R N (8 * s + w) := ⟨by omega, by rw [show (8 * s + w) / 8 = s by omega, show (8 * s + w) % 8 = w by omega]; omega⟩
theorem lw20 (hn : 200 ≤ n) (hw : WB 500 R N fr) {s : Nat} (hs : s < N) (k7 : Int32 → Mm → Option Mm) : ∀ (j f w : Nat) (μ : Mm), (w : Int) + j = wct R s → j < f → MB 307 μ R → GM μ R (wal R s ++ wsl s w) → ∃ μ1, sh_X12_layWords_20 n k7 f (jv s) (jv w) μ = k7 (jv ((s + 1 : Nat) : Int)) μ1 ∧ GM μ1 R (wal R (s + 1)) ∧ MB 307 μ1 R ∧ Fm PGM μ μ1 := by
  have hN := hw.1
  have hwc := (hw.sec hs).2.2.2.1
  intro j
  induction j with
  | zero =>
    intro f w μ hj hf hm hg
    obtain ⟨f, rfl⟩ : ∃ g, f = g + 1 := ⟨f - 1, by omega⟩
    rw [sh_X12_layWords_20, jv_lit (nat_lit 3), hm.oW (by omega), Option.bind_some, if_pos (by rw [jv_le] <;> omega), jv_lit (nat_lit 1), jv_add]
    refine ⟨μ, rfl, ?_, hm, Fm.rf⟩
    rw [wal, show (wct R s).toNat = w by omega]
    exact hg
  | succ j ih =>
    intro f w μ hj hf hm hg
    obtain ⟨f, rfl⟩ : ∃ g, f = g + 1 := ⟨f - 1, by omega⟩
    obtain ⟨p1, p2⟩ := pre_ok hw hs (w := w) (by omega)
    obtain ⟨μ1, e1, g1, f1⟩ := lwM8 (n := n) hn hw (cd_ok hs (w := w) (by omega) (by omega)) (by omega) p1 (by omega) hm hg
    rw [sh_X12_layWords_20, jv_lit (nat_lit 3), hm.oW (by omega), Option.bind_some, if_neg (by rw [jv_le] <;> omega), e1, Option.bind_some, jv_lit (nat_lit 1), jv_add, show (w : Int) + 1 = ((w + 1 : Nat) : Int) by omega]
    rw [List.append_assoc] at g1
    obtain ⟨μ2, e2, g2, b2, f2⟩ := ih f (w + 1) μ1 (by omega) (by omega) (hm.gm f1) g1
    exact ⟨μ2, e2, g2, b2, f1.tr f2 (fun _ _ y => y)⟩
theorem lw7 (hn : 200 ≤ n) (hw : WB 500 R N fr) : ∀ (j f s : Nat) (μ : Mm), s + j = N → j < f → MB 307 μ R → GM μ R (wal R s) → ∃ μ1, sh_X12_layWords_7 n f (jv s) μ = some μ1 ∧ GM μ1 R (wal R N) ∧ Fm PGM μ μ1 := by
  have hN := hw.1
  intro j
  induction j with
  | zero =>
    intro f s μ hj hf hm hg
    obtain ⟨f, rfl⟩ : ∃ g, f = g + 1 := ⟨f - 1, by omega⟩
    rw [sh_X12_layWords_7, jv_lit (nat_lit 9), mbl9 hm, Option.bind_some, hN.1, if_pos (by rw [jv_le] <;> omega)]
    refine ⟨μ, rfl, ?_, Fm.rf⟩
    rw [← show s = N by omega]
    exact hg
  | succ j ih =>
    intro f s μ hj hf hm hg
    obtain ⟨f, rfl⟩ : ∃ g, f = g + 1 := ⟨f - 1, by omega⟩
    have hwc := (hw.sec (s := s) (by omega)).2.2.2.1
    obtain ⟨μ1, e1, g1, b1, f1⟩ := lw20 (n := n) hn hw (s := s) (by omega) (fun (x1 : Int32) (μ : Mm) => sh_X12_layWords_7 n f x1 μ) (wct R s).toNat n 0 μ (by omega) (by omega) hm (by rw [wsl, List.append_nil]; exact hg)
    have e1' : sh_X12_layWords_20 n (fun (x1 : Int32) (μ : Mm) => sh_X12_layWords_7 n f x1 μ) n (jv s) (jv 0) μ = _ := e1
    rw [sh_X12_layWords_7, jv_lit (nat_lit 9), mbl9 hm, Option.bind_some, hN.1, if_neg (by rw [jv_le] <;> omega), jv0, e1']
    obtain ⟨μ2, e2, g2, f2⟩ := ih f (s + 1) μ1 (by omega) (by omega) b1 g1
    exact ⟨μ2, e2, g2, f1.tr f2 (fun _ _ y => y)⟩
theorem lwA (hn : 200 ≤ n) (hw : WB 500 R N fr) {μ : Mm} (hm : MB 307 μ R) : ∃ μ1, sh_X12_layWords n μ = some μ1 ∧ GM μ1 R (wal R N) ∧ Fm PGM μ μ1 := by
  have hN := hw.1
  unfold sh_X12_layWords
  simp only [jv_lit]
  rw [pt_eq, Option.bind_some]
  have f0 : Fm PGM μ (sI μ 306 44 (jv 0)) := Fm.rf.sI (Or.inl ⟨rfl, rfl⟩)
  obtain ⟨μ1, e1, g1, f1⟩ := lw7 (n := n) hn hw N n 0 (sI μ 306 44 (jv 0)) (by omega) (by omega) (hm.gm f0) ⟨by rw [sI_1, if_pos ⟨rfl, rfl⟩]; rfl, fun i hi => absurd hi (by show ¬ i < 0; omega)⟩
  have e1' : sh_X12_layWords_7 n n (jv 0) (sI μ 306 44 (jv 0)) = _ := e1
  exact ⟨μ1, e1', g1, f0.tr f1 (fun _ _ y => y)⟩
/-! the set of a word's sections -/
theorem ws44 (hn : 200 ≤ n) (hw : WB 500 R N fr) {μ : Mm} (hm : MB 307 μ R) (hg : GM μ R (wal R N)) {p : Nat} (hp : p < (Lk R (wal R N)).length) {s : Nat} (hs : s < N) (k30 : Int32 → Int32 → Mm → Option (Int32 × Mm)) : ∀ (j f w : Nat), (w : Int) + j = wct R s → j < f → sh_X12_wordSections_44 n (jv p) k30 f (sb R (wal R s ++ wsl s w) (kc R ((Lk R (wal R N)).getD p 0))) (jv s) (jv w) μ = k30 (sb R (wal R (s + 1)) (kc R ((Lk R (wal R N)).getD p 0))) (jv ((s + 1 : Nat) : Int)) μ := by
  have hN := hw.1
  have hwc := (hw.sec hs).2.2.2.1
  have hlen := (Lk_sp R (wal R N)).2.1
  have hlw := wal_len hw N (Nat.le_refl _)
  intro j
  induction j with
  | zero =>
    intro f w hj hf
    obtain ⟨f, rfl⟩ : ∃ g, f = g + 1 := ⟨f - 1, by omega⟩
    rw [sh_X12_wordSections_44, jv_lit (nat_lit 3), hm.oW (by omega), Option.bind_some, if_pos (by rw [jv_le] <;> omega), jv_lit (nat_lit 1), jv_add, wal, show (wct R s).toNat = w by omega]
    rfl
  | succ j ih =>
    intro f w hj hf
    obtain ⟨f, rfl⟩ : ∃ g, f = g + 1 := ⟨f - 1, by omega⟩
    obtain ⟨d, e, d1, d2, d3⟩ := ctM hn hw hm hg (wal_mem hw N (Nat.le_refl _)) hp (by omega) (cd_ok hs (w := w) (by omega) (by omega)) (by omega)
    rw [sh_X12_wordSections_44, jv_lit (nat_lit 3), hm.oW (by omega), Option.bind_some, if_neg (by rw [jv_le] <;> omega), e, Option.bind_some]
    simp only [nm_eq, jv_lit]
    rw [jv_add, show (w : Int) + 1 = ((w + 1 : Nat) : Int) by omega]
    have ih1 := ih f (w + 1) (by omega) (by omega)
    rw [wsl, ← List.append_assoc, sb_add, bit_sh (by omega)] at ih1
    by_cases z : d = 0
    · rw [z, if_pos (show jv 0 = jv 0 from rfl)]
      rw [if_pos (d1.mp z).symm] at ih1
      exact ih1
    · rw [if_neg (show ¬ jv d = jv 0 by rw [jv_eq] <;> omega)]
      rw [if_neg (fun q => z (d1.mpr q.symm))] at ih1
      exact ih1
theorem ws30 (hn : 200 ≤ n) (hw : WB 500 R N fr) {μ : Mm} (hm : MB 307 μ R) (hg : GM μ R (wal R N)) {p : Nat} (hp : p < (Lk R (wal R N)).length) : ∀ (j f s : Nat), s + j = N → j < f → sh_X12_wordSections_30 n (jv p) f (sb R (wal R s) (kc R ((Lk R (wal R N)).getD p 0))) (jv s) μ = some (sb R (wal R N) (kc R ((Lk R (wal R N)).getD p 0)), μ) := by
  have hN := hw.1
  intro j
  induction j with
  | zero =>
    intro f s hj hf
    obtain ⟨f, rfl⟩ : ∃ g, f = g + 1 := ⟨f - 1, by omega⟩
    rw [sh_X12_wordSections_30, jv_lit (nat_lit 9), mbl9 hm, Option.bind_some, hN.1, if_pos (by rw [jv_le] <;> omega), show s = N by omega]
  | succ j ih =>
    intro f s hj hf
    obtain ⟨f, rfl⟩ : ∃ g, f = g + 1 := ⟨f - 1, by omega⟩
    have hwc := (hw.sec (s := s) (by omega)).2.2.2.1
    have e := ws44 (n := n) hn hw hm hg hp (s := s) (by omega) (fun (x2 : Int32) (x3 : Int32) (μ : Mm) => sh_X12_wordSections_30 n (jv p) f x2 x3 μ) (wct R s).toNat n 0 (by omega) (by omega)
    rw [wsl, List.append_nil] at e
    have e' : sh_X12_wordSections_44 n (jv p) (fun (x2 : Int32) (x3 : Int32) (μ : Mm) => sh_X12_wordSections_30 n (jv p) f x2 x3 μ) n (sb R (wal R s) (kc R ((Lk R (wal R N)).getD p 0))) (jv s) (jv 0) μ = _ := e
    rw [sh_X12_wordSections_30, jv_lit (nat_lit 9), mbl9 hm, Option.bind_some, hN.1, if_neg (by rw [jv_le] <;> omega), jv0, e']
    exact ih f (s + 1) (by omega) (by omega)
end WRM
