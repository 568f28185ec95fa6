/-! CALLS: what is asked, thrown and answered, by both sides -/
theorem lt64 (a b : Int32) : a.toInt64 < b.toInt64 ↔ a < b := by
  rw [Int64.lt_iff_toInt_lt, Int32.lt_iff_toInt_lt, Int32.toInt_toInt64, Int32.toInt_toInt64]
theorem li0 : (0 : Int64) = (jv 0).toInt64 := by decide
theorem li1 : (1 : Int64) = (jv 1).toInt64 := by decide
theorem li4 : (4 : Int64) = (jv 4).toInt64 := by decide
theorem li6 : (6 : Int64) = (jv 6).toInt64 := by decide
theorem li7 : (7 : Int64) = (jv 7).toInt64 := by decide
theorem li9 : (9 : Int64) = (jv 9).toInt64 := by decide
theorem li20 : (20 : Int64) = (jv 20).toInt64 := by decide
theorem li120 : (120 : Int64) = (jv 120).toInt64 := by decide
theorem li500 : (500 : Int64) = (jv 500).toInt64 := by decide
theorem in_x (a lo hi : Int32) {μ : Mm} : sh_X12_in a.toInt64 lo.toInt64 hi.toInt64 μ = some (jv (if lo ≤ a ∧ a ≤ hi then 1 else 0)) := by
  unfold sh_X12_in
  by_cases h1 : a < lo
  · rw [if_pos ((lg_cmp_lt _ _).mpr ((lt64 _ _).mpr h1)), if_neg (fun q => Int32.not_le.mpr h1 q.1)]
    rfl
  · rw [if_neg (fun q => h1 ((lt64 _ _).mp ((lg_cmp_lt _ _).mp q)))]
    by_cases h2 : hi < a
    · rw [if_pos ((lg_cmp_gt _ _).mpr ((lt64 _ _).mpr h2)), if_neg (fun q => Int32.not_le.mpr h2 q.2)]
      rfl
    · rw [if_neg (fun q => h2 ((lt64 _ _).mp ((lg_cmp_gt _ _).mp q))), if_pos ⟨Int32.not_lt.mp h1, Int32.not_lt.mp h2⟩]
      rfl
/-- numbers of the machine -/
def i32 (a : Int) : Prop := -2147483648 ≤ a ∧ a ≤ 2147483647
theorem in_b {a lo hi : Int} (ha : i32 a) (hl : i32 lo) (hh : i32 hi) {μ : Mm} : sh_X12_in (jv a).toInt64 (jv lo).toInt64 (jv hi).toInt64 μ = some (jv (if lo ≤ a ∧ a ≤ hi then 1 else 0)) := by
  unfold i32 at ha hl hh
  rw [in_x]
  congr 2
  by_cases z : lo ≤ a ∧ a ≤ hi
  · rw [if_pos z, if_pos ⟨(jv_le (by omega) (by omega) (by omega) (by omega)).mpr z.1, (jv_le (by omega) (by omega) (by omega) (by omega)).mpr z.2⟩]
  · rw [if_neg z, if_neg (fun q => z ⟨(jv_le (by omega) (by omega) (by omega) (by omega)).mp q.1, (jv_le (by omega) (by omega) (by omega) (by omega)).mp q.2⟩)]
theorem pas {p : Prop} [Decidable p] {μ : Mm} : sh_X12_passes (jv (if p then 1 else 0)) μ = some (jv (if p then 1 else 0), sI μ 306 0 (jv (if p then 0 else 1))) := by
  by_cases z : p
  · rw [if_pos z, if_pos z]
    rfl
  · rw [if_neg z, if_neg z]
    rfl
theorem pas1 {μ : Mm} : sh_X12_passes (jv 1) μ = some (jv 1, sI μ 306 0 (jv 0)) := rfl
theorem pas0 {μ : Mm} : sh_X12_passes (jv 0) μ = some (jv 0, sI μ 306 0 (jv 1)) := rfl
theorem pas2 {p q : Prop} [Decidable p] [Decidable q] {μ : Mm} : sh_X12_passes2 (jv (if p then 1 else 0)) (jv (if q then 1 else 0)) μ = some (jv (if p ∧ q then 1 else 0), sI μ 306 0 (jv (if p then (if q then 0 else 2) else 1))) := by
  by_cases z : p
  · by_cases y : q
    · rw [if_pos z, if_pos y, if_pos ⟨z, y⟩, if_pos z, if_pos y]
      rfl
    · rw [if_pos z, if_neg y, if_neg (fun w => y w.2), if_pos z, if_neg y]
      rfl
  · rw [if_neg z, if_neg (fun w : p ∧ q => z w.1), if_neg z]
    rfl
theorem one_ne : ¬ (jv 1 = (0 : Int32)) := by decide
theorem zro : (jv 0 = (0 : Int32)) := by decide
theorem jv0 : (0 : Int32) = jv 0 := by decide
/-- a call of a method of the class answers or throws, of the model answers and tells -/
def Ag (m : List Nat) (x : Nat ⊕ Int32) (v th : Int32) : Prop := match x with
  | .inl e => ∃ i : Nat, m[i]? = some e ∧ th = jv ((i : Int) + 1)
  | .inr r => th = jv 0 ∧ v = r
abbrev PQ : Nat → Nat → Prop := fun k j => k = 306 ∧ (j ≠ 5 ∧ j ≠ 11 ∧ j ≠ 12 ∧ j ≠ 47 ∧ j ≠ 49) ∨ k = 308 ∨ 310 ≤ k ∧ k ≤ 328
theorem PMY_Q : ∀ k j, PMY k j → PQ k j := fun k j h => by rcases h with h | h <;> omega
def Qr (m : List Nat) (μ : Mm) (c : Option (Nat ⊕ Int32)) (d : Option (Int32 × Mm)) : Prop := ∃ x v μ', c = some x ∧ d = some (v, μ') ∧ Fm PQ μ μ' ∧ Ag m x v (μ'.1 306 0)
/-- a call that never throws -/
def Qn (μ : Mm) (c : Option Int32) (d : Option (Int32 × Mm)) : Prop := ∃ v μ', c = some v ∧ d = some (v, μ') ∧ Fm PQ μ μ'
def QS (μ : Mm) (R : Nat → Int) (N fr : Nat) : Prop := WB 500 R N fr ∧ CB 11 μ R N fr ∧ LY 38 μ R N fr ∧ MB 307 μ R
section QRY
variable {n : Nat} {R : Nat → Int} {N fr : Nat}
theorem QS.kp {μ μ' : Mm} (h : QS μ R N fr) (hf : Fm PQ μ μ') : QS μ' R N fr := ⟨h.1, h.2.1.fr hf (fun q j a b => by omega), h.2.2.1.kp hf (fun q j a b => by omega), h.2.2.2.fr hf (fun i _ => by omega)⟩
theorem MY.r0 {μ : Mm} (h : MY μ R N fr) {v : Int32} : MY (sI μ 306 0 v) R N fr := h.kp (P := fun k j => k = 306 ∧ j = 0) (Fm.rf.sI ⟨rfl, rfl⟩) (fun k j y => by omega)
theorem MB.r00 {q : Nat} {μ : Mm} (h : MB q μ R) {v : Int32} : MB q (sI μ 306 0 v) R := h.fr (P := fun k j => k = 306 ∧ j = 0) (Fm.rf.sI ⟨rfl, rfl⟩) (fun i _ y => by rcases h.1 with rfl | rfl <;> omega)
theorem ckS {μ : Mm} (h : QS μ R N fr) {a : Int} (ha : i32 a) : sh_X11_checkSection (jv a) μ = some (if 0 ≤ a ∧ a < N then .inr () else .inl 2) := by
  have hN := h.1.1
  unfold i32 at ha
  unfold sh_X11_checkSection sh_X11_checkSection_18
  simp only [jv_lit]
  rw [h.2.1.2.2.1.2.1]
  by_cases z : a < 0
  · rw [if_pos (by rw [jv_lt] <;> omega), if_neg (by omega)]
  · rw [if_neg (by rw [jv_lt] <;> omega)]
    by_cases y : a < N
    · rw [if_pos (by rw [jv_lt] <;> omega), if_pos ⟨by omega, y⟩]
    · rw [if_neg (by rw [jv_lt] <;> omega), if_neg (by omega)]
theorem isS {q : Nat} {μ : Mm} (hm : MB q μ R) (hw : WB 500 R N fr) {a : Int} (ha : i32 a) : sh_X12_isSection (jv a) μ = some (jv (if 0 ≤ a ∧ a < N then 1 else 0)) := by
  have hN := hw.1
  unfold sh_X12_isSection
  rw [jv_lit (nat_lit 9), hm.r9, Option.bind_some, hN.1, jv_lit (nat_lit 1), jv_sub, li0, in_b ha (by unfold i32; omega) (by unfold i32; omega), Option.bind_some]
  by_cases z : 0 ≤ a ∧ a < N
  · rw [if_pos (by omega), if_pos z, isB_1]
    rfl
  · rw [if_neg (by omega), if_neg z, isB_0]
    rfl
theorem asM (hn : 16001 ≤ n) {μ : Mm} (hm : MB 307 μ R) (hw : WB 500 R N fr) {a : Int} (ha : i32 a) : (¬ (0 ≤ a ∧ a < N) ∧ sh_X12_asks n (jv a) μ = some (jv 0, sI μ 306 0 (jv 1))) ∨ ((0 ≤ a ∧ a < N) ∧ ∃ μ1, sh_X12_asks n (jv a) μ = some (jv 1, μ1) ∧ MB 307 μ1 R ∧ MY μ1 R N fr ∧ Fm PQ μ μ1 ∧ μ1.1 306 0 = jv 0) := by
  unfold sh_X12_asks
  rw [isS hm hw ha, Option.bind_some, pas, Option.bind_some]
  by_cases z : 0 ≤ a ∧ a < N
  · right
    refine ⟨z, ?_⟩
    rw [if_pos z, if_pos z, if_neg one_ne]
    obtain ⟨μ1, e, hy, hf⟩ := layMM (n := n) hn hw (by omega) (hm.r00 (v := jv 0))
    have f0 : Fm PQ μ (sI μ 306 0 (jv 0)) := Fm.rf.sI (by omega)
    rw [e, Option.bind_some]
    refine ⟨μ1, rfl, hm.r00.fr hf (fun i _ => by omega), hy, f0.tr hf PMY_Q, ?_⟩
    rw [hf.at _ _ (by omega), sI_1, if_pos ⟨rfl, rfl⟩]
  · left
    refine ⟨z, ?_⟩
    rw [if_neg z, if_neg z, if_pos zro]
    rfl
/-- a section is asked for -/
theorem q_as (hn : 16001 ≤ n) {μ : Mm} (hq : QS μ R N fr) {a : Int32} {X : Option Int32} {F : Mm → Option (Int32 × Mm)} (h : ∀ s : Nat, s < N → a = jv s → ∃ v, X = some v ∧ ∀ μ1, MB 307 μ1 R → MY μ1 R N fr → ∃ μ2, F μ1 = some (v, μ2) ∧ Fm PM μ1 μ2) : Qr [2] μ ((sh_X11_checkSection a μ).bind fun r1 => Sum.elim (fun ec => some (.inl ec)) (fun v2 => X.bind fun r3 => some (.inr r3)) r1) ((sh_X12_asks n a μ).bind fun r1 => if r1.1 = (0 : Int32) then some ((0 : Int32), r1.2) else F r1.2) := by
  obtain ⟨z, h1, h2, rfl⟩ := jv_ex a
  have hz : i32 z := ⟨h1, h2⟩
  rw [ckS hq hz, Option.bind_some]
  rcases asM hn hq.2.2.2 hq.1 hz with ⟨y, e⟩ | ⟨y, μ1, e, hb, hy, hf, h0⟩
  · rw [e, Option.bind_some, if_neg y, if_pos zro]
    exact ⟨_, _, _, rfl, rfl, Fm.rf.sI (by omega), 0, rfl, by rw [sI_1, if_pos ⟨rfl, rfl⟩]; rfl⟩
  · obtain ⟨v, ev, hv⟩ := h z.toNat (by omega) (by rw [Int.toNat_of_nonneg y.1])
    obtain ⟨μ2, e2, f2⟩ := hv μ1 hb hy
    rw [e, Option.bind_some, if_pos y, if_neg one_ne, ev, e2]
    exact ⟨_, _, _, rfl, rfl, hf.tr f2 (fun k j q => by omega), by rw [f2.at _ _ (by omega), h0], rfl⟩
theorem q_page (hn : 16001 ≤ n) {μ : Mm} (hq : QS μ R N fr) (a : Int32) : Qr [2] μ (sh_X11_page a μ) (sh_X12_page n a μ) := by
  unfold sh_X11_page sh_X12_page
  refine q_as (F := fun μ1 => (ld μ1 314 a).bind fun v2 => some (v2, μ1)) hn hq (fun s hs e => ?_)
  subst e
  have hN := hq.1.1
  have l1 : ln 314 = 24 := rfl
  refine ⟨_, hq.2.2.1.pg hq.1 hs, fun μ1 hb hy => ⟨μ1, ?_, Fm.rf⟩⟩
  rw [ld_jv (by omega) (by omega), Option.bind_some, Int.toNat_natCast, (hy.2.1.1.1 s hs).1]
theorem q_bookPage (hn : 16001 ≤ n) {μ : Mm} (hq : QS μ R N fr) (a : Int32) : Qr [2] μ (sh_X11_bookPage a μ) (sh_X12_bookPage n a μ) := by
  unfold sh_X11_bookPage sh_X12_bookPage
  refine q_as (F := fun μ1 => (sh_X12_bookPageOf a μ1).bind fun r2 => some (r2, μ1)) hn hq (fun s hs e => ?_)
  subst e
  have hN := hq.1.1
  have l1 : ln 314 = 24 := rfl
  have l2 : ln (55 + 1) = 24 := rfl
  refine ⟨jv (bkp R (tpF R N) N fr s), ?_, fun μ1 hb hy => ⟨μ1, ?_, Fm.rf⟩⟩
  · rw [a5_in (by omega) (by omega), Int.toNat_natCast]
    exact congrArg some (hq.2.2.1.2.2.1.2.1 s hs).2.1
  · unfold sh_X12_bookPageOf
    simp only [jv_lit]
    rw [hb.oP (by omega), Option.bind_some]
    unfold bkp
    rcases hq.1.pb hs with ⟨z, y⟩ | ⟨z, y⟩
    · rw [if_pos (by rw [z]), ld_jv (by omega) (by omega), Option.bind_some, Option.bind_some, Int.toNat_natCast, (hy.2.1.1.1 s hs).1, if_pos z]
    · rw [if_neg (by rw [z, jv_eq] <;> omega), ld_jv (by omega) (by omega), Option.bind_some, Option.bind_some, Int.toNat_natCast, (hy.2.1.1.1 s hs).1, if_neg (by omega), hy.2.1.1.2.1, jv_add, jv_sub]
      unfold mBg
      rw [if_pos (by omega)]
theorem q_lineOnPage (hn : 16001 ≤ n) {μ : Mm} (hq : QS μ R N fr) (a : Int32) : Qr [2] μ (sh_X11_lineOnPage a μ) (sh_X12_lineOnPage n a μ) := by
  unfold sh_X11_lineOnPage sh_X12_lineOnPage
  refine q_as (F := fun μ1 => (ld μ1 315 a).bind fun v2 => some (v2, μ1)) hn hq (fun s hs e => ?_)
  subst e
  have hN := hq.1.1
  have l1 : ln 315 = 24 := rfl
  have l2 : ln (57 + 1) = 24 := rfl
  refine ⟨jv (lns R (tpF R N) s), ?_, fun μ1 hb hy => ⟨μ1, ?_, Fm.rf⟩⟩
  · rw [a5_in (by omega) (by omega), Int.toNat_natCast]
    exact congrArg some (hq.2.2.1.2.2.1.2.1 s hs).2.2.1
  · rw [ld_jv (by omega) (by omega), Option.bind_some, Int.toNat_natCast, (hy.2.1.1.1 s hs).2]
theorem q_numberWidth (hn : 16001 ≤ n) {μ : Mm} (hq : QS μ R N fr) (a : Int32) : Qr [2] μ (sh_X11_numberWidth a μ) (sh_X12_numberWidth n a μ) := by
  unfold sh_X11_numberWidth sh_X12_numberWidth
  refine q_as (F := fun μ1 => (sh_X12_printedWidth n a μ1).bind fun r2 => some (r2.1, r2.2)) hn hq (fun s hs e => ?_)
  subst e
  have hN := hq.1.1
  have l2 : ln (59 + 1) = 24 := rfl
  refine ⟨jv (nwd R (tpF R N) s), ?_, fun μ1 hb hy => ?_⟩
  · rw [a5_in (by omega) (by omega), Int.toNat_natCast]
    exact congrArg some (hq.2.2.1.2.2.1.2.1 s hs).2.2.2
  · obtain ⟨μ2, e, f⟩ := pwdM (n := n) hn hq.1 (by omega) (tpF_b hq.1 (by omega)) hs hb (hy.2.1.1.1 s hs).1
    exact ⟨μ2, by rw [e]; rfl, f⟩
theorem q_firstLine (hn : 16001 ≤ n) {μ : Mm} (hq : QS μ R N fr) (a : Int32) : Qr [2] μ (sh_X11_firstLine a μ) (sh_X12_firstLine n a μ) := by
  unfold sh_X11_firstLine sh_X12_firstLine
  refine q_as (F := fun μ1 => (ld μ1 324 a).bind fun v2 => some (v2, μ1)) hn hq (fun s hs e => ?_)
  subst e
  have hN := hq.1.1
  have l1 : ln 324 = 24 := rfl
  refine ⟨_, (hq.2.2.1.sec4 hq.1 hs).1, fun μ1 hb hy => ⟨μ1, ?_, Fm.rf⟩⟩
  rw [ld_jv (by omega) (by omega), Option.bind_some, Int.toNat_natCast, hy.2.1.2.2.1 s hs]
theorem lnO {μ : Mm} (hw : WB 500 R N fr) (hb : MB 307 μ R) (hy : MY μ R N fr) {s : Nat} (hs : s < N) : sh_X12_linesOf (jv s) μ = some (jv ((TB R (tpF R N) N (s + 1)).1 - (TB R (tpF R N) N s).1)) := by
  have hN := hw.1
  have l1 : ln 324 = 24 := rfl
  unfold sh_X12_linesOf
  simp only [jv_lit]
  have h9 := hb.r9
  rw [hb.2.1] at h9
  rw [h9, Option.bind_some, hN.1, jv_add]
  by_cases z : s + 1 = N
  · rw [if_pos (by rw [jv_le] <;> omega), ld_jv (by omega) (by omega), Option.bind_some, Int.toNat_natCast, hy.2.1.2.2.1 s hs, hy.2.1.2.1.1, jv_sub, z]
  · rw [if_neg (by rw [jv_le] <;> omega), ld_jv (by omega) (by omega), Option.bind_some, ld_jv (by omega) (by omega), Option.bind_some, Int.toNat_natCast, hy.2.1.2.2.1 s hs, show ((s : Int) + 1).toNat = s + 1 by omega, hy.2.1.2.2.1 (s + 1) (by omega), jv_sub]
theorem q_lineCount (hn : 16001 ≤ n) {μ : Mm} (hq : QS μ R N fr) (a : Int32) : Qr [2] μ (sh_X11_lineCount a μ) (sh_X12_lineCount n a μ) := by
  unfold sh_X11_lineCount sh_X12_lineCount
  refine q_as (F := fun μ1 => (sh_X12_linesOf a μ1).bind fun r2 => some (r2, μ1)) hn hq (fun s hs e => ?_)
  subst e
  refine ⟨_, (hq.2.2.1.sec4 hq.1 hs).2.1, fun μ1 hb hy => ⟨μ1, ?_, Fm.rf⟩⟩
  rw [lnO hq.1 hb hy hs, Option.bind_some]
end QRY
