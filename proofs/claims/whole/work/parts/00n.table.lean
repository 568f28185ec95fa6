/-! THE TABLE: lines as columns of numbers: 0 section, 1 start, 2 end, 3 tokens, 4 first token, 5 is last, 6 dots, 7 first dot -/
abbrev Tb : Type := Nat × (Nat → Nat → Int)
def tRow (s st e tk : Int) : Nat → Int
  | 0 => s
  | 1 => st
  | 2 => e
  | 3 => 1
  | 4 => tk
  | 5 => 0
  | 6 => 0
  | _ => -1
def tOpen (T : Tb) (s st tk w : Int) : Tb := (T.1 + 1, fun c i => if i = T.1 then tRow s st (st + w) tk c else T.2 c i)
def tSet (T : Tb) (i c : Nat) (v : Int) : Tb := (T.1, fun c' i' => if c' = c ∧ i' = i then v else T.2 c' i')
def lL (T : Tb) (c : Nat) : Int := T.2 c (T.1 - 1)
def tAdd (T : Tb) (w : Int) : Tb := tSet (tSet T (T.1 - 1) 3 (lL T 3 + 1)) (T.1 - 1) 2 (lL T 2 + 1 + w)
def dX (R : Nat → Int) (e : Int) : Int := (e + R 5 + R 7 - 1) / R 7 * R 7
def dM (R : Nat → Int) (nw : Int) : Int := R 0 - nw - R 5 - 1
def dCn (R : Nat → Int) (nw e : Int) : Int := if dX R e ≤ dM R nw then (dM R nw - dX R e) / R 7 + 1 else 0
def dFi (R : Nat → Int) (nw e : Int) : Int := if dX R e ≤ dM R nw then dX R e else -1
def tDot (R : Nat → Int) (nw : Int) (T : Tb) : Tb := tSet (tSet T (T.1 - 1) 6 (dCn R nw (lL T 2))) (T.1 - 1) 7 (dFi R nw (lL T 2))
def tCut (T : Tb) (w : Int) : Tb := tSet (tSet (tSet (tSet T (T.1 - 1) 3 (lL T 3 - 1)) (T.1 - 1) 2 (lL T 2 - (1 + w))) (T.1 - 1) 6 0) (T.1 - 1) 7 (-1)
def tFin (T : Tb) : Tb := tSet T (T.1 - 1) 5 1
def fsS (R : Nat → Int) (s : Nat) : Int := R 3 * (lev R s - 1)
def tTok (R : Nat → Int) (lim : Int) (s : Nat) (T : Tb) : Nat → Tb
  | 0 => T
  | k + 1 => if k = 0 then tOpen (tTok R lim s T k) s (fsS R s) 0 (tokW R s 0) else if lL (tTok R lim s T k) 2 + 1 + tokW R s k ≤ lim then tAdd (tTok R lim s T k) (tokW R s k) else tOpen (tTok R lim s T k) s (fsS R s + R 4) k (tokW R s k)
def lastW (R : Nat → Int) (s : Nat) : Int := tokW R s ((wct R s).toNat - 1)
def tEnt (R : Nat → Int) (lim nw : Int) (s : Nat) (T : Tb) : Tb :=
  tFin (if 1 < lL (tTok R lim s T (wct R s).toNat) 3 ∧ dCn R nw (lL (tTok R lim s T (wct R s).toNat) 2) < R 6 then tDot R nw (tOpen (tCut (tDot R nw (tTok R lim s T (wct R s).toNat)) (lastW R s)) s (fsS R s + R 4) (wct R s - 1) (lastW R s)) else tDot R nw (tTok R lim s T (wct R s).toNat))
def tab (R : Nat → Int) (lim : Int) (nws : Nat → Int) : Nat → Tb
  | 0 => (0, fun _ _ => 0)
  | s + 1 => tEnt R lim (nws s) s (tab R lim nws s)
def colF (R : Nat → Int) (tp : Int) : Nat → Int
  | 0 => 0
  | s + 1 => if colF R tp s < nwd R tp s then nwd R tp s else colF R tp s
def limT (R : Nat → Int) (tp : Int) (N : Nat) : Int := R 0 - colF R tp N - R 5
def TB (R : Nat → Int) (tp : Int) (N i : Nat) : Tb := tab R (limT R tp N) (nwd R tp) i
section TAB
variable {R : Nat → Int} {K : Int} {N fr : Nat}
theorem tSet_1 {T : Tb} {i c : Nat} {v : Int} : (tSet T i c v).1 = T.1 := rfl
theorem tSet_2 {T : Tb} {i c : Nat} {v : Int} {c' i' : Nat} : (tSet T i c v).2 c' i' = if c' = c ∧ i' = i then v else T.2 c' i' := rfl
theorem tOpen_1 {T : Tb} {s st tk w : Int} : (tOpen T s st tk w).1 = T.1 + 1 := rfl
theorem tOpen_2 {T : Tb} {s st tk w : Int} {c i : Nat} : (tOpen T s st tk w).2 c i = if i = T.1 then tRow s st (st + w) tk c else T.2 c i := rfl
theorem fsS_b (hw : WB K R N fr) {s : Nat} (hs : s < N) : 0 ≤ fsS R s ∧ fsS R s ≤ 27 := by
  have h3 := hw.2.2.2.2.1
  have hl := (hw.sec hs).2.1
  unfold fsS
  constructor
  · exact Int.mul_nonneg (by omega) (by omega)
  · have h1 : R 3 * (lev R s - 1) ≤ R 3 * 3 := Int.mul_le_mul_of_nonneg_left (by omega) (by omega)
    omega
theorem lim_b (hw : WB K R N fr) {tp : Int} : ∀ i, 0 ≤ colF R tp i := by
  intro i
  induction i with
  | zero => exact Int.le_refl _
  | succ i ih =>
    rw [colF]
    split
    · omega
    · exact ih
/-- what holds while an entry's tokens are laid, k of them so far, behind the table T0 -/
def TI (R : Nat → Int) (s : Nat) (T0 T : Tb) (k : Nat) : Prop := T0.1 < T.1 ∧ (T.1 : Int) + lL T 3 ≤ T0.1 + k + 1 ∧ (∀ c i, i < T0.1 → T.2 c i = T0.2 c i) ∧ (∀ i, T0.1 ≤ i → i < T.1 → T.2 0 i = s ∧ (0 ≤ T.2 1 i ∧ T.2 1 i ≤ 36) ∧ (0 ≤ T.2 2 i ∧ T.2 2 i ≤ 120) ∧ 1 ≤ T.2 3 i ∧ 0 ≤ T.2 4 i ∧ T.2 4 i + T.2 3 i ≤ k ∧ T.2 5 i = 0 ∧ T.2 6 i = 0 ∧ T.2 7 i = -1) ∧ lL T 4 + lL T 3 = k
theorem TI.opn (hw : WB K R N fr) {s : Nat} (hs : s < N) {T0 T : Tb} {k : Nat} (h : TI R s T0 T k) {st : Int} (hst : 0 ≤ st ∧ st ≤ 36) : TI R s T0 (tOpen T s st k (tokW R s k)) (k + 1) := by
  obtain ⟨h1, h2, h3, h4, h5⟩ := h
  have hb := tokW_b hw hs k
  have hl := h4 (T.1 - 1) (by omega) (by omega)
  have el : ∀ c, lL (tOpen T s st k (tokW R s k)) c = tRow s st (st + tokW R s k) k c := fun c => by
    unfold lL
    rw [tOpen_1, tOpen_2, if_pos (by omega)]
  refine ⟨by rw [tOpen_1]; omega, ?_, fun c i hi => by rw [tOpen_2, if_neg (by omega)]; exact h3 c i hi, fun i h6 h7 => ?_, ?_⟩
  · rw [el, tOpen_1]
    show ((T.1 + 1 : Nat) : Int) + 1 ≤ _
    unfold lL at h2
    omega
  · rw [tOpen_1] at h7
    by_cases z : i = T.1
    · simp only [tOpen_2, if_pos z]
      show (s : Int) = s ∧ (0 ≤ st ∧ st ≤ 36) ∧ (0 ≤ st + tokW R s k ∧ st + tokW R s k ≤ 120) ∧ (1 : Int) ≤ 1 ∧ (0 : Int) ≤ k ∧ (k : Int) + 1 ≤ ((k + 1 : Nat) : Int) ∧ (0 : Int) = 0 ∧ (0 : Int) = 0 ∧ (-1 : Int) = -1
      omega
    · simp only [tOpen_2, if_neg z]
      have := h4 i h6 (by omega)
      omega
  · rw [el, el]
    show (k : Int) + 1 = ((k + 1 : Nat) : Int)
    omega
theorem TI.add (hw : WB K R N fr) {s : Nat} (hs : s < N) {T0 T : Tb} {k : Nat} (h : TI R s T0 T k) (hl : lL T 2 + 1 + tokW R s k ≤ 120) : TI R s T0 (tAdd T (tokW R s k)) (k + 1) := by
  obtain ⟨h1, h2, h3, h4, h5⟩ := h
  have hb := tokW_b hw hs k
  have hll := h4 (T.1 - 1) (by omega) (by omega)
  have e1 : (tAdd T (tokW R s k)).1 = T.1 := rfl
  have e2 : ∀ c i, (tAdd T (tokW R s k)).2 c i = if c = 2 ∧ i = T.1 - 1 then lL T 2 + 1 + tokW R s k else if c = 3 ∧ i = T.1 - 1 then lL T 3 + 1 else T.2 c i := fun c i => rfl
  have el : ∀ c, lL (tAdd T (tokW R s k)) c = if c = 2 then lL T 2 + 1 + tokW R s k else if c = 3 then lL T 3 + 1 else lL T c := fun c => by
    unfold lL
    rw [e1, e2]
    simp only [and_true]
    rfl
  refine ⟨by rw [e1]; exact h1, ?_, fun c i hi => by rw [e2, if_neg (by omega), if_neg (by omega)]; exact h3 c i hi, fun i h6 h7 => ?_, ?_⟩
  · rw [el, e1, if_neg (by omega), if_pos rfl]
    omega
  · rw [e1] at h7
    have := h4 i h6 h7
    by_cases z : i = T.1 - 1
    · subst z
      simp only [e2]
      unfold lL at *
      simp only [and_true]
      refine ⟨this.1, this.2.1, ?_, ?_, this.2.2.2.2.1, ?_, this.2.2.2.2.2.2.1, this.2.2.2.2.2.2.2.1, this.2.2.2.2.2.2.2.2⟩
      · show 0 ≤ T.2 2 (T.1 - 1) + 1 + tokW R s k ∧ T.2 2 (T.1 - 1) + 1 + tokW R s k ≤ 120
        omega
      · show 1 ≤ T.2 3 (T.1 - 1) + 1
        omega
      · show T.2 4 (T.1 - 1) + (T.2 3 (T.1 - 1) + 1) ≤ ((k + 1 : Nat) : Int)
        omega
    · simp only [e2, if_neg (fun y : _ ∧ i = T.1 - 1 => z y.2)]
      omega
  · rw [el, el, if_neg (by omega), if_neg (by omega), if_neg (by omega), if_pos rfl]
    omega
theorem TI.tok (hw : WB K R N fr) {lim : Int} (hlim : lim ≤ 120) {s : Nat} (hs : s < N) (T0 : Tb) : ∀ k : Nat, TI R s T0 (tTok R lim s T0 (k + 1)) (k + 1) := by
  have hf := fsS_b hw hs
  have h4 := hw.2.2.2.2.2.1
  intro k
  induction k with
  | zero =>
    have hb := tokW_b hw hs 0
    rw [tTok, if_pos rfl, tTok]
    have el : ∀ c, lL (tOpen T0 s (fsS R s) 0 (tokW R s 0)) c = tRow s (fsS R s) (fsS R s + tokW R s 0) 0 c := fun c => by
      unfold lL
      rw [tOpen_1, tOpen_2, if_pos (by omega)]
    refine ⟨by rw [tOpen_1]; omega, ?_, fun c i hi => by rw [tOpen_2, if_neg (by omega)], fun i h6 h7 => ?_, ?_⟩
    · rw [el, tOpen_1]
      show ((T0.1 + 1 : Nat) : Int) + 1 ≤ _
      omega
    · rw [tOpen_1] at h7
      simp only [tOpen_2, if_pos (show i = T0.1 by omega)]
      show (s : Int) = s ∧ (0 ≤ fsS R s ∧ fsS R s ≤ 36) ∧ (0 ≤ fsS R s + tokW R s 0 ∧ fsS R s + tokW R s 0 ≤ 120) ∧ (1 : Int) ≤ 1 ∧ (0 : Int) ≤ 0 ∧ (0 : Int) + 1 ≤ ((0 + 1 : Nat) : Int) ∧ (0 : Int) = 0 ∧ (0 : Int) = 0 ∧ (-1 : Int) = -1
      omega
    · rw [el, el]
      rfl
  | succ k ih =>
    rw [tTok, if_neg (by omega)]
    split
    · exact TI.add hw hs ih (by omega)
    · exact TI.opn hw hs ih (by omega)
/-- what holds of an entry -/
def TE (R : Nat → Int) (nw : Int) (s : Nat) (T0 T : Tb) : Prop := T0.1 < T.1 ∧ (T.1 : Int) ≤ T0.1 + wct R s ∧ (∀ c i, i < T0.1 → T.2 c i = T0.2 c i) ∧ (∀ i, T0.1 ≤ i → i < T.1 → T.2 0 i = s ∧ (0 ≤ T.2 1 i ∧ T.2 1 i ≤ 36) ∧ (-100 ≤ T.2 2 i ∧ T.2 2 i ≤ 120) ∧ 1 ≤ T.2 3 i ∧ 0 ≤ T.2 4 i ∧ T.2 4 i + T.2 3 i ≤ wct R s ∧ T.2 5 i = (if i + 1 = T.1 then 1 else 0) ∧ (i + 1 < T.1 → T.2 6 i = 0 ∧ T.2 7 i = -1)) ∧ 0 ≤ lL T 2 ∧ lL T 6 = dCn R nw (lL T 2) ∧ lL T 7 = dFi R nw (lL T 2)
theorem TE.ent (hw : WB K R N fr) {lim nw : Int} (hlim : lim ≤ 120) {s : Nat} (hs : s < N) (T0 : Tb) : TE R nw s T0 (tEnt R lim nw s T0) := by
  have hf := fsS_b hw hs
  have h4 := hw.2.2.2.2.2.1
  have hwc := (hw.sec hs).2.2.2.1
  have hi := TI.tok hw hlim hs T0 ((wct R s).toNat - 1)
  rw [show (wct R s).toNat - 1 + 1 = (wct R s).toNat by omega] at hi
  unfold tEnt
  generalize tTok R lim s T0 (wct R s).toNat = U at *
  obtain ⟨i1, i2, i3, i4, i5⟩ := hi
  have il := i4 (U.1 - 1) (by omega) (by omega)
  have lb := tokW_b hw hs ((wct R s).toNat - 1)
  have lw' : lastW R s = tokW R s ((wct R s).toNat - 1) := rfl
  have il3 : 1 ≤ lL U 3 := il.2.2.2.1
  split
  · next q =>
    have e2 : ∀ c i, (tFin (tDot R nw (tOpen (tCut (tDot R nw U) (lastW R s)) s (fsS R s + R 4) (wct R s - 1) (lastW R s)))).2 c i = if c = 5 ∧ i = U.1 then 1 else if c = 7 ∧ i = U.1 then dFi R nw (fsS R s + R 4 + lastW R s) else if c = 6 ∧ i = U.1 then dCn R nw (fsS R s + R 4 + lastW R s) else if i = U.1 then tRow s (fsS R s + R 4) (fsS R s + R 4 + lastW R s) (wct R s - 1) c else if c = 7 ∧ i = U.1 - 1 then -1 else if c = 6 ∧ i = U.1 - 1 then 0 else if c = 2 ∧ i = U.1 - 1 then lL U 2 - (1 + lastW R s) else if c = 3 ∧ i = U.1 - 1 then lL U 3 - 1 else if c = 7 ∧ i = U.1 - 1 then dFi R nw (lL U 2) else if c = 6 ∧ i = U.1 - 1 then dCn R nw (lL U 2) else U.2 c i := by
      intro c i
      have ee : ∀ c, lL (tOpen (tCut (tDot R nw U) (lastW R s)) s (fsS R s + R 4) (wct R s - 1) (lastW R s)) c = tRow s (fsS R s + R 4) (fsS R s + R 4 + lastW R s) (wct R s - 1) c := fun c => by
        unfold lL
        rw [tOpen_1, tOpen_2, if_pos (by omega)]
      show (if c = 5 ∧ i = U.1 + 1 - 1 then _ else if c = 7 ∧ i = U.1 + 1 - 1 then dFi R nw (lL (tOpen (tCut (tDot R nw U) (lastW R s)) s (fsS R s + R 4) (wct R s - 1) (lastW R s)) 2) else if c = 6 ∧ i = U.1 + 1 - 1 then dCn R nw (lL (tOpen (tCut (tDot R nw U) (lastW R s)) s (fsS R s + R 4) (wct R s - 1) (lastW R s)) 2) else _) = _
      rw [ee]
      rfl
    have e1 : (tFin (tDot R nw (tOpen (tCut (tDot R nw U) (lastW R s)) s (fsS R s + R 4) (wct R s - 1) (lastW R s)))).1 = U.1 + 1 := rfl
    generalize tFin (tDot R nw (tOpen (tCut (tDot R nw U) (lastW R s)) s (fsS R s + R 4) (wct R s - 1) (lastW R s))) = V at *
    have el : ∀ c, lL V c = if c = 5 then 1 else if c = 7 then dFi R nw (fsS R s + R 4 + lastW R s) else if c = 6 then dCn R nw (fsS R s + R 4 + lastW R s) else tRow s (fsS R s + R 4) (fsS R s + R 4 + lastW R s) (wct R s - 1) c := fun c => by
      unfold lL
      rw [e1, e2, Nat.add_sub_cancel]
      simp only [and_true, if_true]
    refine ⟨by omega, by omega, fun c i hi => ?_, fun i h6 h7 => ?_, ?_, ?_, ?_⟩
    · rw [e2, if_neg (by omega), if_neg (by omega), if_neg (by omega), if_neg (by omega), if_neg (by omega), if_neg (by omega), if_neg (by omega), if_neg (by omega), if_neg (by omega), if_neg (by omega)]
      exact i3 c i hi
    · rw [e1] at h7 ⊢
      by_cases z : i = U.1
      · subst z
        have vv : ∀ c, V.2 c U.1 = if c = 5 then 1 else if c = 7 then dFi R nw (fsS R s + R 4 + lastW R s) else if c = 6 then dCn R nw (fsS R s + R 4 + lastW R s) else tRow s (fsS R s + R 4) (fsS R s + R 4 + lastW R s) (wct R s - 1) c := fun c => by
          have := el c
          unfold lL at this
          rw [e1, Nat.add_sub_cancel] at this
          exact this
        rw [vv 0, vv 1, vv 2, vv 3, vv 4, vv 5]
        refine ⟨rfl, ?_, ?_, ?_, ?_, ?_, ?_, fun y => absurd y (by omega)⟩
        · show 0 ≤ fsS R s + R 4 ∧ fsS R s + R 4 ≤ 36
          omega
        · show -100 ≤ fsS R s + R 4 + lastW R s ∧ fsS R s + R 4 + lastW R s ≤ 120
          omega
        · show (1 : Int) ≤ 1
          omega
        · show 0 ≤ wct R s - 1
          omega
        · show wct R s - 1 + 1 ≤ wct R s
          omega
        · rw [if_pos rfl, if_pos rfl]
      · by_cases z2 : i = U.1 - 1
        · have zn : ¬ U.1 - 1 = U.1 := by omega
          subst z2
          have vv : ∀ c, V.2 c (U.1 - 1) = if c = 7 then -1 else if c = 6 then 0 else if c = 2 then lL U 2 - (1 + lastW R s) else if c = 3 then lL U 3 - 1 else if c = 7 then dFi R nw (lL U 2) else if c = 6 then dCn R nw (lL U 2) else U.2 c (U.1 - 1) := fun c => by
            rw [e2]
            simp only [and_true, zn, and_false, if_false]
          rw [vv 0, vv 1, vv 2, vv 3, vv 4, vv 5, vv 6, vv 7]
          have l2 : lL U 2 = U.2 2 (U.1 - 1) := rfl
          have l3 : lL U 3 = U.2 3 (U.1 - 1) := rfl
          have l4 : lL U 4 = U.2 4 (U.1 - 1) := rfl
          refine ⟨il.1, il.2.1, ?_, ?_, il.2.2.2.2.1, ?_, ?_, fun _ => ⟨rfl, rfl⟩⟩
          · show -100 ≤ lL U 2 - (1 + lastW R s) ∧ lL U 2 - (1 + lastW R s) ≤ 120
            omega
          · show 1 ≤ lL U 3 - 1
            omega
          · show U.2 4 (U.1 - 1) + (lL U 3 - 1) ≤ wct R s
            omega
          · show U.2 5 (U.1 - 1) = _
            rw [if_neg (by omega)]
            exact il.2.2.2.2.2.2.1
        · simp only [e2]
          simp only [z, z2, and_false, if_false]
          have hh := i4 i h6 (by omega)
          refine ⟨hh.1, hh.2.1, by omega, hh.2.2.2.1, hh.2.2.2.2.1, by omega, ?_, fun _ => ⟨hh.2.2.2.2.2.2.2.1, hh.2.2.2.2.2.2.2.2⟩⟩
          rw [if_neg (by omega)]
          exact hh.2.2.2.2.2.2.1
    · rw [el]
      show 0 ≤ fsS R s + R 4 + lastW R s
      omega
    · rw [el, el]
      rfl
    · rw [el, el]
      rfl
  · next q =>
    have e2 : ∀ c i, (tFin (tDot R nw U)).2 c i = if c = 5 ∧ i = U.1 - 1 then 1 else if c = 7 ∧ i = U.1 - 1 then dFi R nw (lL U 2) else if c = 6 ∧ i = U.1 - 1 then dCn R nw (lL U 2) else U.2 c i := fun c i => rfl
    have e1 : (tFin (tDot R nw U)).1 = U.1 := rfl
    generalize tFin (tDot R nw U) = V at *
    have el : ∀ c, lL V c = if c = 5 then 1 else if c = 7 then dFi R nw (lL U 2) else if c = 6 then dCn R nw (lL U 2) else lL U c := fun c => by
      unfold lL
      rw [e1, e2]
      simp only [and_true]
      rfl
    refine ⟨by omega, by omega, fun c i hi => ?_, fun i h6 h7 => ?_, ?_, ?_, ?_⟩
    · rw [e2, if_neg (by omega), if_neg (by omega), if_neg (by omega)]
      exact i3 c i hi
    · rw [e1] at h7 ⊢
      by_cases z : i = U.1 - 1
      · subst z
        simp only [e2]
        simp only [and_true]
        refine ⟨il.1, il.2.1, ?_, il.2.2.2.1, il.2.2.2.2.1, ?_, ?_, fun y => absurd y (by omega)⟩
        · show -100 ≤ U.2 2 (U.1 - 1) ∧ U.2 2 (U.1 - 1) ≤ 120
          omega
        · show U.2 4 (U.1 - 1) + U.2 3 (U.1 - 1) ≤ wct R s
          omega
        · rw [if_pos (show U.1 - 1 + 1 = U.1 by omega)]
          rfl
      · simp only [e2]
        simp only [z, and_false, if_false]
        have hh := i4 i h6 (by omega)
        refine ⟨hh.1, hh.2.1, by omega, hh.2.2.2.1, hh.2.2.2.2.1, by omega, ?_, fun _ => ⟨hh.2.2.2.2.2.2.2.1, hh.2.2.2.2.2.2.2.2⟩⟩
        rw [if_neg (by omega)]
        exact hh.2.2.2.2.2.2.1
    · rw [el]
      exact il.2.2.1.1
    · rw [el, el]
      rfl
    · rw [el, el]
      rfl
end TAB
