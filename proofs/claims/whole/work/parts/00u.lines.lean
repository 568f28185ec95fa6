/-! LINES of the table, as texts -/
section LNS
variable {R : Nat → Int} {K : Int} {N fr : Nat} {tp : Int}
/-- tokens follow one another from line to line -/
def TIc (T0 T : Tb) : Prop := ∀ i, T0.1 ≤ i → i < T.1 → (i = T0.1 → T.2 4 i = 0) ∧ (i + 1 < T.1 → T.2 4 (i + 1) = T.2 4 i + T.2 3 i)
theorem TIc.opn {T0 T : Tb} (h : TIc T0 T) (hT : T0.1 < T.1) {s st w k : Int} (hk : lL T 4 + lL T 3 = k) : TIc T0 (tOpen T s st k w) := by
  intro i h1 h2
  rw [tOpen_1] at h2 ⊢
  refine ⟨fun e => ?_, fun e => ?_⟩
  · rw [tOpen_2, if_neg (by omega)]
    exact (h i h1 (by omega)).1 e
  · simp only [tOpen_2]
    by_cases z : i + 1 = T.1
    · rw [if_pos z, if_neg (by omega), if_neg (by omega)]
      show k = _
      have e4 : lL T 4 = T.2 4 (T.1 - 1) := rfl
      have e3 : lL T 3 = T.2 3 (T.1 - 1) := rfl
      rw [show i = T.1 - 1 by omega]
      omega
    · rw [if_neg z, if_neg (by omega), if_neg (by omega)]
      exact (h i h1 (by omega)).2 (by omega)
theorem TIc.set {T0 T : Tb} (h : TIc T0 T) {c : Nat} (hc : c ≠ 4) {v : Int} : TIc T0 (tSet T (T.1 - 1) c v) := by
  intro i h1 h2
  rw [tSet_1] at h2 ⊢
  refine ⟨fun e => ?_, fun e => ?_⟩
  · rw [tSet_2, if_neg (by omega)]
    exact (h i h1 h2).1 e
  · rw [tSet_2, tSet_2, tSet_2, if_neg (by omega), if_neg (by omega), if_neg (by omega)]
    exact (h i h1 h2).2 e
theorem TIc.tok (hw : WB K R N fr) {lim : Int} (hlim : lim ≤ 120) {s : Nat} (hs : s < N) (T0 : Tb) : ∀ k : Nat, TIc T0 (tTok R lim s T0 (k + 1)) := by
  intro k
  induction k with
  | zero =>
    rw [tTok, if_pos rfl, tTok]
    intro i h1 h2
    rw [tOpen_1] at h2 ⊢
    refine ⟨fun e => ?_, fun e => absurd e (by omega)⟩
    rw [tOpen_2, if_pos e]
    rfl
  | succ k ih =>
    have hi := TI.tok hw hlim hs T0 k
    rw [tTok, if_neg (by omega)]
    split
    · exact (ih.set (by omega)).set (by omega)
    · exact ih.opn hi.1 hi.2.2.2.2
theorem TIc.ent (hw : WB K R N fr) {lim nw : Int} (hlim : lim ≤ 120) {s : Nat} (hs : s < N) (T0 : Tb) : TIc T0 (tEnt R lim nw s T0) ∧ lL (tEnt R lim nw s T0) 4 + lL (tEnt R lim nw s T0) 3 = wct R s := by
  have hwc := (hw.sec hs).2.2.2.1
  have hi := TI.tok hw hlim hs T0 ((wct R s).toNat - 1)
  have hc := TIc.tok hw hlim hs T0 ((wct R s).toNat - 1)
  rw [show (wct R s).toNat - 1 + 1 = (wct R s).toNat by omega] at hi hc
  unfold tEnt
  generalize tTok R lim s T0 (wct R s).toNat = U at *
  have hd : TIc T0 (tDot R nw U) := (hc.set (by omega)).set (by omega)
  split
  · next q =>
    have h1 : TIc T0 (tCut (tDot R nw U) (lastW R s)) := (((hd.set (c := 3) (by omega)).set (c := 2) (by omega)).set (c := 6) (by omega)).set (c := 7) (by omega)
    have e4 : lL (tCut (tDot R nw U) (lastW R s)) 4 = lL U 4 := rfl
    have e3 : lL (tCut (tDot R nw U) (lastW R s)) 3 = lL U 3 - 1 := by
      show (if 3 = 7 ∧ U.1 - 1 = U.1 - 1 then (-1 : Int) else if 3 = 6 ∧ U.1 - 1 = U.1 - 1 then 0 else if 3 = 2 ∧ U.1 - 1 = U.1 - 1 then lL U 2 - (1 + lastW R s) else if 3 = 3 ∧ U.1 - 1 = U.1 - 1 then lL U 3 - 1 else lL U 3) = _
      rw [if_neg (by omega), if_neg (by omega), if_neg (by omega), if_pos ⟨rfl, rfl⟩]
    have h2 := h1.opn (s := s) (st := fsS R s + R 4) (w := lastW R s) (k := wct R s - 1) (show T0.1 < U.1 from hi.1) (by have := hi.2.2.2.2; omega)
    refine ⟨((h2.set (c := 6) (by omega)).set (c := 7) (by omega)).set (c := 5) (by omega), ?_⟩
    have el : ∀ c, c ≠ 5 → c ≠ 6 → c ≠ 7 → lL (tFin (tDot R nw (tOpen (tCut (tDot R nw U) (lastW R s)) s (fsS R s + R 4) (wct R s - 1) (lastW R s)))) c = tRow s (fsS R s + R 4) (fsS R s + R 4 + lastW R s) (wct R s - 1) c := by
      intro c c5 c6 c7
      show (if c = 5 ∧ U.1 + 1 - 1 = U.1 + 1 - 1 then (1 : Int) else if c = 7 ∧ U.1 + 1 - 1 = U.1 + 1 - 1 then _ else if c = 6 ∧ U.1 + 1 - 1 = U.1 + 1 - 1 then _ else if U.1 + 1 - 1 = U.1 then _ else _) = _
      rw [if_neg (fun y => c5 y.1), if_neg (fun y => c7 y.1), if_neg (fun y => c6 y.1), if_pos (by omega)]
    rw [el 4 (by omega) (by omega) (by omega), el 3 (by omega) (by omega) (by omega)]
    show wct R s - 1 + 1 = _
    omega
  · next q =>
    refine ⟨hd.set (c := 5) (by omega), ?_⟩
    have := hi.2.2.2.2
    show lL U 4 + lL U 3 = _
    omega
/-- lines of earlier entries stay -/
theorem TB_old (hw : WB K R N fr) (hK : K ≤ 600) (h0 : 0 ≤ tp ∧ tp ≤ 100) : ∀ (j e : Nat), e + j ≤ N → (TB R tp N e).1 ≤ (TB R tp N (e + j)).1 ∧ ∀ c i, i < (TB R tp N e).1 → (TB R tp N (e + j)).2 c i = (TB R tp N e).2 c i := by
  intro j
  induction j with
  | zero => intro e _; exact ⟨Nat.le_refl _, fun _ _ _ => rfl⟩
  | succ j ih =>
    intro e he
    have h := ih e (by omega)
    have hE := TB_e hw hK h0 (i := e + j) (by omega)
    rw [show e + (j + 1) = e + j + 1 from rfl]
    refine ⟨by have := hE.1; omega, fun c i hi => ?_⟩
    rw [hE.2.2.1 c i (by omega), h.2 c i hi]
theorem TB_at (hw : WB K R N fr) (hK : K ≤ 600) (h0 : 0 ≤ tp ∧ tp ≤ 100) {e i : Nat} (he : e < N) (hi : i < (TB R tp N (e + 1)).1) (c : Nat) : (TB R tp N N).2 c i = (TB R tp N (e + 1)).2 c i := by
  have h := (TB_old hw hK h0 (N - (e + 1)) (e + 1) (by omega)).2 c i hi
  rw [show e + 1 + (N - (e + 1)) = N by omega] at h
  exact h
theorem TB_mono (hw : WB K R N fr) (hK : K ≤ 600) (h0 : 0 ≤ tp ∧ tp ≤ 100) {e : Nat} (he : e < N) : (TB R tp N e).1 < (TB R tp N (e + 1)).1 ∧ (TB R tp N (e + 1)).1 ≤ (TB R tp N N).1 := by
  refine ⟨(TB_e hw hK h0 he).1, ?_⟩
  have h := (TB_old hw hK h0 (N - (e + 1)) (e + 1) (by omega)).1
  rw [show e + 1 + (N - (e + 1)) = N by omega] at h
  exact h
theorem TB_find (hw : WB K R N fr) (hK : K ≤ 600) (h0 : 0 ≤ tp ∧ tp ≤ 100) : ∀ (k i : Nat), k ≤ N → i < (TB R tp N k).1 → ∃ e, e < k ∧ (TB R tp N e).1 ≤ i ∧ i < (TB R tp N (e + 1)).1 := by
  intro k
  induction k with
  | zero => intro i _ hi; exact absurd hi (by show ¬ i < 0; omega)
  | succ k ih =>
    intro i hk hi
    by_cases z : i < (TB R tp N k).1
    · obtain ⟨e, a, b, c⟩ := ih i (by omega) z
      exact ⟨e, by omega, b, c⟩
    · exact ⟨k, by omega, by omega, hi⟩
/-- the facts of a line -/
def LF (R : Nat → Int) (tp : Int) (N i e : Nat) : Prop := (e < N ∧ (TB R tp N e).1 ≤ i ∧ i < (TB R tp N (e + 1)).1 ∧ i < (TB R tp N N).1) ∧ (TB R tp N N).2 0 i = e ∧ (0 ≤ (TB R tp N N).2 1 i ∧ (TB R tp N N).2 1 i ≤ 36) ∧ (-100 ≤ (TB R tp N N).2 2 i ∧ (TB R tp N N).2 2 i ≤ 120) ∧ (1 ≤ (TB R tp N N).2 3 i ∧ 0 ≤ (TB R tp N N).2 4 i ∧ (TB R tp N N).2 4 i + (TB R tp N N).2 3 i ≤ wct R e) ∧ ((i = (TB R tp N e).1 → (TB R tp N N).2 4 i = 0) ∧ (i + 1 < (TB R tp N (e + 1)).1 → (TB R tp N N).2 4 (i + 1) = (TB R tp N N).2 4 i + (TB R tp N N).2 3 i)) ∧ ((TB R tp N N).2 5 i = if i + 1 = (TB R tp N (e + 1)).1 then 1 else 0) ∧ (i + 1 = (TB R tp N (e + 1)).1 → (TB R tp N N).2 6 i = dCn R (nwd R tp e) ((TB R tp N N).2 2 i) ∧ (TB R tp N N).2 7 i = dFi R (nwd R tp e) ((TB R tp N N).2 2 i) ∧ lL (TB R tp N (e + 1)) 2 = (TB R tp N N).2 2 i ∧ 0 ≤ (TB R tp N N).2 2 i ∧ (TB R tp N N).2 4 i + (TB R tp N N).2 3 i = wct R e) ∧ (i + 1 < (TB R tp N (e + 1)).1 → (TB R tp N N).2 6 i = 0 ∧ (TB R tp N N).2 7 i = -1)
theorem LF.of (hw : WB K R N fr) (hK : K ≤ 600) (h0 : 0 ≤ tp ∧ tp ≤ 100) {e i : Nat} (he : e < N) (h1 : (TB R tp N e).1 ≤ i) (h2 : i < (TB R tp N (e + 1)).1) : LF R tp N i e := by
  have hm := TB_mono hw hK h0 he
  have hE := TB_e hw hK h0 he
  have hc := TIc.ent hw (nw := nwd R tp e) (limT_b hw hK h0).2.2 he (TB R tp N e)
  rw [← TB_s] at hc
  obtain ⟨a1, a2, a3, a4, a5, a6, a7⟩ := hE
  have hl := a4 i h1 h2
  have hcc := hc.1 i h1 h2
  have at' := fun c => TB_at hw hK h0 he h2 c
  refine ⟨⟨he, h1, h2, by omega⟩, ?_⟩
  rw [at' 0, at' 1, at' 2, at' 3, at' 4, at' 5, at' 6, at' 7]
  refine ⟨hl.1, hl.2.1, hl.2.2.1, ⟨hl.2.2.2.1, hl.2.2.2.2.1, hl.2.2.2.2.2.1⟩, ⟨hcc.1, fun y => ?_⟩, hl.2.2.2.2.2.2.1, fun y => ?_, fun y => hl.2.2.2.2.2.2.2 y⟩
  · rw [TB_at hw hK h0 he y 4]
    exact hcc.2 y
  · have e2 : lL (TB R tp N (e + 1)) 2 = (TB R tp N (e + 1)).2 2 i := by unfold lL; rw [show (TB R tp N (e + 1)).1 - 1 = i by omega]
    have e6 : lL (TB R tp N (e + 1)) 6 = (TB R tp N (e + 1)).2 6 i := by unfold lL; rw [show (TB R tp N (e + 1)).1 - 1 = i by omega]
    have e7 : lL (TB R tp N (e + 1)) 7 = (TB R tp N (e + 1)).2 7 i := by unfold lL; rw [show (TB R tp N (e + 1)).1 - 1 = i by omega]
    have e3 : lL (TB R tp N (e + 1)) 3 = (TB R tp N (e + 1)).2 3 i := by unfold lL; rw [show (TB R tp N (e + 1)).1 - 1 = i by omega]
    have e4 : lL (TB R tp N (e + 1)) 4 = (TB R tp N (e + 1)).2 4 i := by unfold lL; rw [show (TB R tp N (e + 1)).1 - 1 = i by omega]
    exact ⟨by rw [← e6, ← e2]; exact a6, by rw [← e7, ← e2]; exact a7, e2, by rw [← e2]; exact a5, by rw [← e3, ← e4]; exact hc.2⟩
theorem LF.ex (hw : WB K R N fr) (hK : K ≤ 600) (h0 : 0 ≤ tp ∧ tp ≤ 100) {i : Nat} (hi : i < (TB R tp N N).1) : ∃ e, LF R tp N i e := by
  obtain ⟨e, a, b, c⟩ := TB_find hw hK h0 N i (Nat.le_refl _) hi
  exact ⟨e, LF.of hw hK h0 a b c⟩
def tkT (R : Nat → Int) (e a : Nat) : Nat → List Int
  | 0 => []
  | k + 1 => tkT R e a k ++ ((if k = 0 then [] else [32]) ++ tok R e (a + k))
def endT (R : Nat → Int) (tp : Int) (N e i : Nat) : List Int := if (TB R tp N N).2 5 i = 1 then 32 :: (List.replicate ((TB R tp N N).2 6 i).toNat 46 ++ 32 :: prn R tp e) else []
def lnT (R : Nat → Int) (tp : Int) (N i : Nat) : List Int := List.replicate ((TB R tp N N).2 1 i).toNat 32 ++ (tkT R ((TB R tp N N).2 0 i).toNat ((TB R tp N N).2 4 i).toNat ((TB R tp N N).2 3 i).toNat ++ (endT R tp N ((TB R tp N N).2 0 i).toNat i ++ [10]))
def lnsT (R : Nat → Int) (tp : Int) (N a : Nat) : Nat → List Int
  | 0 => []
  | k + 1 => lnsT R tp N a k ++ lnT R tp N (a + k)
theorem tok_l2 (R : Nat → Int) (e w : Nat) (h : 0 < w) : (tok R e w).length ≤ 12 := by
  have h2 := lwl (lt R e w)
  unfold tok
  rw [if_neg (by omega), List.nil_append]
  exact h2
theorem tkT_len (hw : WB K R N fr) {e : Nat} (he : e < N) (a : Nat) : ∀ k, (tkT R e a k).length ≤ 13 * k + (if a = 0 ∧ 0 < k then 12 else 0) := by
  intro k
  induction k with
  | zero => exact Nat.zero_le _
  | succ k ih =>
    rw [tkT, List.length_append, List.length_append]
    have hsep : (if k = 0 then ([] : List Int) else [32]).length ≤ 1 := by split <;> exact Nat.le_of_ble_eq_true rfl
    by_cases z : a + k = 0
    · have h24 := tok_len hw he (a + k)
      have hk0 : k = 0 := by omega
      subst hk0
      rw [if_pos rfl]
      have e0 : (tkT R e a 0).length = 0 := rfl
      rw [e0, if_pos (by omega)]
      show 0 + (0 + _) ≤ _
      omega
    · have h12 := tok_l2 R e (a + k) (by omega)
      by_cases y : a = 0
      · have e1 : (if a = 0 ∧ 0 < k + 1 then 12 else 0) = 12 := if_pos ⟨y, by omega⟩
        have e2 : (if a = 0 ∧ 0 < k then 12 else 0) = 12 := if_pos ⟨y, by omega⟩
        rw [e1]
        rw [e2] at ih
        omega
      · have e1 : (if a = 0 ∧ 0 < k + 1 then 12 else 0) = 0 := if_neg (fun z => y z.1)
        have e2 : (if a = 0 ∧ 0 < k then 12 else 0) = 0 := if_neg (fun z => y z.1)
        rw [e1]
        rw [e2] at ih
        omega
theorem lnT_len (hw : WB K R N fr) (hK : K ≤ 600) (h0 : 0 ≤ tp ∧ tp ≤ 100) {i e : Nat} (h : LF R tp N i e) : ((lnT R tp N i).length : Int) ≤ 37 + 13 * (TB R tp N N).2 3 i + (if (TB R tp N N).2 4 i = 0 then 12 else 0) + (if i + 1 = (TB R tp N (e + 1)).1 then 138 else 0) := by
  obtain ⟨⟨h1, h2, h3, h4⟩, h5, h6, h7, h8, h9, h10, h11, h12⟩ := h
  have hk := tkT_len hw h1 ((TB R tp N N).2 4 i).toNat ((TB R tp N N).2 3 i).toNat
  have hp := (prn_len hw hK h1 h0.1 h0.2).1
  have hnw := nwd_b hw hK h1 h0.1 h0.2
  unfold lnT endT
  rw [h5, Int.toNat_natCast, h10]
  simp only [List.length_append, List.length_replicate]
  by_cases z : i + 1 = (TB R tp N (e + 1)).1
  · have hd := dCn_b hw (e := (TB R tp N N).2 2 i) (nw := nwd R tp e) ⟨(h11 z).2.2.2.1, h7.2⟩ hnw.1
    rw [if_pos z, if_pos rfl, if_pos z, (h11 z).1]
    simp only [List.length_append, List.length_replicate, List.length_cons, List.length_nil]
    by_cases y : (TB R tp N N).2 4 i = 0
    · rw [if_pos y]
      rw [if_pos (by omega)] at hk
      omega
    · rw [if_neg y]
      rw [if_neg (by omega)] at hk
      omega
  · rw [if_neg z, if_neg (by omega), if_neg z]
    simp only [List.length_cons, List.length_nil]
    by_cases y : (TB R tp N N).2 4 i = 0
    · rw [if_pos y]
      rw [if_pos (by omega)] at hk
      omega
    · rw [if_neg y]
      rw [if_neg (by omega)] at hk
      omega
/-- before a line of an entry stand so many bytes of it at most -/
theorem ent_len (hw : WB K R N fr) (hK : K ≤ 600) (h0 : 0 ≤ tp ∧ tp ≤ 100) {e : Nat} (he : e < N) : ∀ j : Nat, (TB R tp N e).1 + j < (TB R tp N (e + 1)).1 → ((lnsT R tp N (TB R tp N e).1 j).length : Int) ≤ 37 * j + 13 * (TB R tp N N).2 4 ((TB R tp N e).1 + j) + (if j = 0 then 0 else 12) := by
  intro j
  induction j with
  | zero =>
    intro hj
    have h := LF.of hw hK h0 he (Nat.le_refl _) (by omega : (TB R tp N e).1 < (TB R tp N (e + 1)).1)
    rw [Nat.add_zero, h.2.2.2.2.2.1.1 rfl, if_pos rfl]
    show (0 : Int) ≤ _
    omega
  | succ j ih =>
    intro hj
    have h := LF.of hw hK h0 he (i := (TB R tp N e).1 + j) (by omega) (by omega)
    have hl := lnT_len hw hK h0 h
    have hi := ih (by omega)
    have hn := h.2.2.2.2.2.1.2 (by omega)
    have hz := h.2.2.2.2.2.1.1
    rw [if_neg (by omega : ¬ (TB R tp N e).1 + j + 1 = (TB R tp N (e + 1)).1)] at hl
    rw [lnsT, List.length_append, if_neg (by omega), show (TB R tp N e).1 + (j + 1) = (TB R tp N e).1 + j + 1 from rfl, hn]
    by_cases y : j = 0
    · subst y
      rw [if_pos rfl] at hi
      split at hl <;> omega
    · rw [if_neg y] at hi
      have h4 : ¬ (TB R tp N N).2 4 ((TB R tp N e).1 + j) = 0 := by
        obtain ⟨g, rfl⟩ : ∃ g, j = g + 1 := ⟨j - 1, by omega⟩
        have hp := LF.of hw hK h0 he (i := (TB R tp N e).1 + g) (by omega) (by omega)
        have := hp.2.2.2.2.2.1.2 (by omega)
        have := hp.2.2.2.2.1
        rw [show (TB R tp N e).1 + (g + 1) = (TB R tp N e).1 + g + 1 from rfl]
        omega
      rw [if_neg h4] at hl
      omega
theorem lnsT_app (a : Nat) : ∀ (k j : Nat), lnsT R tp N a (j + k) = lnsT R tp N a j ++ lnsT R tp N (a + j) k := by
  intro k
  induction k with
  | zero => intro j; rw [Nat.add_zero, lnsT, List.append_nil]
  | succ k ih =>
    intro j
    rw [show j + (k + 1) = j + k + 1 from rfl, lnsT, ih, lnsT, List.append_assoc, Nat.add_assoc]
theorem ent_all (hw : WB K R N fr) (hK : K ≤ 600) (h0 : 0 ≤ tp ∧ tp ≤ 100) {e : Nat} (he : e < N) : (lnsT R tp N (TB R tp N e).1 ((TB R tp N (e + 1)).1 - (TB R tp N e).1)).length ≤ 600 := by
  have hE := TB_e hw hK h0 he
  have hwc := (hw.sec he).2.2.2.1
  have hj := ent_len hw hK h0 he ((TB R tp N (e + 1)).1 - (TB R tp N e).1 - 1) (by have := hE.1; omega)
  have h := LF.of hw hK h0 he (i := (TB R tp N (e + 1)).1 - 1) (by have := hE.1; omega) (by have := hE.1; omega)
  have hl := lnT_len hw hK h0 h
  have hx := (h.2.2.2.2.2.2.2.1 (by have := hE.1; omega)).2.2.2.2
  rw [if_pos (show (TB R tp N (e + 1)).1 - 1 + 1 = (TB R tp N (e + 1)).1 by have := hE.1; omega)] at hl
  obtain ⟨g, hg⟩ : ∃ g, (TB R tp N (e + 1)).1 - (TB R tp N e).1 = g + 1 := ⟨(TB R tp N (e + 1)).1 - (TB R tp N e).1 - 1, by have := hE.1; omega⟩
  rw [hg] at hj ⊢
  rw [Nat.add_sub_cancel] at hj
  have e1 : (TB R tp N e).1 + g = (TB R tp N (e + 1)).1 - 1 := by omega
  rw [e1] at hj
  rw [lnsT, List.length_append, e1]
  have h2 := hE.2.1
  split at hl
  · next y =>
    split at hj <;> omega
  · split at hj <;> omega
/-- before an entry stand so many bytes at most -/
theorem tab_len (hw : WB K R N fr) (hK : K ≤ 600) (h0 : 0 ≤ tp ∧ tp ≤ 100) : ∀ e, e ≤ N → (lnsT R tp N 0 (TB R tp N e).1).length ≤ 600 * e := by
  intro e
  induction e with
  | zero => intro _; exact Nat.zero_le _
  | succ e ih =>
    intro he
    have hE := TB_e hw hK h0 (i := e) (by omega)
    have ha := ent_all hw hK h0 (e := e) (by omega)
    have hs := lnsT_app (R := R) (tp := tp) (N := N) 0 ((TB R tp N (e + 1)).1 - (TB R tp N e).1) (TB R tp N e).1
    rw [show (TB R tp N e).1 + ((TB R tp N (e + 1)).1 - (TB R tp N e).1) = (TB R tp N (e + 1)).1 by have := hE.1; omega, Nat.zero_add] at hs
    rw [hs, List.length_append]
    have := ih (by omega)
    omega
end LNS
