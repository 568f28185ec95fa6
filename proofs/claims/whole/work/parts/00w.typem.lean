/-! LINES, put by the model -/
section TYM
variable {n q : Nat} {R : Nat → Int} {K : Int} {N fr : Nat} {tp : Int}
theorem MW.col {μ : Mm} (h : MW μ R tp N fr) (hw : WB K R N fr) (hK : K ≤ 600) (h0 : 0 ≤ tp ∧ tp ≤ 100) {c i k : Nat} (hc : c < 8) (hk : k = mp c) (hi : i < (TB R tp N N).1) : ld μ k (jv i) = some (jv ((TB R tp N N).2 c i)) := by
  have hT := TB_n hw hK h0 N (Nat.le_refl _)
  have hN := hw.1
  have hl : ln (mp c) = 240 := by
    rcases lt8 hc with rfl | rfl | rfl | rfl | rfl | rfl | rfl | rfl <;> rfl
  subst hk
  rw [ld_jv (by omega) (by omega), Int.toNat_natCast]
  exact congrArg some (h.2.1.2 c hc i hi)
theorem MW.c0 {μ : Mm} (h : MW μ R tp N fr) (hw : WB K R N fr) (hK : K ≤ 600) (h0 : 0 ≤ tp ∧ tp ≤ 100) {i : Nat} (hi : i < (TB R tp N N).1) : ld μ 316 (jv i) = some (jv ((TB R tp N N).2 0 i)) := h.col hw hK h0 (c := 0) (by omega) rfl hi
theorem MW.c1 {μ : Mm} (h : MW μ R tp N fr) (hw : WB K R N fr) (hK : K ≤ 600) (h0 : 0 ≤ tp ∧ tp ≤ 100) {i : Nat} (hi : i < (TB R tp N N).1) : ld μ 317 (jv i) = some (jv ((TB R tp N N).2 1 i)) := h.col hw hK h0 (c := 1) (by omega) rfl hi
theorem MW.c2 {μ : Mm} (h : MW μ R tp N fr) (hw : WB K R N fr) (hK : K ≤ 600) (h0 : 0 ≤ tp ∧ tp ≤ 100) {i : Nat} (hi : i < (TB R tp N N).1) : ld μ 320 (jv i) = some (jv ((TB R tp N N).2 2 i)) := h.col hw hK h0 (c := 2) (by omega) rfl hi
theorem MW.c3 {μ : Mm} (h : MW μ R tp N fr) (hw : WB K R N fr) (hK : K ≤ 600) (h0 : 0 ≤ tp ∧ tp ≤ 100) {i : Nat} (hi : i < (TB R tp N N).1) : ld μ 319 (jv i) = some (jv ((TB R tp N N).2 3 i)) := h.col hw hK h0 (c := 3) (by omega) rfl hi
theorem MW.c4 {μ : Mm} (h : MW μ R tp N fr) (hw : WB K R N fr) (hK : K ≤ 600) (h0 : 0 ≤ tp ∧ tp ≤ 100) {i : Nat} (hi : i < (TB R tp N N).1) : ld μ 318 (jv i) = some (jv ((TB R tp N N).2 4 i)) := h.col hw hK h0 (c := 4) (by omega) rfl hi
theorem MW.c5 {μ : Mm} (h : MW μ R tp N fr) (hw : WB K R N fr) (hK : K ≤ 600) (h0 : 0 ≤ tp ∧ tp ≤ 100) {i : Nat} (hi : i < (TB R tp N N).1) : ld μ 321 (jv i) = some (jv ((TB R tp N N).2 5 i)) := h.col hw hK h0 (c := 5) (by omega) rfl hi
theorem MW.c6 {μ : Mm} (h : MW μ R tp N fr) (hw : WB K R N fr) (hK : K ≤ 600) (h0 : 0 ≤ tp ∧ tp ≤ 100) {i : Nat} (hi : i < (TB R tp N N).1) : ld μ 322 (jv i) = some (jv ((TB R tp N N).2 6 i)) := h.col hw hK h0 (c := 6) (by omega) rfl hi
theorem MW.c7 {μ : Mm} (h : MW μ R tp N fr) (hw : WB K R N fr) (hK : K ≤ 600) (h0 : 0 ≤ tp ∧ tp ≤ 100) {i : Nat} (hi : i < (TB R tp N N).1) : ld μ 323 (jv i) = some (jv ((TB R tp N N).2 7 i)) := h.col hw hK h0 (c := 7) (by omega) rfl hi
theorem ppM {μ : Mm} {L : List Int} (hn : 16 ≤ n) (hw : WB K R N fr) (hK : K ≤ 600) (h0 : 0 ≤ tp ∧ tp ≤ 100) {e : Nat} (he : e < N) (hm : MB q μ R) (hp : μ.1 314 e = jv (pgs R tp e)) (hx : Mx μ L) (hl : L.length + 40 ≤ 16000) : Wr Mx PM μ L (sh_X12_putPrinted n (jv e) μ) (prn R tp e) := by
  have hN := hw.1
  have hpg := pgs_b hw hK he h0.1 h0.2
  have l1 : ln 314 = 24 := rfl
  unfold sh_X12_putPrinted
  simp only [jv_lit]
  rw [hm.oP (by omega), Option.bind_some]
  rcases hw.pb he with ⟨z, -⟩ | ⟨z, -⟩
  · have ep : prn R tp e = ro (pgs R tp e) := by unfold prn; rw [if_pos z]
    rw [if_pos (by rw [z]), ld_jv (by omega) (by omega), Option.bind_some, Int.toNat_natCast, hp, ep]
    exact (roM (by omega) (by omega) (by omega) hx (by omega)).last
  · have ep : prn R tp e = ar (pgs R tp e) := by unfold prn; rw [if_neg (by omega)]
    rw [if_neg (by rw [z, jv_eq] <;> omega), ld_jv (by omega) (by omega), Option.bind_some, Int.toNat_natCast, hp, ep]
    exact (arM (by omega) (by omega) (by omega) hx (by omega)).last
/-- what a line stands on -/
def ML (q : Nat) (μ : Mm) (R : Nat → Int) (tp : Int) (N fr : Nat) : Prop := MB q μ R ∧ LM μ R N ∧ MW μ R tp N fr
theorem ML.kp {μ μ' : Mm} (h : ML q μ R tp N fr) (hf : Fm PM2 μ μ') : ML q μ' R tp N fr := ⟨h.1.fr hf (fun i _ y => by rcases h.1.1 with rfl | rfl <;> omega), h.2.1.kp hf (fun j => ⟨by omega, by omega⟩), h.2.2.kp hf (fun k j y => by omega)⟩
theorem pl89 (hn : 200 ≤ n) (hw : WB K R N fr) (hK : K ≤ 600) (h0 : 0 ≤ tp ∧ tp ≤ 100) {i e d : Nat} (hf : LF R tp N i e) (hd : (TB R tp N N).2 6 i = d) (hdb : d ≤ 1000) : ∀ (r f k : Nat) (μ : Mm) (L : List Int), k + r = d → r < f → ML q μ R tp N fr → Mx μ L → L.length + r + 60 ≤ 16000 → Wt Mx PM2 μ (sh_X12_putLine_89 n (jv i) f (jv e) (jv k) μ) (L ++ (List.replicate r 46 ++ (32 :: prn R tp e) ++ [10])) := by
  have he := hf.1.1
  have hN := hw.1
  have hpr := (prn_len hw hK he h0.1 h0.2).1
  intro r
  induction r with
  | zero =>
    intro f k μ L hk hfu hm hx hl
    obtain ⟨f, rfl⟩ : ∃ g, f = g + 1 := ⟨f - 1, by omega⟩
    rw [sh_X12_putLine_89, hm.2.2.c6 hw hK h0 hf.1.2.2.2, hd, Option.bind_some, if_pos (by rw [show k = d by omega]; exact Int32.le_refl _)]
    simp only [jv_lit]
    refine Wt.bind ((Wt.of (putM hx (by omega) (by omega) (by omega))).mono PM_2) (fun μ1 hx1 f1 => ?_)
    have hm1 := hm.kp f1
    refine Wt.bind ((Wt.of (ppM (by omega) hw hK h0 he hm1.1 (hm1.2.2.1.1 e he).1 hx1 (by rw [len1]; omega))).mono PM_2) (fun μ2 hx2 f2 => ?_)
    have := ((Wt.of (putM hx2 (by rw [List.length_append, len1]; omega) (show -128 ≤ (10 : Int) by omega) (by omega)).last).mono PM_2)
    simp only [List.append_assoc, List.cons_append, List.nil_append, List.replicate_zero] at this ⊢
    exact this
  | succ r ih =>
    intro f k μ L hk hfu hm hx hl
    obtain ⟨f, rfl⟩ : ∃ g, f = g + 1 := ⟨f - 1, by omega⟩
    rw [sh_X12_putLine_89, hm.2.2.c6 hw hK h0 hf.1.2.2.2, hd, Option.bind_some, if_neg (by rw [jv_le] <;> omega)]
    simp only [jv_lit]
    refine Wt.bind ((Wt.of (putM hx (by omega) (by omega) (by omega))).mono PM_2) (fun μ1 hx1 f1 => ?_)
    have := ih f (k + 1) μ1 _ (by omega) (by omega) (hm.kp f1) hx1 (by rw [len1]; omega)
    rw [jv_add, show (k : Int) + 1 = ((k + 1 : Nat) : Int) by omega]
    simp only [List.append_assoc, List.cons_append, List.nil_append, List.replicate_succ] at this ⊢
    exact this
theorem pl33 (hn : 16001 ≤ n) (hw : WB K R N fr) (hK : K ≤ 600) (h0 : 0 ≤ tp ∧ tp ≤ 100) {i e a c : Nat} (hf : LF R tp N i e) (ha : (TB R tp N N).2 4 i = a) (hc : (TB R tp N N).2 3 i = c) : ∀ (r f k : Nat) (μ : Mm) (B : List Int), k + r = c → r < f → ML q μ R tp N fr → Mx μ (B ++ tkT R e a k) → B.length + 500 ≤ 16000 → Wt Mx PM2 μ (sh_X12_putLine_33 n (jv i) f (jv e) (jv k) μ) (B ++ tkT R e a c ++ (endT R tp N e i ++ [10])) := by
  have he := hf.1.1
  have hN := hw.1
  have hwc := (hw.sec he).2.2.2.1
  have h8 := hf.2.2.2.2.1
  have hpr := (prn_len hw hK he h0.1 h0.2).1
  have h5 := hf.2.2.2.2.2.2.1
  intro r
  induction r with
  | zero =>
    intro f k μ B hk hfu hm hx hB
    obtain ⟨f, rfl⟩ : ∃ g, f = g + 1 := ⟨f - 1, by omega⟩
    have ek : k = c := by omega
    subst ek
    have hkl := tkT_len hw he a k
    have hlen : (B ++ tkT R e a k).length + 300 ≤ 16000 := by
      rw [List.length_append]
      have : (if a = 0 ∧ 0 < k then 12 else 0) ≤ 12 := by split <;> omega
      omega
    rw [sh_X12_putLine_33, hm.2.2.c3 hw hK h0 hf.1.2.2.2, hc, Option.bind_some, if_pos (Int32.le_refl _), hm.2.2.c5 hw hK h0 hf.1.2.2.2, Option.bind_some]
    unfold endT
    simp only [jv_lit]
    by_cases z : i + 1 = (TB R tp N (e + 1)).1
    · rw [if_pos z] at h5
      have hlast := hf.2.2.2.2.2.2.2.1 z
      have hdc := dCn_b hw (e := (TB R tp N N).2 2 i) (nw := nwd R tp e) ⟨hlast.2.2.2.1, hf.2.2.2.1.2⟩ (nwd_b hw hK he h0.1 h0.2).1
      have h6 : 0 ≤ (TB R tp N N).2 6 i ∧ (TB R tp N N).2 6 i ≤ 121 := by rw [hlast.1]; exact hdc
      rw [h5, if_neg (by rw [jv_eq] <;> omega), if_pos rfl]
      refine Wt.bind ((Wt.of (putM hx (by omega) (by omega) (by omega))).mono PM_2) (fun μ1 hx1 f1 => ?_)
      have := pl89 (n := n) (by omega) hw hK h0 hf (d := ((TB R tp N N).2 6 i).toNat) (by omega) (by omega) ((TB R tp N N).2 6 i).toNat n 0 μ1 _ (by omega) (by omega) (hm.kp f1) hx1 (by rw [len1]; omega)
      simp only [List.append_assoc, List.cons_append, List.nil_append] at this ⊢
      exact this
    · rw [if_neg z] at h5
      rw [h5, if_pos rfl, if_neg (by omega), List.nil_append]
      exact (Wt.of (putM hx (by omega) (by omega) (by omega)).last).mono PM_2
  | succ r ih =>
    intro f k μ B hk hfu hm hx hB
    obtain ⟨f, rfl⟩ : ∃ g, f = g + 1 := ⟨f - 1, by omega⟩
    have hkl := tkT_len hw he a k
    have hlen : (B ++ tkT R e a k).length + 300 ≤ 16000 := by
      rw [List.length_append]
      have : (if a = 0 ∧ 0 < k then 12 else 0) ≤ 12 := by split <;> omega
      omega
    have k53 : ∀ (μ1 : Mm) (S : List Int), ML q μ1 R tp N fr → Mx μ1 S → S.length + 40 ≤ 16000 → S ++ tok R e (a + k) = B ++ tkT R e a (k + 1) → Wt Mx PM2 μ1 (sh_X12_putLine_53 n (jv i) (fun (x2 : Int32) (x3 : Int32) (μ : Mm) => sh_X12_putLine_33 n (jv i) f x2 x3 μ) (jv e) (jv k) μ1) (B ++ tkT R e a c ++ (endT R tp N e i ++ [10])) := by
      intro μ1 S hm1 hx1 hS hSe
      unfold sh_X12_putLine_53
      simp only [jv_lit]
      rw [hm1.2.2.c4 hw hK h0 hf.1.2.2.2, ha, Option.bind_some, jv_add, show (a : Int) + k = ((a + k : Nat) : Int) by omega]
      refine Wt.bind (Wt.of (ptM (by omega) hw he (w := a + k) (by omega) hm1.1 hm1.2.1 hx1 hS)) (fun μ2 hx2 f2 => ?_)
      rw [hSe] at hx2
      rw [jv_add, show (k : Int) + 1 = ((k + 1 : Nat) : Int) by omega]
      exact ih f (k + 1) μ2 B (by omega) (by omega) (hm1.kp f2) hx2 hB
    rw [sh_X12_putLine_33, hm.2.2.c3 hw hK h0 hf.1.2.2.2, hc, Option.bind_some, if_neg (by rw [jv_le] <;> omega)]
    simp only [jv_lit]
    by_cases z : k = 0
    · rw [if_pos (by rw [jv_le] <;> omega)]
      refine k53 μ _ hm hx (by omega) ?_
      rw [tkT, if_pos z, List.nil_append, List.append_assoc]
    · rw [if_neg (by rw [jv_le] <;> omega)]
      refine Wt.bind ((Wt.of (putM hx (by omega) (by omega) (by omega))).mono PM_2) (fun μ1 hx1 f1 => ?_)
      refine k53 μ1 _ (hm.kp f1) hx1 (by rw [len1]; omega) ?_
      rw [tkT, if_neg z, List.append_assoc, List.append_assoc]
theorem pl9 (hn : 16001 ≤ n) (hw : WB K R N fr) (hK : K ≤ 600) (h0 : 0 ≤ tp ∧ tp ≤ 100) {i e b : Nat} (hf : LF R tp N i e) (hb : (TB R tp N N).2 1 i = b) : ∀ (r f k : Nat) (μ : Mm) (L : List Int), k + r = b → r < f → ML q μ R tp N fr → Mx μ L → L.length + r + 500 ≤ 16000 → Wt Mx PM2 μ (sh_X12_putLine_9 n (jv i) f (jv e) (jv k) μ) (L ++ (List.replicate r 32 ++ (tkT R e ((TB R tp N N).2 4 i).toNat ((TB R tp N N).2 3 i).toNat ++ (endT R tp N e i ++ [10])))) := by
  have h6 := hf.2.2.1
  have h8 := hf.2.2.2.2.1
  have hwc := (hw.sec hf.1.1).2.2.2.1
  intro r
  induction r with
  | zero =>
    intro f k μ L hk hfu hm hx hl
    obtain ⟨f, rfl⟩ : ∃ g, f = g + 1 := ⟨f - 1, by omega⟩
    rw [sh_X12_putLine_9, hm.2.2.c1 hw hK h0 hf.1.2.2.2, hb, Option.bind_some, if_pos (by rw [show k = b by omega]; exact Int32.le_refl _), jv_lit (nat_lit 0)]
    have := pl33 (n := n) hn hw hK h0 hf (a := ((TB R tp N N).2 4 i).toNat) (c := ((TB R tp N N).2 3 i).toNat) (by omega) (by omega) ((TB R tp N N).2 3 i).toNat n 0 μ L (by omega) (by omega) hm (by rw [tkT, List.append_nil]; exact hx) (by omega)
    rw [List.append_assoc] at this
    exact this
  | succ r ih =>
    intro f k μ L hk hfu hm hx hl
    obtain ⟨f, rfl⟩ : ∃ g, f = g + 1 := ⟨f - 1, by omega⟩
    rw [sh_X12_putLine_9, hm.2.2.c1 hw hK h0 hf.1.2.2.2, hb, Option.bind_some, if_neg (by rw [jv_le] <;> omega)]
    simp only [jv_lit]
    refine Wt.bind ((Wt.of (putM hx (by omega) (by omega) (by omega))).mono PM_2) (fun μ1 hx1 f1 => ?_)
    have := ih f (k + 1) μ1 _ (by omega) (by omega) (hm.kp f1) hx1 (by rw [len1]; omega)
    rw [jv_add, show (k : Int) + 1 = ((k + 1 : Nat) : Int) by omega]
    rw [List.replicate_succ]
    rw [List.append_assoc] at this
    exact this
theorem plL (hn : 16001 ≤ n) (hw : WB K R N fr) (hK : K ≤ 600) (h0 : 0 ≤ tp ∧ tp ≤ 100) {i : Nat} (hi : i < (TB R tp N N).1) {μ : Mm} {L : List Int} (hm : ML q μ R tp N fr) (hx : Mx μ L) (hl : L.length + 600 ≤ 16000) : Wr Mx PM2 μ L (sh_X12_putLine n (jv i) μ) (lnT R tp N i) := by
  obtain ⟨e, hf⟩ := LF.ex hw hK h0 hi
  have h6 := hf.2.2.1
  unfold sh_X12_putLine
  rw [hm.2.2.c0 hw hK h0 hi, Option.bind_some, hf.2.1, jv_lit (nat_lit 0)]
  have := pl9 (n := n) hn hw hK h0 hf (b := ((TB R tp N N).2 1 i).toNat) (by omega) ((TB R tp N N).2 1 i).toNat n 0 μ L (by omega) (by omega) hm hx (by omega)
  unfold lnT
  rw [hf.2.1, Int.toNat_natCast]
  exact this.to
end TYM
