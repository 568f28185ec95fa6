/-! LABELS AND TOKENS, written -/
def Wt (X : Mm → List Int → Prop) (P : Nat → Nat → Prop) (μ : Mm) (o : Option Mm) (T : List Int) : Prop := ∃ μ', o = some μ' ∧ X μ' T ∧ Fm P μ μ'
theorem Wt.of {X : Mm → List Int → Prop} {P : Nat → Nat → Prop} {μ : Mm} {L S : List Int} {o : Option Mm} (h : Wr X P μ L o S) : Wt X P μ o (L ++ S) := h
theorem Wt.to {X : Mm → List Int → Prop} {P : Nat → Nat → Prop} {μ : Mm} {L S : List Int} {o : Option Mm} (h : Wt X P μ o (L ++ S)) : Wr X P μ L o S := h
theorem Wt.bind {X : Mm → List Int → Prop} {P : Nat → Nat → Prop} {μ : Mm} {S T : List Int} {o : Option Mm} {f : Mm → Option Mm} (h : Wt X P μ o S) (k : ∀ μ1, X μ1 S → Fm P μ μ1 → Wt X P μ1 (f μ1) T) : Wt X P μ (o.bind f) T := by
  obtain ⟨μ1, rfl, hx, hf⟩ := h
  obtain ⟨μ2, e, hx2, hf2⟩ := k μ1 hx hf
  exact ⟨μ2, by rw [Option.bind_some, e], hx2, hf.tr hf2 (fun _ _ q => q)⟩
theorem Wt.mono {X : Mm → List Int → Prop} {P Q : Nat → Nat → Prop} {μ : Mm} {T : List Int} {o : Option Mm} (h : Wt X Q μ o T) (hs : ∀ k j, Q k j → P k j) : Wt X P μ o T := by
  obtain ⟨μ1, e, hx, hf⟩ := h
  exact ⟨μ1, e, hx, hf.mono hs⟩
theorem Wr.mono {X : Mm → List Int → Prop} {P Q : Nat → Nat → Prop} {μ : Mm} {L T : List Int} {o : Option Mm} (h : Wr X Q μ L o T) (hs : ∀ k j, Q k j → P k j) : Wr X P μ L o T := by
  obtain ⟨μ1, e, hx, hf⟩ := h
  exact ⟨μ1, e, hx, hf.mono hs⟩
abbrev PM2 : Nat → Nat → Prop := fun k j => k = 306 ∧ j = 17 ∨ k = 310 ∨ k = 313
theorem PM_2 : ∀ k j, PM k j → PM2 k j := fun k j h => by rcases h with h | h <;> omega
def okT (L : List Int) : Prop := ∀ c ∈ L, 10 ≤ c ∧ c ≤ 122
theorem okT.get {L : List Int} (h : okT L) : ∀ i, i < L.length → -128 ≤ L.getD i 0 ∧ L.getD i 0 ≤ 127 := by
  intro i hi
  rw [List.getD_eq_getElem?_getD, List.getElem?_eq_getElem hi]
  have := h _ (List.getElem_mem hi)
  show -128 ≤ L[i] ∧ L[i] ≤ 127
  omega
theorem okT.app {L M : List Int} (h : okT L) (h2 : okT M) : okT (L ++ M) := fun c hc => (List.mem_append.mp hc).elim (h c) (h2 c)
theorem okT.nil : okT [] := fun c hc => absurd hc List.not_mem_nil
theorem okT.cons {c : Int} {L : List Int} (h : 10 ≤ c ∧ c ≤ 122) (h2 : okT L) : okT (c :: L) := fun d hd => by
  rcases List.mem_cons.mp hd with rfl | q
  · exact h
  · exact h2 d q
theorem okT.rep {c : Int} {k : Nat} (h : 10 ≤ c ∧ c ≤ 122) : okT (List.replicate k c) := fun d hd => by
  rw [(List.mem_replicate.mp hd).2]
  exact h
theorem okT_ar {v : Int} : okT (ar v) := by
  intro c hc
  unfold ar arN at hc
  split at hc
  · simp only [dgl, List.mem_cons, List.not_mem_nil, or_false] at hc; omega
  · split at hc
    · simp only [dgl, List.mem_cons, List.not_mem_nil, or_false] at hc; omega
    · split at hc <;> simp only [dgl, List.mem_cons, List.not_mem_nil, or_false] at hc <;> omega
theorem okT_rof {d a b c : Int} (ha : 10 ≤ a ∧ a ≤ 122) (hb : 10 ≤ b ∧ b ≤ 122) (hc : 10 ≤ c ∧ c ≤ 122) : okT (rof d a b c) := by
  unfold rof
  split
  · exact okT.cons ha (okT.cons hc okT.nil)
  · split
    · exact okT.cons ha (okT.cons hb okT.nil)
    · split
      · exact okT.nil.app (okT.rep ha)
      · exact (okT.cons hb okT.nil).app (okT.rep ha)
theorem okT_ro {v : Int} : okT (ro v) := (okT.rep (by omega)).app ((okT_rof (by omega) (by omega) (by omega)).app ((okT_rof (by omega) (by omega) (by omega)).app (okT_rof (by omega) (by omega) (by omega))))
theorem okT_lwF {l : Nat → Int} (h : okL l) : ∀ (f p : Nat), p + f = 12 → okT (lwF l f p) := by
  intro f
  induction f with
  | zero => intro p _; exact okT.nil
  | succ f ih =>
    intro p hp
    have := h p (by omega)
    rw [lwF]
    split
    · exact okT.nil
    · exact okT.cons (by omega) (ih (p + 1) (by omega))
theorem okT_lw {l : Nat → Int} (h : okL l) : okT (lw l) := okT_lwF h 12 0 rfl
theorem okT_lab (R : Nat → Int) : ∀ (f s : Nat), s < f → okT (lab R s) := by
  intro f
  induction f with
  | zero => intro s h; omega
  | succ f ih =>
    intro s hs
    have := pr_b R s
    rw [lab_eq]
    refine okT.app ?_ okT_ar
    split
    · exact okT.nil
    · exact (ih _ (by omega)).app (okT.cons (by omega) okT.nil)
section TOK
variable {n q : Nat} {R : Nat → Int} {K : Int} {N fr s : Nat}
theorem okT_tok (hw : WB K R N fr) (hs : s < N) {w : Nat} (hww : (w : Int) < wct R s) : okT (tok R s w) := by
  unfold tok
  refine okT.app ?_ (okT_lw ((hw.sec hs).2.2.2.2.1 w hww).1)
  split
  · exact (okT_lab R (s + 1) s (by omega)).app (okT.cons (by omega) okT.nil)
  · exact okT.nil
theorem LM.kp {μ μ' : Mm} {P : Nat → Nat → Prop} {i : Nat} (h : LM μ R i) (hf : Fm P μ μ') (hp : ∀ j, ¬ P 311 j ∧ ¬ P 312 j) : LM μ' R i := fun s hs => ⟨by rw [hf.2 _ _ (hp s).1]; exact (h s hs).1, by rw [hf.2 _ _ (hp s).2]; exact (h s hs).2⟩
theorem anc_step (hw : WB K R N fr) (hs : s < N) {j : Nat} (hj : (j : Int) < lev R s) : pr R (anc R s j) = if (j : Int) + 1 < lev R s then ((anc R s (j + 1) : Nat) : Int) else -1 := by
  have h := anc_b hw hs j hj
  split
  · next q =>
    have hu := pr_up hw (s := anc R s j) (by omega) (by omega)
    rw [anc]
    omega
  · exact pr_1 hw (s := anc R s j) (by omega) (by omega)
/-- the label of an ancestor, out of the next one's -/
theorem lab_anc (hw : WB K R N fr) (hs : s < N) {j : Nat} (hj : (j : Int) < lev R s) : lab R (anc R s j) = (if (j : Int) + 1 < lev R s then lab R (anc R s (j + 1)) ++ [46] else []) ++ ar (od R (anc R s j)) := by
  have e := anc_step hw hs hj
  rw [lab_eq]
  by_cases q : (j : Int) + 1 < lev R s
  · rw [if_pos q] at e
    rw [e, if_neg (by omega), if_pos q, Int.toNat_natCast]
  · rw [if_neg q] at e
    rw [e, if_pos (by omega), if_neg q]
theorem plM38 (hn : 30 ≤ n) (hw : WB K R N fr) (hs : s < N) : ∀ (k f : Nat) (μ : Mm) (B : List Int), (k : Int) < lev R s → k + 1 < f → (∀ i : Nat, (i : Int) < lev R s → μ.1 313 i = jv (od R (anc R s i))) → Mx μ (B ++ if (k : Int) + 1 < lev R s then lab R (anc R s (k + 1)) ++ [46] else []) → B.length + 20 ≤ 16000 → Wt Mx PM μ (sh_X12_putLabel_38 n (jv s) f (jv k) μ) (B ++ lab R s) := by
  have hN := hw.1.2.1
  have hL := (hw.sec hs).2.1
  have ln3 : ln 313 = 4 := rfl
  intro k
  induction k with
  | zero =>
    intro f μ B hk hf hc hx hB
    obtain ⟨f, rfl⟩ : ∃ g, f = g + 2 := ⟨f - 2, by omega⟩
    have hl := lab_anc hw hs hk
    have hod := od_b R (anc R s 0)
    have hl0 := lab_b hw hs
    have hlen : (B ++ if ((0 : Nat) : Int) + 1 < lev R s then lab R (anc R s (0 + 1)) ++ [46] else []).length + 4 ≤ 16000 := by
      rw [List.length_append]
      split
      · next q => rw [len1]; have := lab_b hw (s := anc R s (0 + 1)) (by have := anc_b hw hs (0 + 1) (by omega); omega); omega
      · show _ + 0 + 4 ≤ _; omega
    rw [sh_X12_putLabel_38]
    simp only [jv_lit]
    rw [if_neg (by rw [jv_lt] <;> omega), ld_jv (by omega) (by omega), Option.bind_some, Int.toNat_natCast, hc 0 hk]
    have hod2 : od R (anc R s 0) < 10000 := by have := hw.1.2.1; show od R s < 10000; have := od_b R s; omega
    refine Wt.bind (Wt.of (arM (by omega) (by omega) hod2 hx hlen)) (fun μ1 hx1 hf1 => ?_)
    rw [if_pos (by rw [jv_le] <;> omega), jv_neg, jv_add, sh_X12_putLabel_38, if_pos (by rw [jv_lit (nat_lit 0), jv_lt] <;> omega)]
    refine ⟨μ1, rfl, ?_, Fm.rf⟩
    rw [List.append_assoc, ← hl] at hx1
    exact hx1
  | succ k ih =>
    intro f μ B hk hf hc hx hB
    obtain ⟨f, rfl⟩ : ∃ g, f = g + 1 := ⟨f - 1, by omega⟩
    have hl := lab_anc hw hs hk
    have ha := anc_b hw hs (k + 1) hk
    have hod := od_b R (anc R s (k + 1))
    have hl0 := lab_b hw (s := anc R s (k + 1)) (by omega)
    have hlen : (B ++ if ((k + 1 : Nat) : Int) + 1 < lev R s then lab R (anc R s (k + 1 + 1)) ++ [46] else []).length + 4 ≤ 16000 := by
      rw [List.length_append]
      split
      · next q => rw [len1]; have := lab_b hw (s := anc R s (k + 1 + 1)) (by have := anc_b hw hs (k + 1 + 1) (by omega); omega); omega
      · show _ + 0 + 4 ≤ _; omega
    rw [sh_X12_putLabel_38]
    simp only [jv_lit]
    rw [if_neg (by rw [jv_lt] <;> omega), ld_jv (by omega) (by omega), Option.bind_some, Int.toNat_natCast, hc (k + 1) hk]
    refine Wt.bind (Wt.of (arM (by omega) (by omega) (by omega) hx hlen)) (fun μ1 hx1 hf1 => ?_)
    rw [List.append_assoc, ← hl] at hx1
    rw [if_neg (by rw [jv_le] <;> omega)]
    refine Wt.bind (Wt.of (putM hx1 (by rw [List.length_append]; omega) (by omega) (by omega))) (fun μ2 hx2 hf2 => ?_)
    rw [jv_neg, jv_add, show ((k + 1 : Nat) : Int) + -1 = (k : Int) by omega]
    refine ih f μ2 B (by omega) (by omega) (fun i hi => by rw [hf2.at _ _ (by omega), hf1.at _ _ (by omega)]; exact hc i hi) ?_ hB
    rw [if_pos (by omega), ← List.append_assoc]
    exact hx2
theorem plM4 (hn : 30 ≤ n) (hw : WB K R N fr) (hs : s < N) : ∀ (r f j : Nat) (μ : Mm) (B : List Int), (j : Int) + r = lev R s → r < f → LM μ R N → (∀ i : Nat, i < j → μ.1 313 i = jv (od R (anc R s i))) → Mx μ B → B.length + 20 ≤ 16000 → Wt Mx PM2 μ (sh_X12_putLabel_4 n (jv s) f (jv j) (jv (if (j : Int) < lev R s then ((anc R s j : Nat) : Int) else -1)) μ) (B ++ lab R s) := by
  have hN := hw.1.2.1
  have hL := (hw.sec hs).2.1
  have l1 : ln 311 = 24 := rfl
  have l2 : ln 312 = 24 := rfl
  have l3 : ln 313 = 4 := rfl
  intro r
  induction r with
  | zero =>
    intro f j μ B hj hf hl hc hx hB
    obtain ⟨f, rfl⟩ : ∃ g, f = g + 1 := ⟨f - 1, by omega⟩
    rw [sh_X12_putLabel_4, if_neg (by omega : ¬ (j : Int) < lev R s)]
    simp only [jv_lit]
    rw [if_pos (by rw [jv_neg]), nm_eq, jv_sub, show (j : Int) - 1 = ((j - 1 : Nat) : Int) by omega]
    refine (plM38 hn hw hs (j - 1) n μ B (by omega) (by omega) (fun i hi => hc i (by omega)) ?_ hB).mono PM_2
    rw [if_neg (by omega), List.append_nil]
    exact hx
  | succ r ih =>
    intro f j μ B hj hf hl hc hx hB
    obtain ⟨f, rfl⟩ : ∃ g, f = g + 1 := ⟨f - 1, by omega⟩
    have ha := anc_b hw hs j (by omega)
    have hh := hl (anc R s j) (by omega)
    rw [sh_X12_putLabel_4, if_pos (by omega : (j : Int) < lev R s)]
    simp only [jv_lit]
    rw [if_neg (by rw [jv_neg, jv_eq] <;> omega), ld_jv (by omega) (by omega), Option.bind_some, Int.toNat_natCast, hh.2, st_jv (by omega) (by omega), Option.bind_some, Int.toNat_natCast, ld_jv (by omega) (by omega), Option.bind_some, Int.toNat_natCast, sI_1, if_neg (by omega), hh.1, anc_step hw hs (by omega), jv_add, show (j : Int) + 1 = ((j + 1 : Nat) : Int) by omega]
    have hf1 : Fm PM2 μ (sI μ 313 j (jv (od R (anc R s j)))) := Fm.rf.sI (Or.inr (Or.inr rfl))
    obtain ⟨μ2, e2, x2, f2⟩ := ih f (j + 1) (sI μ 313 j (jv (od R (anc R s j)))) B (by omega) (by omega) (hl.kp hf1 (fun i => ⟨by omega, by omega⟩)) (fun i hi => by
      rw [sI_1]
      by_cases z : i = j
      · subst z
        rw [if_pos ⟨rfl, rfl⟩]
      · rw [if_neg (by omega)]
        exact hc i (by omega)) ⟨hx.1, by rw [sI_1, if_neg (by omega)]; exact hx.2.1, fun i hi => by rw [sI_1, if_neg (by omega)]; exact hx.2.2 i hi⟩ hB
    exact ⟨μ2, e2, x2, hf1.tr f2 (fun _ _ z => z)⟩
theorem plM (hn : 30 ≤ n) (hw : WB K R N fr) (hs : s < N) {μ : Mm} {B : List Int} (hl : LM μ R N) (hx : Mx μ B) (hB : B.length + 20 ≤ 16000) : Wr Mx PM2 μ B (sh_X12_putLabel n (jv s) μ) (lab R s) := by
  have hL := (hw.sec hs).2.1
  unfold sh_X12_putLabel
  rw [jv_lit (nat_lit 0)]
  have := plM4 (n := n) hn hw hs (lev R s).toNat n 0 μ B (by omega) (by omega) hl (fun i hi => absurd hi (by omega)) hx hB
  rw [if_pos (by omega)] at this
  exact this.to
theorem ptM (hn : 30 ≤ n) (hw : WB K R N fr) (hs : s < N) {w : Nat} (hww : (w : Int) < wct R s) {μ : Mm} {B : List Int} (hm : MB q μ R) (hl : LM μ R N) (hx : Mx μ B) (hB : B.length + 40 ≤ 16000) : Wr Mx PM2 μ B (sh_X12_putToken n (jv s) (jv w) μ) (tok R s w) := by
  have hN := hw.1.2.1
  have hc := (hw.sec hs).2.2.2
  have hwd := (hc.2.1 w hww).1
  have hlb := lab_b hw hs
  unfold sh_X12_putToken sh_X12_putToken_25 tok
  simp only [jv_lit]
  by_cases z : w = 0
  · rw [if_pos (by rw [z]; rfl), hm.oP (by omega), Option.bind_some]
    rcases hw.pb hs with ⟨a, b⟩ | ⟨a, b⟩
    · rw [if_neg (by rw [a, jv_eq] <;> omega), if_neg (fun y => by omega), List.nil_append]
      exact (pwM (by omega) (by omega) hwd (by omega) hm hx (by omega)).last.mono PM_2
    · rw [if_pos (by rw [a]), if_pos ⟨z, a⟩, List.append_assoc]
      refine Wr.bind (plM hn hw hs hl hx (by omega)) (fun μ1 hx1 hf1 => ?_)
      refine Wr.bind (S := [32]) ((putM hx1 (by rw [List.length_append]; omega) (by omega) (by omega)).mono PM_2) (fun μ2 hx2 hf2 => ?_)
      exact (pwM (by omega) (by omega) hwd (by omega) ((hm.fr hf1 (fun i _ y => by rcases hm.1 with rfl | rfl <;> omega)).fr hf2 (fun i _ y => by rcases hm.1 with rfl | rfl <;> omega)) hx2 (by rw [len1, List.length_append]; omega)).last.mono PM_2
  · rw [if_neg (by rw [jv_eq] <;> omega), if_neg (fun y => z y.1), List.nil_append]
    exact (pwM (by omega) (by omega) hwd (by omega) hm hx (by omega)).last.mono PM_2
theorem Mx0 {μ : Mm} : Mx (sI μ 306 17 (jv 0)) [] := ⟨Nat.zero_le _, by rw [sI_1, if_pos ⟨rfl, rfl⟩]; rfl, fun i hi => absurd hi (by show ¬ i < 0; omega)⟩
theorem twkM (hn : 16001 ≤ n) (hw : WB K R N fr) (hs : s < N) {w : Nat} (hww : (w : Int) < wct R s) {μ : Mm} (hm : MB q μ R) (hl : LM μ R N) : ∃ μ1, sh_X12_tokenWidth n (jv s) (jv w) μ = some (jv (tokW R s w), μ1) ∧ Fm PM2 μ μ1 := by
  unfold sh_X12_tokenWidth
  simp only [jv_lit]
  rw [pt_eq, Option.bind_some]
  have hf0 : Fm PM2 μ (sI μ 306 17 (jv 0)) := Fm.rf.sI (Or.inl ⟨rfl, rfl⟩)
  obtain ⟨μ1, e1, x1, f1⟩ := ptM (n := n) (by omega) hw hs hww (hm.fr hf0 (fun i _ y => by rcases hm.1 with rfl | rfl <;> omega)) (hl.kp hf0 (fun i => ⟨by omega, by omega⟩)) Mx0 (by show 0 + 40 ≤ 16000; omega)
  rw [List.nil_append] at x1
  refine ⟨μ1, ?_, hf0.tr f1 (fun _ _ z => z)⟩
  rw [e1, Option.bind_some, tw (by omega) (okT_tok hw hs hww).get x1, Option.bind_some]
  rfl
end TOK
section CLT
variable {n m kb tx : Nat} {R : Nat → Int} {K : Int} {N fr s : Nat}
theorem oa13 {μ : Mm} (hm : ME m μ R N) (hw : WB K R N fr) (hs : s < N) {i : Nat} (hi : 1 ≤ i) : ∀ (r f j : Nat), (i : Int) + r + j = lev R s → r < f → sh_X2_ordinalAt_13 n m kb (jv s) (jv i) μ f (jv ((anc R s j : Nat) : Int)) (jv (lev R s - j)) = some (jv (od R (anc R s (j + r)))) := by
  have hN := hw.1.2.1
  have hL := (hw.sec hs).2.1
  have l1 : ln (m + 1 + 1) = 24 := hm.1.1
  have l3 : ln (m + 5 + 1) = 24 := hm.1.2.2.1
  intro r
  induction r with
  | zero =>
    intro f j hj hf
    obtain ⟨f, rfl⟩ : ∃ g, f = g + 1 := ⟨f - 1, by omega⟩
    have ha := anc_b hw hs j (by omega)
    rw [sh_X2_ordinalAt_13, if_pos (by rw [jv_le] <;> omega), a5_in (by omega) (by omega), Option.bind_some, Int.toNat_natCast, Nat.add_zero]
    exact congrArg some (hm.2 (anc R s j) (by omega)).2.2.1
  | succ r ih =>
    intro f j hj hf
    obtain ⟨f, rfl⟩ : ∃ g, f = g + 1 := ⟨f - 1, by omega⟩
    have ha := anc_b hw hs j (by omega)
    have hst := anc_step hw hs (j := j) (by omega)
    rw [if_pos (by omega)] at hst
    rw [sh_X2_ordinalAt_13, if_neg (by rw [jv_le] <;> omega), a5_in (by omega) (by omega), Option.bind_some, Int.toNat_natCast, show m + 1 + 1 = m + 2 from rfl, (hm.2 (anc R s j) (by omega)).1, hst, jv_lit (nat_lit 1), jv_neg, jv_add]
    have := ih f (j + 1) (by omega) (by omega)
    rw [show lev R s - (j : Int) + -1 = lev R s - ((j + 1 : Nat) : Int) by omega, this, show j + 1 + r = j + (r + 1) by omega]
theorem oa8 {μ : Mm} (hn : 30 ≤ n) (hm : ME m μ R N) (hb : CB kb μ R N fr) (hw : WB K R N fr) (hs : s < N) {i : Nat} (hi : 1 ≤ i) (hi2 : (i : Int) ≤ lev R s) : sh_X2_ordinalAt n m kb (jv s) (jv i) μ = some (jv (od R (anc R s (lev R s - i).toNat))) := by
  have hL := (hw.sec hs).2.1
  unfold sh_X2_ordinalAt
  rw [hb.lv hw hs, Option.bind_some]
  have := oa13 (n := n) (kb := kb) hm hw hs hi (lev R s - i).toNat n 0 (by omega) (by omega)
  rw [Nat.zero_add, show lev R s - ((0 : Nat) : Int) = lev R s by omega] at this
  exact this
theorem tl3 (hn : 30 ≤ n) (hw : WB K R N fr) (hs : s < N) (hd1 : tx + 1 < m + 1 ∨ m + 14 ≤ tx) (hd2 : tx + 1 < kb ∨ kb + 13 ≤ tx) (hcap : 60 ≤ ln (tx + 1)) : ∀ (r f i : Nat) (μ : Mm) (B : List Int), 1 ≤ i → (i : Int) + r = lev R s + 1 → r < f → ME (m + 1) μ R N → CB kb μ R N fr → Tx tx μ (B ++ if i = 1 then [] else lab R (anc R s (lev R s + 1 - i).toNat)) → B.length + 20 ≤ ln (tx + 1) → Wt (Tx tx) (PT tx) μ (sh_X1_typeLabel_3 n m tx kb (jv s) f (jv i) μ) (B ++ lab R s ++ [32]) := by
  have hN := hw.1.2.1
  have hL := (hw.sec hs).2.1
  intro r
  induction r with
  | zero =>
    intro f i μ B h1 hi hf hm hb hx hB
    obtain ⟨f, rfl⟩ : ∃ g, f = g + 1 := ⟨f - 1, by omega⟩
    have hl := lab_b hw hs
    rw [sh_X1_typeLabel_3, hb.lv hw hs, Option.bind_some, if_pos (by rw [jv_lt] <;> omega), jv_lit (nat_lit 32)]
    rw [if_neg (by omega), show (lev R s + 1 - (i : Int)).toNat = 0 by omega] at hx
    have hx' : Tx tx μ (B ++ lab R s) := hx
    exact Wt.of (put8 hx' (by rw [List.length_append]; omega) (by omega) (by omega)).last
  | succ r ih =>
    intro f i μ B h1 hi hf hm hb hx hB
    obtain ⟨f, rfl⟩ : ∃ g, f = g + 1 := ⟨f - 1, by omega⟩
    have hj : (((lev R s - i).toNat : Nat) : Int) < lev R s := by omega
    have ha := anc_b hw hs (lev R s - i).toNat hj
    have hla := lab_anc hw hs hj
    have hod := od_b R (anc R s (lev R s - i).toNat)
    have hlb := lab_b hw (s := anc R s (lev R s - i).toNat) (by omega)
    have hP : ∀ (μ1 : Mm), Fm (PT tx) μ μ1 → ME (m + 1) μ1 R N ∧ CB kb μ1 R N fr := fun μ1 hf1 => ⟨hm.fr hf1 (fun q j a b z => by omega), hb.fr hf1 (fun q j a b z => by omega)⟩
    have h28 : ∀ (μ1 : Mm), Fm (PT tx) μ μ1 → Tx tx μ1 (B ++ if (((lev R s - i).toNat : Nat) : Int) + 1 < lev R s then lab R (anc R s ((lev R s - i).toNat + 1)) ++ [46] else []) → Wt (Tx tx) (PT tx) μ1 (sh_X1_typeLabel_28 n m tx kb (jv s) (fun (x4 : Int32) (μ : Mm) => sh_X1_typeLabel_3 n m tx kb (jv s) f x4 μ) (jv i) μ1) (B ++ lab R s ++ [32]) := by
      intro μ1 hf1 hx1
      obtain ⟨hm1, hb1⟩ := hP μ1 hf1
      have hlen : (B ++ if (((lev R s - i).toNat : Nat) : Int) + 1 < lev R s then lab R (anc R s ((lev R s - i).toNat + 1)) ++ [46] else []).length + 4 ≤ ln (tx + 1) := by
        rw [List.length_append]
        split
        · next q => rw [len1]; have := lab_b hw (s := anc R s ((lev R s - i).toNat + 1)) (by have := anc_b hw hs ((lev R s - i).toNat + 1) (by omega); omega); omega
        · show _ + 0 + 4 ≤ _; omega
      unfold sh_X1_typeLabel_28
      rw [oa8 hn hm1 hb1 hw hs h1 (by omega), Option.bind_some]
      refine Wt.bind (Wt.of (ar8 (by omega) (by omega) (by omega) hx1 hlen)) (fun μ2 hx2 hf2 => ?_)
      rw [List.append_assoc, ← hla] at hx2
      rw [jv_lit (nat_lit 1), jv_add]
      have hm2 := hm1.fr hf2 (fun q j a b z => by omega)
      have hb2 := hb1.fr hf2 (fun q j a b z => by omega)
      refine ih f (i + 1) μ2 B (by omega) (by omega) (by omega) hm2 hb2 ?_ hB
      rw [if_neg (by omega), show (lev R s + 1 - ((i + 1 : Nat) : Int)).toNat = (lev R s - i).toNat by omega]
      exact hx2
    rw [sh_X1_typeLabel_3, hb.lv hw hs, Option.bind_some, if_neg (by rw [jv_lt] <;> omega)]
    by_cases z : i = 1
    · rw [if_pos (by rw [jv_lit (nat_lit 1), jv_le] <;> omega)]
      refine h28 μ Fm.rf ?_
      rw [if_neg (by omega)]
      rw [if_pos z] at hx
      exact hx
    · rw [if_neg (by rw [jv_lit (nat_lit 1), jv_le] <;> omega), jv_lit (nat_lit 46)]
      rw [if_neg z, show (lev R s + 1 - (i : Int)).toNat = (lev R s - i).toNat + 1 by omega] at hx
      have hlb2 := lab_b hw (s := anc R s ((lev R s - i).toNat + 1)) (by have := anc_b hw hs ((lev R s - i).toNat + 1) (by omega); omega)
      refine Wt.bind (Wt.of (put8 hx (by rw [List.length_append]; omega) (by omega) (by omega))) (fun μ1 hx1 hf1 => ?_)
      refine h28 μ1 hf1 ?_
      rw [if_pos (by omega), ← List.append_assoc]
      exact hx1
theorem tl8 (hn : 30 ≤ n) (hw : WB K R N fr) (hs : s < N) (hd1 : tx + 1 < m + 1 ∨ m + 14 ≤ tx) (hd2 : tx + 1 < kb ∨ kb + 13 ≤ tx) {μ : Mm} {B : List Int} (hm : ME (m + 1) μ R N) (hb : CB kb μ R N fr) (hx : Tx tx μ B) (hB : B.length + 60 ≤ ln (tx + 1)) : Wr (Tx tx) (PT tx) μ B (sh_X1_typeLabel n m tx kb (jv s) μ) (lab R s ++ [32]) := by
  have hL := (hw.sec hs).2.1
  unfold sh_X1_typeLabel
  rw [jv_lit (nat_lit 1)]
  have := tl3 (n := n) hn hw hs hd1 hd2 (by omega) (lev R s).toNat n 1 μ B (by omega) (by omega) (by omega) hm hb (by rw [if_pos rfl, List.append_nil]; exact hx) (by omega)
  rw [List.append_assoc] at this
  exact this.to
end CLT
