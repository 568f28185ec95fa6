/-! SIGNS that end no line -/
def okU (L : List Int) : Prop := ∀ c ∈ L, 32 ≤ c ∧ c ≤ 122
theorem okU.get {L : List Int} (h : okU L) : ∀ i, i < L.length → -128 ≤ L.getD i 0 ∧ L.getD i 0 ≤ 127 := by
  intro i hi
  rw [List.getD_eq_getElem?_getD, List.getElem?_eq_getElem hi]
  have := h _ (List.getElem_mem hi)
  show -128 ≤ L[i] ∧ L[i] ≤ 127
  omega
theorem okU.app {L M : List Int} (h : okU L) (h2 : okU M) : okU (L ++ M) := fun c hc => (List.mem_append.mp hc).elim (h c) (h2 c)
theorem okU.nil : okU [] := fun c hc => absurd hc List.not_mem_nil
theorem okU.cons {c : Int} {L : List Int} (h : 32 ≤ c ∧ c ≤ 122) (h2 : okU L) : okU (c :: L) := fun d hd => by
  rcases List.mem_cons.mp hd with rfl | q
  · exact h
  · exact h2 d q
theorem okU.rep {c : Int} {k : Nat} (h : 32 ≤ c ∧ c ≤ 122) : okU (List.replicate k c) := fun d hd => by
  rw [(List.mem_replicate.mp hd).2]
  exact h
theorem okU_ar {v : Int} : okU (ar v) := by
  intro c hc
  unfold ar arN at hc
  split at hc
  · simp only [dgl, List.mem_cons, List.not_mem_nil, or_false] at hc; omega
  · split at hc
    · simp only [dgl, List.mem_cons, List.not_mem_nil, or_false] at hc; omega
    · split at hc <;> simp only [dgl, List.mem_cons, List.not_mem_nil, or_false] at hc <;> omega
theorem okU_rof {d a b c : Int} (ha : 32 ≤ a ∧ a ≤ 122) (hb : 32 ≤ b ∧ b ≤ 122) (hc : 32 ≤ c ∧ c ≤ 122) : okU (rof d a b c) := by
  unfold rof
  split
  · exact okU.cons ha (okU.cons hc okU.nil)
  · split
    · exact okU.cons ha (okU.cons hb okU.nil)
    · split
      · exact okU.nil.app (okU.rep ha)
      · exact (okU.cons hb okU.nil).app (okU.rep ha)
theorem okU_ro {v : Int} : okU (ro v) := (okU.rep (by omega)).app ((okU_rof (by omega) (by omega) (by omega)).app ((okU_rof (by omega) (by omega) (by omega)).app (okU_rof (by omega) (by omega) (by omega))))
theorem okU_lwF {l : Nat → Int} (h : okL l) : ∀ (f p : Nat), p + f = 12 → okU (lwF l f p) := by
  intro f
  induction f with
  | zero => intro p _; exact okU.nil
  | succ f ih =>
    intro p hp
    have := h p (by omega)
    rw [lwF]
    split
    · exact okU.nil
    · exact okU.cons (by omega) (ih (p + 1) (by omega))
theorem okU_lw {l : Nat → Int} (h : okL l) : okU (lw l) := okU_lwF h 12 0 rfl
theorem okU_lab (R : Nat → Int) : ∀ (f s : Nat), s < f → okU (lab R s) := by
  intro f
  induction f with
  | zero => intro s h; omega
  | succ f ih =>
    intro s hs
    have := pr_b R s
    rw [lab_eq]
    refine okU.app ?_ okU_ar
    split
    · exact okU.nil
    · exact (ih _ (by omega)).app (okU.cons (by omega) okU.nil)
section TKU
variable {n q : Nat} {R : Nat → Int} {K : Int} {N fr s : Nat}
theorem okU_tok (hw : WB K R N fr) (hs : s < N) {w : Nat} (hww : (w : Int) < wct R s) : okU (tok R s w) := by
  unfold tok
  refine okU.app ?_ (okU_lw ((hw.sec hs).2.2.2.2.1 w hww).1)
  split
  · exact (okU_lab R (s + 1) s (by omega)).app (okU.cons (by omega) okU.nil)
  · exact okU.nil
theorem okU_tkT (hw : WB K R N fr) {e : Nat} (he : e < N) (a : Nat) : ∀ k : Nat, ((a + k : Nat) : Int) ≤ wct R e → okU (tkT R e a k) := by
  intro k
  induction k with
  | zero => intro _; exact okU.nil
  | succ k ih =>
    intro h
    rw [tkT]
    refine (ih (by omega)).app (okU.app ?_ (okU_tok hw he (by omega)))
    split
    · exact okU.nil
    · exact okU.cons (by omega) okU.nil
theorem okU_prn (R : Nat → Int) (tp : Int) (e : Nat) : okU (prn R tp e) := by
  unfold prn
  split
  · exact okU_ro
  · exact okU_ar
/-- a line is its signs and its end -/
theorem ln_body (hw : WB 500 R N fr) {i : Nat} (hi : i < (TB R (tpF R N) N N).1) : ∃ b, (10 : Int) ∉ b ∧ lnT R (tpF R N) N i = b ++ [10] := by
  have h0 := tpF_b hw (by omega)
  obtain ⟨e, hE⟩ := LF.ex hw (by omega) h0 hi
  have h8 := hE.2.2.2.2.1
  have hU : okU (List.replicate ((TB R (tpF R N) N N).2 1 i).toNat 32 ++ (tkT R e ((TB R (tpF R N) N N).2 4 i).toNat ((TB R (tpF R N) N N).2 3 i).toNat ++ endT R (tpF R N) N e i)) := by
    refine (okU.rep (by omega)).app ((okU_tkT hw hE.1.1 _ _ (by omega)).app ?_)
    unfold endT
    split
    · exact okU.cons (by omega) ((okU.rep (by omega)).app (okU.cons (by omega) (okU_prn R (tpF R N) e)))
    · exact okU.nil
  refine ⟨List.replicate ((TB R (tpF R N) N N).2 1 i).toNat 32 ++ (tkT R e ((TB R (tpF R N) N N).2 4 i).toNat ((TB R (tpF R N) N N).2 3 i).toNat ++ endT R (tpF R N) N e i), fun q => ?_, ?_⟩
  · have := (hU 10 q).1
    omega
  · unfold lnT
    rw [hE.2.1, Int.toNat_natCast, List.append_assoc, List.append_assoc]
/-- ranges of lines alike: as many lines, one by one alike -/
theorem lns_iff {R' : Nat → Int} {N' fr' : Nat} (hw : WB 500 R N fr) (hw' : WB 500 R' N' fr') : ∀ (c d a b : Nat), a + c ≤ (TB R (tpF R N) N N).1 → b + d ≤ (TB R' (tpF R' N') N' N').1 → (lnsT R (tpF R N) N a c = lnsT R' (tpF R' N') N' b d ↔ c = d ∧ ∀ j, j < c → lnT R (tpF R N) N (a + j) = lnT R' (tpF R' N') N' (b + j)) := by
  have one : ∀ (Q : Nat → Int) (tp : Int) (M x k : Nat), lnsT Q tp M x (k + 1) = lnT Q tp M x ++ lnsT Q tp M (x + 1) k := by
    intro Q tp M x k
    have h := lnsT_app (R := Q) (tp := tp) (N := M) x k 1
    rw [Nat.add_comm 1 k] at h
    rw [h, lnsT, lnsT, List.nil_append, Nat.add_zero]
  intro c
  induction c with
  | zero =>
    intro d a b h1 h2
    cases d with
    | zero => exact ⟨fun _ => ⟨rfl, fun j h => absurd h (by omega)⟩, fun _ => rfl⟩
    | succ d =>
      constructor
      · intro h
        exfalso
        obtain ⟨bd, _, e⟩ := ln_body hw' (i := b) (by omega)
        rw [one, e, lnsT] at h
        have := congrArg List.length h
        simp at this
      · intro h
        exact absurd h.1 (by omega)
  | succ c ih =>
    intro d a b h1 h2
    obtain ⟨b1, n1, e1⟩ := ln_body hw (i := a) (by omega)
    cases d with
    | zero =>
      constructor
      · intro h
        exfalso
        rw [one, e1, lnsT] at h
        have := congrArg List.length h
        simp at this
      · intro h
        exact absurd h.1 (by omega)
    | succ d =>
      obtain ⟨b2, n2, e2⟩ := ln_body hw' (i := b) (by omega)
      have ih1 := ih d (a + 1) (b + 1) (by omega) (by omega)
      rw [one, one]
      constructor
      · intro h
        rw [e1, e2, List.append_assoc, List.append_assoc] at h
        obtain ⟨x1, x2⟩ := spl b1 b2 _ _ n1 n2 h
        obtain ⟨y1, y2⟩ := ih1.mp x2
        refine ⟨by omega, fun j hj => ?_⟩
        cases j with
        | zero => rw [Nat.add_zero, Nat.add_zero, e1, e2, x1]
        | succ j =>
          have := y2 j (by omega)
          rw [show a + (j + 1) = a + 1 + j by omega, show b + (j + 1) = b + 1 + j by omega]
          exact this
      · intro ⟨h3, h4⟩
        have h5 := h4 0 (by omega)
        rw [Nat.add_zero, Nat.add_zero] at h5
        rw [h5, ih1.mpr ⟨by omega, fun j hj => by
          have := h4 (j + 1) (by omega)
          rw [show a + (j + 1) = a + 1 + j by omega, show b + (j + 1) = b + 1 + j by omega] at this
          exact this⟩]
end TKU
