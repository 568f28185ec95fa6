/-! WORDS: twelve places of letters, packed by the class five bits a letter; the first rows are the kit's laws, pasted -/
theorem wb_c : ∀ k, k < 64 → ((nI k).toInt64 &&& 63) = lN k := by decide +kernel
theorem wb_inj {a b : Int64} (h : a.toBitVec = b.toBitVec) : a = b := Int64.toBitVec_inj.mp h
theorem wb_tb (n : Nat) : (lN n).toBitVec = BitVec.ofNat 64 n := rfl
theorem wb_sm : ∀ k, k < 64 → (BitVec.ofNat 64 k).smod 64 = BitVec.ofNat 64 k := by decide +kernel
theorem wb_shl (n : Nat) {k : Nat} (hk : k < 64) : lN n <<< ((nI k).toInt64 &&& 63) = lN (n * 2 ^ k) := by
  rw [wb_c k hk]
  apply wb_inj
  rw [Int64.toBitVec_shiftLeft, wb_tb, wb_tb, wb_tb, wb_sm k hk]
  apply BitVec.eq_of_toNat_eq
  rw [BitVec.shiftLeft_eq', BitVec.toNat_shiftLeft, BitVec.toNat_ofNat, BitVec.toNat_ofNat, BitVec.toNat_ofNat, Nat.mod_eq_of_lt (show k < 2 ^ 64 by omega), Nat.shiftLeft_eq, Nat.mul_mod, Nat.mod_mod, ← Nat.mul_mod]
theorem fb_orL (a b : Nat) : lN a ||| lN b = lN (a ||| b) := by
  apply Int64.toBitVec_inj.1
  show BitVec.ofNat 64 a ||| BitVec.ofNat 64 b = BitVec.ofNat 64 (a ||| b)
  apply BitVec.eq_of_getLsbD_eq
  intro i hi
  simp [hi]
theorem fb_or_sumL {a k : Nat} (b : Nat) (h : a < 2 ^ k) : lN (2 ^ k * b) ||| lN a = lN (2 ^ k * b + a) := by rw [fb_orL, Nat.two_pow_add_eq_or_of_lt h]
theorem pf_lI {a : Nat} (h : a < 2 ^ 63) : (lN a).toInt = (a : Int) := lg_ofNat_toInt h
theorem pf_shr {a d : Nat} {D : Int64} (hD : (D.toBitVec.smod 64).toNat = d) (h : a < 2 ^ 62) : lN a >>> D = lN (a / 2 ^ d) := by
  have hd : a / 2 ^ d ≤ a := Nat.div_le_self _ _
  apply Int64.toInt_inj.mp
  have e : (lN a >>> D).toInt = (lN a).toInt >>> d := by
    rw [← hD]
    exact BitVec.toInt_sshiftRight ..
  rw [e, Int.shiftRight_eq_div_pow, pf_lI (by omega), pf_lI (by omega)]
  rfl
theorem tw12 {p : Nat} (h : p < 12) : p = 0 ∨ p = 1 ∨ p = 2 ∨ p = 3 ∨ p = 4 ∨ p = 5 ∨ p = 6 ∨ p = 7 ∨ p = 8 ∨ p = 9 ∨ p = 10 ∨ p = 11 := by omega
def dig (c : Int) : Nat := if c = 0 then 0 else (c - 96).toNat
def pkn (l : Nat → Int) : Nat := 36028797018963968 * dig (l 0) + 1125899906842624 * dig (l 1) + 35184372088832 * dig (l 2) + 1099511627776 * dig (l 3) + 34359738368 * dig (l 4) + 1073741824 * dig (l 5) + 33554432 * dig (l 6) + 1048576 * dig (l 7) + 32768 * dig (l 8) + 1024 * dig (l 9) + 32 * dig (l 10) + dig (l 11)
def pk (l : Nat → Int) : Int64 := lN (pkn l)
def okL (l : Nat → Int) : Prop := ∀ p, p < 12 → l p = 0 ∨ 97 ≤ l p ∧ l p ≤ 122
theorem dig_b {l : Nat → Int} (h : okL l) {p : Nat} (hp : p < 12) : dig (l p) ≤ 26 ∧ (l p = 0 → dig (l p) = 0) ∧ (l p ≠ 0 → (dig (l p) : Int) = l p - 96 ∧ 1 ≤ dig (l p)) := by
  have := h p hp
  unfold dig
  split <;> omega
theorem sh64 : ∀ k, k < 64 → (((nI k).toInt64 &&& 63).toBitVec.smod 64).toNat = k := by decide +kernel
theorem pkn_b {l : Nat → Int} (h : okL l) : pkn l < 1152921504606846976 := by
  have h0 := (dig_b h (p := 0) (by omega)).1
  have h1 := (dig_b h (p := 1) (by omega)).1
  have h2 := (dig_b h (p := 2) (by omega)).1
  have h3 := (dig_b h (p := 3) (by omega)).1
  have h4 := (dig_b h (p := 4) (by omega)).1
  have h5 := (dig_b h (p := 5) (by omega)).1
  have h6 := (dig_b h (p := 6) (by omega)).1
  have h7 := (dig_b h (p := 7) (by omega)).1
  have h8 := (dig_b h (p := 8) (by omega)).1
  have h9 := (dig_b h (p := 9) (by omega)).1
  have h10 := (dig_b h (p := 10) (by omega)).1
  have h11 := (dig_b h (p := 11) (by omega)).1
  unfold pkn
  omega
theorem pkn_dig {l : Nat → Int} (h : okL l) {p : Nat} (hp : p < 12) : pkn l / 2 ^ (55 - 5 * p) % 32 = dig (l p) := by
  have h0 := (dig_b h (p := 0) (by omega)).1
  have h1 := (dig_b h (p := 1) (by omega)).1
  have h2 := (dig_b h (p := 2) (by omega)).1
  have h3 := (dig_b h (p := 3) (by omega)).1
  have h4 := (dig_b h (p := 4) (by omega)).1
  have h5 := (dig_b h (p := 5) (by omega)).1
  have h6 := (dig_b h (p := 6) (by omega)).1
  have h7 := (dig_b h (p := 7) (by omega)).1
  have h8 := (dig_b h (p := 8) (by omega)).1
  have h9 := (dig_b h (p := 9) (by omega)).1
  have h10 := (dig_b h (p := 10) (by omega)).1
  have h11 := (dig_b h (p := 11) (by omega)).1
  unfold pkn
  rcases tw12 hp with rfl | rfl | rfl | rfl | rfl | rfl | rfl | rfl | rfl | rfl | rfl | rfl <;> simp only [Nat.reduceMul, Nat.reduceSub, Nat.reducePow] <;> omega
theorem lo_N {N k : Nat} (hk : k < 64) (h : N < 2 ^ 62) : ((lN N >>> ((nI k).toInt64 &&& 63)).toInt32 &&& 31 : Int32) = nI (N / 2 ^ k % 32) := by
  rw [pf_shr (sh64 k hk) h, lN_i, pk_and _ 5 (by decide)]
  congr 1
  show (BitVec.ofNat 32 (N / 2 ^ k)).toNat % 2 ^ 5 = _
  rw [BitVec.toNat_ofNat]
  omega
theorem lo_jv {l : Nat → Int} (h : okL l) {p : Nat} (hp : p < 12) {μ : Mm} : sh_X9_letterOf (pk l) (jv p) μ = some (jv (dig (l p))) := by
  have hb := pkn_b h
  unfold sh_X9_letterOf
  rw [show (55 : Int32) - (5 : Int32) * jv p = nI (55 - 5 * p) by rw [jv_nI]; simp only [jv_lit]; rw [jv_mul, jv_sub]; congr 1; omega]
  unfold pk
  rw [lo_N (by omega) (by omega), pkn_dig h hp, jv_nI]
def lwF (l : Nat → Int) : Nat → Nat → List Int
  | 0, _ => []
  | f + 1, p => if l p = 0 then [] else l p :: lwF l f (p + 1)
def lw (l : Nat → Int) : List Int := lwF l 12 0
theorem lwF_len (l : Nat → Int) : ∀ (f p : Nat), (lwF l f p).length ≤ f := by
  intro f
  induction f with
  | zero => intro p; exact Nat.le_refl _
  | succ f ih =>
    intro p
    rw [lwF]
    split
    · exact Nat.zero_le _
    · rw [List.length_cons]
      have := ih (p + 1)
      omega
theorem pw8_l {n t : Nat} {l : Nat → Int} (h : okL l) : ∀ (k f p : Nat) (μ : Mm) (L : List Int), Tx t μ L → p + k = 12 → L.length + k ≤ ln (t + 1) → k < f → Wr (Tx t) (PT t) μ L (sh_X8_putWord_2 n t (pk l) f (jv p) μ) (lwF l k p) := by
  intro k
  induction k with
  | zero =>
    intro f p μ L hx hp hl hf
    obtain ⟨f, rfl⟩ : ∃ g, f = g + 1 := ⟨f - 1, by omega⟩
    rw [sh_X8_putWord_2, if_pos (by rw [jv_lit (nat_lit 12), jv_le] <;> omega)]
    exact Wr.nil hx
  | succ k ih =>
    intro f p μ L hx hp hl hf
    obtain ⟨f, rfl⟩ : ∃ g, f = g + 1 := ⟨f - 1, by omega⟩
    have hd := dig_b h (p := p) (by omega)
    have hc := h p (by omega)
    rw [sh_X8_putWord_2, if_neg (by rw [jv_lit (nat_lit 12), jv_le] <;> omega), lo_jv h (by omega), Option.bind_some, lwF]
    by_cases q : l p = 0
    · rw [if_pos (by rw [hd.2.1 q]; rfl), if_pos q]
      exact Wr.nil hx
    · rw [if_neg (by rw [jv_lit (nat_lit 0), jv_eq] <;> omega), if_neg q, Option.bind_some, jv_lit (nat_lit 96), jv_add, (hd.2.2 q).1, show (96 : Int) + (l p - 96) = l p by omega]
      refine Wr.bind (S := [l p]) (put8 hx (by omega) (by omega) (by omega)) (fun μ1 hx1 hf1 => ?_)
      rw [jv_lit (nat_lit 1), jv_add]
      exact ih f (p + 1) μ1 _ hx1 (by omega) (by rw [len1]; omega) (by omega)
theorem pw8 {n t : Nat} {l : Nat → Int} (h : okL l) {μ : Mm} {L : List Int} (hn : 13 ≤ n) (hx : Tx t μ L) (hl : L.length + 12 ≤ ln (t + 1)) : Wr (Tx t) (PT t) μ L (sh_X8_putWord n t (pk l) μ) (lw l) := by
  unfold sh_X8_putWord
  rw [jv_lit (nat_lit 0)]
  exact pw8_l h 12 n 0 μ L hx (by omega) hl (by omega)
theorem ww_l {n : Nat} {l : Nat → Int} (h : okL l) {μ : Mm} : ∀ (k f p : Nat) (a : Int), p + k = 12 → k < f → sh_X9_widthOf_4 n (pk l) μ f (jv a) (jv p) = some (jv (a + wsum (lwF l k p))) := by
  intro k
  induction k with
  | zero =>
    intro f p a hp hf
    obtain ⟨f, rfl⟩ : ∃ g, f = g + 1 := ⟨f - 1, by omega⟩
    rw [sh_X9_widthOf_4, if_pos (by rw [jv_lit (nat_lit 12), jv_le] <;> omega), lwF, wsum_nil, Int.add_zero]
  | succ k ih =>
    intro f p a hp hf
    obtain ⟨f, rfl⟩ : ∃ g, f = g + 1 := ⟨f - 1, by omega⟩
    have hd := dig_b h (p := p) (by omega)
    have hc := h p (by omega)
    rw [sh_X9_widthOf_4, if_neg (by rw [jv_lit (nat_lit 12), jv_le] <;> omega), lo_jv h (by omega), Option.bind_some, lwF]
    by_cases q : l p = 0
    · rw [if_pos (by rw [hd.2.1 q]; rfl), if_pos q, wsum_nil, Int.add_zero]
    · rw [if_neg (by rw [jv_lit (nat_lit 0), jv_eq] <;> omega), if_neg q, Option.bind_some, jv_lit (nat_lit 96), jv_add, (hd.2.2 q).1, show (96 : Int) + (l p - 96) = l p by omega, sw_jv (by omega) (by omega), Option.bind_some, nm_eq, jv_lit (nat_lit 1), jv_add, jv_add, wsum_cons, ← Int.add_assoc]
      exact ih f (p + 1) _ (by omega) (by omega)
theorem ww8 {n : Nat} {l : Nat → Int} (h : okL l) {μ : Mm} (hn : 13 ≤ n) : sh_X9_widthOf n (pk l) μ = some (jv (wsum (lw l))) := by
  unfold sh_X9_widthOf
  rw [jv_lit (nat_lit 0)]
  have := ww_l (n := n) h (μ := μ) 12 n 0 0 (by omega) (by omega)
  rw [Int.zero_add] at this
  exact this
/-! THE BOOK: as the model's row has it, in integers -/
def bk (R : Nat → Int) (s w : Nat) : Int := R (12 + 102 * s + w)
def lt (R : Nat → Int) (s w : Nat) : Nat → Int := fun k => R (12 + 102 * s + (6 + (12 * w + k)))
def MB (q : Nat) (μ : Mm) (R : Nat → Int) : Prop := (q = 307 ∨ q = 308) ∧ μ.2.2 0 = q ∧ ∀ i, i < 2460 → μ.1 q i = jv (R i)
theorem MB.ln {q : Nat} {μ : Mm} {R : Nat → Int} (h : MB q μ R) : 2460 ≤ ln q := by
  rcases h.1 with rfl | rfl
  · exact Nat.le_of_ble_eq_true rfl
  · exact Nat.le_of_ble_eq_true rfl
theorem MB.fr {q : Nat} {μ μ' : Mm} {R : Nat → Int} {P : Nat → Nat → Prop} (h : MB q μ R) (hf : Fm P μ μ') (hp : ∀ i, i < 2460 → ¬ P q i) : MB q μ' R := ⟨h.1, by rw [hf.1]; exact h.2.1, fun i hi => by rw [hf.2 q i (hp i hi)]; exact h.2.2 i hi⟩
theorem MB.rd {q : Nat} {μ : Mm} {R : Nat → Int} (h : MB q μ R) {a : Int} (i : Nat) (e : a = i) (hi : i < 2460) : ld μ (μ.2.2 0) (jv a) = some (jv (R i)) := by
  have := h.ln
  subst e
  rw [h.2.1, ld_jv (by omega) (by omega), Int.toNat_natCast, h.2.2 i hi]
theorem MB.of {q : Nat} {μ : Mm} {R : Nat → Int} (h : MB q μ R) {s w : Nat} (hs : s < 24) (hw : w < 102) : sh_X12_of (jv s) (jv w) μ = some (jv (bk R s w)) := by
  unfold sh_X12_of
  simp only [jv_lit]
  rw [jv_mul, jv_add, jv_add, h.rd (12 + 102 * s + w) (by omega) (by omega)]
  rfl
theorem MB.lt {q : Nat} {μ : Mm} {R : Nat → Int} (h : MB q μ R) {s w k : Nat} (hs : s < 24) (hw : w < 8) (hk : k < 12) : sh_X12_letterOf (jv s) (jv w) (jv k) μ = some (jv (lt R s w k)) := by
  unfold sh_X12_letterOf
  simp only [jv_lit]
  rw [jv_mul, jv_add, jv_add, show (6 : Int) + 12 * (w : Int) + (k : Int) = ((6 + (12 * w + k) : Nat) : Int) by omega, h.of hs (by omega)]
  rfl
theorem pwM_l {n q s w : Nat} {R : Nat → Int} (hs : s < 24) (hw : w < 8) (h : okL (lt R s w)) : ∀ (k f p : Nat) (μ : Mm) (L : List Int), MB q μ R → Mx μ L → p + k = 12 → L.length + k ≤ 16000 → k < f → Wr Mx PM μ L (sh_X12_putWord_2 n (jv s) (jv w) f (jv p) μ) (lwF (lt R s w) k p) := by
  intro k
  induction k with
  | zero =>
    intro f p μ L hm hx hp hl hf
    obtain ⟨f, rfl⟩ : ∃ g, f = g + 1 := ⟨f - 1, by omega⟩
    rw [sh_X12_putWord_2, if_pos (by rw [jv_lit (nat_lit 12), jv_le] <;> omega)]
    exact Wr.nil hx
  | succ k ih =>
    intro f p μ L hm hx hp hl hf
    obtain ⟨f, rfl⟩ : ∃ g, f = g + 1 := ⟨f - 1, by omega⟩
    have hc := h p (by omega)
    rw [sh_X12_putWord_2, if_neg (by rw [jv_lit (nat_lit 12), jv_le] <;> omega), hm.lt hs hw (by omega), Option.bind_some, lwF]
    by_cases q : lt R s w p = 0
    · rw [if_pos (by rw [q]; rfl), if_pos q]
      exact Wr.nil hx
    · rw [if_neg (by rw [jv_lit (nat_lit 0), jv_eq] <;> omega), if_neg q, Option.bind_some]
      refine Wr.bind (S := [lt R s w p]) (putM hx (by omega) (by omega) (by omega)) (fun μ1 hx1 hf1 => ?_)
      rw [jv_lit (nat_lit 1), jv_add]
      exact ih f (p + 1) μ1 _ (hm.fr hf1 (fun i _ q => by rcases hm.1 with rfl | rfl <;> omega)) hx1 (by omega) (by rw [len1]; omega) (by omega)
theorem pwM {n q s w : Nat} {R : Nat → Int} (hs : s < 24) (hw : w < 8) (h : okL (lt R s w)) {μ : Mm} {L : List Int} (hn : 13 ≤ n) (hm : MB q μ R) (hx : Mx μ L) (hl : L.length + 12 ≤ 16000) : Wr Mx PM μ L (sh_X12_putWord n (jv s) (jv w) μ) (lw (lt R s w)) := by
  unfold sh_X12_putWord
  rw [jv_lit (nat_lit 0)]
  exact pwM_l hs hw h 12 n 0 μ L hm hx (by omega) hl (by omega)
