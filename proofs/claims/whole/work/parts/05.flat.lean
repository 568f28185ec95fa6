/-! THE FLAT WORLD: every cell that law, class and reference ever read or write lies at a fixed distance from one base address b; what it holds is a function of the distance. -/
def kyL : List Nat := [11, 8, 13, 8, 13, 4, 9, 15, 8, 13, 6, 0, 5, 14, 5, 14, 5, 14, 5, 14, 9, 15, 5, 14, 0, 5, 14, 5, 14, 5, 14, 5, 14, 9, 15, 5, 14, 17, 1, 2, 5, 14, 5, 14, 5, 14, 5, 14, 5, 14, 5, 14, 3, 5, 14, 5, 14, 5, 14, 5, 14, 7, 5, 14, 5, 14, 5, 14, 5, 14, 5, 14, 5, 14, 5, 14, 5, 14, 5, 14, 10, 9, 15, 5, 14, 0, 5, 14, 5, 14, 5, 14, 5, 14, 9, 15, 5, 14, 1, 2, 5, 14, 5, 14, 5, 14, 5, 14, 5, 14, 5, 14, 3, 5, 14, 5, 14, 5, 14, 5, 14, 7, 5, 14, 5, 14, 5, 14, 5, 14, 5, 14, 5, 14, 5, 14, 5, 14, 5, 14, 8, 13, 8, 13, 6, 0, 5, 14, 5, 14, 5, 14, 5, 14, 9, 15, 5, 14, 0, 5, 14, 5, 14, 5, 14, 5, 14, 9, 15, 5, 14, 6, 0, 5, 14, 5, 14, 5, 14, 5, 14, 9, 15, 5, 14, 0, 5, 14, 5, 14, 5, 14, 5, 14, 9, 15, 5, 14, 6, 0, 5, 14, 5, 14, 5, 14, 5, 14, 9, 15, 5, 14, 0, 5, 14, 5, 14, 5, 14, 5, 14, 9, 15, 5, 14, 6, 0, 5, 14, 5, 14, 5, 14, 5, 14, 9, 15, 5, 14, 0, 5, 14, 5, 14, 5, 14, 5, 14, 9, 15, 5, 14, 6, 0, 5, 14, 5, 14, 5, 14, 5, 14, 9, 15, 5, 14, 0, 5, 14, 5, 14, 5, 14, 5, 14, 9, 15, 5, 14, 6, 0, 5, 14, 5, 14, 5, 14, 5, 14, 9, 15, 5, 14, 0, 5, 14, 5, 14, 5, 14, 5, 14, 9, 15, 5, 14, 12, 24, 24, 23, 23, 24, 24, 24, 24, 24, 24, 24, 24, 24, 24, 16, 24, 24, 24, 24, 24, 24, 24, 24, 23, 25]
def NN : Nat := 332
def ky (k : Nat) : Nat := kyL.getD k 99
theorem inb_in {i : Int32} {n : Nat} (h : inb i n = true) : vp_in i n := by
  simp only [inb, Bool.and_eq_true, decide_eq_true_eq] at h
  rintro (q | q)
  · exact h.1 q
  · exact absurd q (Nat.not_le.mpr h.2)
theorem ob {α β : Type} {o : Option α} {f : α → Option β} {y : β} (h : o.bind f = some y) : ∃ x, o = some x ∧ f x = some y := Option.bind_eq_some_iff.mp h
theorem ld_some {μ : Mm} {k : Nat} {i x : Int32} (h : ld μ k i = some x) : vp_in i (ln k) ∧ μ.1 k (ix i) = x := by
  unfold ld at h
  split at h
  · next q => exact ⟨inb_in q, Option.some.inj h⟩
  · cases h
theorem ldJ_some {μ : Mm} {k : Nat} {i : Int32} {x : Int64} (h : ldJ μ k i = some x) : vp_in i (ln k) ∧ μ.2.1 k (ix i) = x := by
  unfold ldJ at h
  split at h
  · next q => exact ⟨inb_in q, Option.some.inj h⟩
  · cases h
theorem st_some {μ μ' : Mm} {k : Nat} {i v : Int32} (h : st μ k i v = some μ') : vp_in i (ln k) ∧ sI μ k (ix i) v = μ' := by
  unfold st at h
  split at h
  · next q => exact ⟨inb_in q, Option.some.inj h⟩
  · cases h
theorem stJ_some {μ μ' : Mm} {k : Nat} {i : Int32} {v : Int64} (h : stJ μ k i v = some μ') : vp_in i (ln k) ∧ sJ μ k (ix i) v = μ' := by
  unfold stJ at h
  split at h
  · next q => exact ⟨inb_in q, Option.some.inj h⟩
  · cases h
theorem dv_some {x y z : Int32} (h : dv x y = some z) : ¬ y = 0 ∧ x / y = z := by
  unfold dv at h
  split at h
  · cases h
  · next q => exact ⟨q, Option.some.inj h⟩
theorem rm_some {x y z : Int32} (h : rm x y = some z) : ¬ y = 0 ∧ x - (x / y) * y = z := by
  unfold rm at h
  split at h
  · cases h
  · next q => exact ⟨q, Option.some.inj h⟩
theorem cp_some {μ μ' : Mm} {ks kd : Nat} {sp dp n : Int32} (h : cp μ ks sp kd dp n = some μ') : (¬ sp < 0 ∧ ¬ dp < 0 ∧ ¬ n < 0 ∧ ix sp + ix n ≤ ln ks ∧ ix dp + ix n ≤ ln kd) ∧ cpI μ ks (ix sp) kd (ix dp) (ix n) = μ' := by
  unfold cp at h
  split at h
  · next q => exact ⟨q, Option.some.inj h⟩
  · cases h
theorem cpL_some {μ μ' : Mm} {ks kd : Nat} {sp dp n : Int32} (h : cpL μ ks sp kd dp n = some μ') : (¬ sp < 0 ∧ ¬ dp < 0 ∧ ¬ n < 0 ∧ ix sp + ix n ≤ ln ks ∧ ix dp + ix n ≤ ln kd) ∧ cpJ μ ks (ix sp) kd (ix dp) (ix n) = μ' := by
  unfold cpL at h
  split at h
  · next q => exact ⟨q, Option.some.inj h⟩
  · cases h
theorem isB_some {x z : Int32} (h : isB x = some z) : (x = 0 ∨ x = 1) ∧ x = z := by
  unfold isB at h
  split at h
  · next q => exact ⟨q, Option.some.inj h⟩
  · cases h
def fl0 (b : Nat) (μ : Mm) (k : Nat) : List Value := [.ref (b + (k + 1)), .int (μ.1 k 1), .int (μ.1 k 2), .int (μ.1 k 3), .ref (b + (k + 3)), .ref (b + (k + 5)), .ref (b + (k + 7)), .ref (b + (k + 9)), .ref (b + (k + 11))]
def fl1 (b : Nat) (μ : Mm) (k : Nat) : List Value := [.ref (b + (k + 1)), .ref (b + (k + 14)), .ref (b + (k + 23)), .int (μ.1 k 3), .int (μ.1 k 4)]
def fl2 (b : Nat) (μ : Mm) (k : Nat) : List Value := [.ref (b + (k + 1)), .ref (b + (k + 3)), .ref (b + (k + 5)), .ref (b + (k + 7)), .ref (b + (k + 9)), .ref (b + (k + 11))]
def fl3 (b : Nat) (μ : Mm) (k : Nat) : List Value := [.ref (b + (k + 1)), .ref (b + (k + 3)), .ref (b + (k + 5)), .ref (b + (k + 7)), .int (μ.1 k 4), .int (μ.1 k 5)]
def fl4 (b : Nat) (μ : Mm) (k : Nat) : List Value := [.int (μ.1 k 0), .int (μ.1 k 1), .ref (b + (k + 1)), .int (μ.1 k 3), .ref (b + μ.2.2 1), .int (μ.1 k 5), .int (μ.1 k 6), .int (μ.1 k 7), .int (μ.1 k 8), .int (μ.1 k 9), .int (μ.1 k 10), .int (μ.1 k 11)]
def fl5 (b : Nat) (μ : Mm) (k : Nat) : List Value := [.ref (b + (k + 1))]
def fl6 (b : Nat) (μ : Mm) (k : Nat) : List Value := [.ref (b + (k + 1)), .ref (b + (k + 14)), .int (μ.1 k 2)]
def fl7 (b : Nat) (μ : Mm) (k : Nat) : List Value := [.int (μ.1 k 0), .int (μ.1 k 1), .int (μ.1 k 2), .ref (b + (k + 1)), .ref (b + (k + 3)), .ref (b + (k + 5)), .ref (b + (k + 7)), .ref (b + (k + 9)), .ref (b + (k + 11)), .ref (b + (k + 13)), .ref (b + (k + 15)), .ref (b + (k + 17))]
def fl8 (b : Nat) (μ : Mm) (k : Nat) : List Value := [.ref (b + (k + 1)), .int (μ.1 k 1)]
def fl9 (b : Nat) (μ : Mm) (k : Nat) : List Value := [.ref (b + (k + 1))]
def fl10 (b : Nat) (μ : Mm) (k : Nat) : List Value := [.ref (b + (k + 1)), .ref (b + (k + 3)), .int (μ.1 k 2)]
def fl11 (b : Nat) (μ : Mm) (k : Nat) : List Value := [.ref (b + (k + 1)), .ref (b + (k + 3)), .ref (b + (k + 5)), .int (μ.1 k 3), .int (μ.1 k 4), .ref (b + (k + 10)), .ref (b + (k + 37)), .int (μ.1 k 7), .int (μ.1 k 8), .ref (b + (k + 38)), .ref (b + (k + 80)), .ref (b + (k + 85)), .ref (b + (k + 98)), .ref (b + (k + 140)), .ref (b + (k + 142))]
def fl12 (b : Nat) (μ : Mm) (k : Nat) : List Value := [.int (μ.1 k 0), .ref (b + (k + 1)), .ref (b + (k + 2)), .ref (b + μ.2.2 0), .ref (b + (k + 3)), .int (μ.1 k 5), .int (μ.1 k 6), .int (μ.1 k 7), .int (μ.1 k 8), .int (μ.1 k 9), .int (μ.1 k 10), .int (μ.1 k 11), .int (μ.1 k 12), .int (μ.1 k 13), .int (μ.1 k 14), .int (μ.1 k 15), .ref (b + (k + 4)), .int (μ.1 k 17), .ref (b + (k + 5)), .ref (b + (k + 6)), .ref (b + (k + 7)), .ref (b + (k + 8)), .ref (b + (k + 9)), .int (μ.1 k 23), .int (μ.1 k 24), .int (μ.1 k 25), .int (μ.1 k 26), .ref (b + (k + 10)), .ref (b + (k + 11)), .ref (b + (k + 12)), .ref (b + (k + 13)), .ref (b + (k + 14)), .ref (b + (k + 15)), .ref (b + (k + 16)), .ref (b + (k + 17)), .ref (b + (k + 18)), .int (μ.1 k 36), .int (μ.1 k 37), .int (μ.1 k 38), .int (μ.1 k 39), .int (μ.1 k 40), .ref (b + (k + 19)), .ref (b + (k + 20)), .ref (b + (k + 21)), .int (μ.1 k 44), .ref (b + (k + 22)), .ref (b + (k + 23)), .int (μ.1 k 47), .ref (b + (k + 24)), .int (μ.1 k 49)]
abbrev vwCl : List vw_C := [(RX0, TX0, 9), (RX1, TX1, 5), (RX2, TX2, 6), (RX3, TX3, 6), (RX4, TX4, 12), (RX5, TX5, 1), (RX6, TX6, 3), (RX7, TX7, 12), (RX8, TX8, 2), (RX9, TX9, 1), (RX10, TX10, 3), (RX11, TX11, 15), (RX12, TX12, 50)]
abbrev Gt : Type := va_G × (Nat → ClassId) × (Nat → Nat) × (Nat → Nat)
/-- how many cells the world has: those of the class, and as many behind them as its last function says at 13 -/
def nn (G : Gt) : Nat := 306 + G.2.2.2 13
/-- the world with so many cells behind the class's -/
abbrev gg (j : Nat) (G : Gt) : Gt := (G.1, G.2.1, G.2.2.1, fun t => if t = 13 then j else G.2.2.2 t)
/-- the world with all of the model's -/
abbrev fg (G : Gt) : Gt := gg (25 + G.2.2.2 13) G
def wF (G : Gt) (b : Nat) (μ : Mm) (k : Nat) : va_E :=
  match ky k with
  | 0 => .inr (0, fl0 b μ k)
  | 1 => .inr (1, fl1 b μ k)
  | 2 => .inr (2, fl2 b μ k)
  | 3 => .inr (3, fl3 b μ k)
  | 4 => .inr (4, fl4 b μ k)
  | 5 => .inr (5, fl5 b μ k)
  | 6 => .inr (6, fl6 b μ k)
  | 7 => .inr (7, fl7 b μ k)
  | 8 => .inr (8, fl8 b μ k)
  | 9 => .inr (9, fl9 b μ k)
  | 10 => .inr (10, fl10 b μ k)
  | 11 => .inr (11, fl11 b μ k)
  | 12 => .inr (12, fl12 b μ k)
  | 13 => .inl (G.2.1 0, ln k, .inl (μ.1 k))
  | 14 => .inl (G.2.1 1, ln k, .inl (μ.1 k))
  | 15 => .inl (G.2.1 2, ln k, .inr (.inl (μ.2.1 k)))
  | 16 => .inl (G.2.1 3, ln k, .inl (μ.1 k))
  | 23 => .inl (G.2.1 0, ln k, .inl (μ.1 k))
  | 24 => .inl (G.2.1 1, ln k, .inl (μ.1 k))
  | 25 => .inl (G.2.1 2, ln k, .inr (.inl (fun _ => Int64.ofNat (G.2.2.2 14))))
  | _ => .inl (G.2.1 4, ln k, .inr (.inr (.inr (.inr (fun j => some (b + (144 + 27 * j)))))))
def okTx (k : Nat) : Prop := ky k = 8 ∧ ky (k + 1) = 13
def okNd (k : Nat) : Prop := k = 307 ∨ k = 308
def WH (G : Gt) (b : Nat) (μ : Mm) (H : Heap) : Prop := (∀ k, k < nn G → va_at G.1 vwCl (b + k, wF G b μ k) H) ∧ okNd (μ.2.2 0) ∧ okTx (μ.2.2 1)
abbrev fb (b : Nat) : Nat → Prop := fun q => b ≤ q
def tysW (G : Gt) : List (ClassId × FieldType) := [(G.2.1 0, .byte), (G.2.1 1, .int), (G.2.1 2, .long), (G.2.1 3, .boolean), (G.2.1 4, .object "ContentsSetter$State")]
def WK (G : Gt) (U : State) : Prop := va_K G.1 vwCl (tysW G) U
