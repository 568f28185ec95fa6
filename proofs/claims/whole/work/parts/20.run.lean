/-! EVERY CALL OF THE LAW OVER ONE INVARIANT: both sides agree, whatever is asked; no book, text or past is named any more -/
def IV (μ : Mm) : Prop := ∃ I O R N fr, ST μ I O R N fr
/-- a call that may throw, and may change the class's memory -/
def Us (m : List Nat) (c : Option ((Nat × Mm) ⊕ (Int32 × Mm))) (d : Mm → Option (Int32 × Mm)) : Prop := ∃ x μ1 v μ2, c = some (Sum.elim (fun e => .inl (e, μ1)) (fun r => .inr (r, μ1)) x) ∧ d μ1 = some (v, μ2) ∧ Ag m x v (μ2.1 306 0) ∧ IV μ2
/-- a call that never throws, and may change the class's memory -/
def Usn (c : Option (Int32 × Mm)) (d : Mm → Option (Int32 × Mm)) : Prop := ∃ v μ1 μ2, c = some (v, μ1) ∧ d μ1 = some (v, μ2) ∧ IV μ2
/-- a call that may throw, and leaves the class's memory -/
def Ur (m : List Nat) (c : Option (Nat ⊕ Int32)) (d : Option (Int32 × Mm)) : Prop := ∃ x v μ2, c = some x ∧ d = some (v, μ2) ∧ Ag m x v (μ2.1 306 0) ∧ IV μ2
def Un (c : Option Int32) (d : Option (Int32 × Mm)) : Prop := ∃ v μ2, c = some v ∧ d = some (v, μ2) ∧ IV μ2
section
variable {n : Nat} {μ : Mm} {I O : List Int} {R : Nat → Int} {N fr : Nat}
theorem us_of {m : List Nat} {c : Option ((Nat × Mm) ⊕ (Int32 × Mm))} {d : Mm → Option (Int32 × Mm)} (h : Qs m μ I O c d) : Us m c d := by
  obtain ⟨x, μ1, v, μ2, I', O', R', N', fr', h1, h2, h3, h4⟩ := h
  exact ⟨x, μ1, v, μ2, h1, h2, h3, I', O', R', N', fr', h4⟩
theorem usn_of {c : Option (Int32 × Mm)} {d : Mm → Option (Int32 × Mm)} (h : Qsn μ c d) : Usn c d := by
  obtain ⟨v, μ1, μ2, I', O', R', N', fr', h1, h2, h4⟩ := h
  exact ⟨v, μ1, μ2, h1, h2, I', O', R', N', fr', h4⟩
theorem usn_w {c : Option (Int32 × Mm)} {d : Mm → Option (Int32 × Mm)} (hs : ST μ I O R N fr) (h : Qw μ c d) : Usn c d := by
  obtain ⟨v, μ1, μ2, h1, h2, h4⟩ := h
  exact ⟨v, μ1, μ2, h1, h2, I, O, R, N, fr, hs.kv h4⟩
theorem us_v {m : List Nat} {c : Option ((Nat × Mm) ⊕ (Int32 × Mm))} {d : Mm → Option (Int32 × Mm)} (hs : ST μ I O R N fr) (h : Qv m μ c d) : Us m c d := by
  obtain ⟨x, μ1, v, μ2, h1, h2, h3, h4⟩ := h
  exact ⟨x, μ1, v, μ2, h1, h2, h4, I, O, R, N, fr, hs.kv h3⟩
theorem ur_of {m : List Nat} {c : Option (Nat ⊕ Int32)} {d : Option (Int32 × Mm)} (hs : ST μ I O R N fr) (h : Qr m μ c d) : Ur m c d := by
  obtain ⟨x, v, μ2, h1, h2, h3, h4⟩ := h
  exact ⟨x, v, μ2, h1, h2, h4, I, O, R, N, fr, hs.kq h3⟩
theorem un_of {c : Option Int32} {d : Option (Int32 × Mm)} (hs : ST μ I O R N fr) (h : Qn μ c d) : Un c d := by
  obtain ⟨v, μ2, h1, h2, h3⟩ := h
  exact ⟨v, μ2, h1, h2, I, O, R, N, fr, hs.kq h3⟩

theorem i_page (hn : 120000 ≤ n) (h : IV μ) (a : Int32) : Ur [2] (sh_X11_page a μ) (sh_X12_page n a μ) := by
  obtain ⟨I, O, R, N, fr, h⟩ := h
  exact ur_of h (q_page (by omega) h.qs a)
theorem i_bookPage (hn : 120000 ≤ n) (h : IV μ) (a : Int32) : Ur [2] (sh_X11_bookPage a μ) (sh_X12_bookPage n a μ) := by
  obtain ⟨I, O, R, N, fr, h⟩ := h
  exact ur_of h (q_bookPage (by omega) h.qs a)
theorem i_lineOnPage (hn : 120000 ≤ n) (h : IV μ) (a : Int32) : Ur [2] (sh_X11_lineOnPage a μ) (sh_X12_lineOnPage n a μ) := by
  obtain ⟨I, O, R, N, fr, h⟩ := h
  exact ur_of h (q_lineOnPage (by omega) h.qs a)
theorem i_numberWidth (hn : 120000 ≤ n) (h : IV μ) (a : Int32) : Ur [2] (sh_X11_numberWidth a μ) (sh_X12_numberWidth n a μ) := by
  obtain ⟨I, O, R, N, fr, h⟩ := h
  exact ur_of h (q_numberWidth (by omega) h.qs a)
theorem i_firstLine (hn : 120000 ≤ n) (h : IV μ) (a : Int32) : Ur [2] (sh_X11_firstLine a μ) (sh_X12_firstLine n a μ) := by
  obtain ⟨I, O, R, N, fr, h⟩ := h
  exact ur_of h (q_firstLine (by omega) h.qs a)
theorem i_lineCount (hn : 120000 ≤ n) (h : IV μ) (a : Int32) : Ur [2] (sh_X11_lineCount a μ) (sh_X12_lineCount n a μ) := by
  obtain ⟨I, O, R, N, fr, h⟩ := h
  exact ur_of h (q_lineCount (by omega) h.qs a)
theorem i_count (hn : 120000 ≤ n) (h : IV μ) (a : Int32) : Ur [1] (sh_X11_count a μ) (sh_X12_count n a μ) := by
  obtain ⟨I, O, R, N, fr, h⟩ := h
  exact ur_of h (q_count (by omega) h.qs a)
theorem i_setting (hn : 120000 ≤ n) (h : IV μ) (a : Int32) : Ur [1] (sh_X11_setting a μ) (sh_X12_setting a μ) := by
  obtain ⟨I, O, R, N, fr, h⟩ := h
  exact ur_of h (q_setting h.qs a)
theorem i_isRight (hn : 120000 ≤ n) (h : IV μ) : Un (sh_X11_isRight μ) (sh_X12_isRight μ) := by
  obtain ⟨I, O, R, N, fr, h⟩ := h
  exact un_of h (q_isRight h.qs)
theorem i_section (hn : 120000 ≤ n) (h : IV μ) (a b : Int32) : Ur [2, 1] (sh_X11_section a b μ) (sh_X12_section n a b μ) := by
  obtain ⟨I, O, R, N, fr, h⟩ := h
  exact ur_of h (q_section (by omega) h.qs a b)
theorem i_titleWidth (hn : 120000 ≤ n) (h : IV μ) (a : Int32) : Ur [2] (sh_X11_titleWidth a μ) (sh_X12_titleWidth n a μ) := by
  obtain ⟨I, O, R, N, fr, h⟩ := h
  exact ur_of h (q_titleWidth (by omega) h.qs a)
theorem i_findPage (hn : 120000 ≤ n) (h : IV μ) (a b : Int32) : Ur [1] (sh_X11_findPage n a b μ) (sh_X12_findPage n a b μ) := by
  obtain ⟨I, O, R, N, fr, h⟩ := h
  exact ur_of h (q_findPage (by omega) h.qs a b)
theorem i_sectionAt (hn : 120000 ≤ n) (h : IV μ) (a : Int32) : Ur [2] (sh_X11_sectionAt n a μ) (sh_X12_sectionAt n a μ) := by
  obtain ⟨I, O, R, N, fr, h⟩ := h
  exact ur_of h (q_sectionAt (by omega) h.qs a)
theorem i_line (hn : 120000 ≤ n) (h : IV μ) (a b : Int32) : Ur [2, 1] (sh_X11_line a b μ) (sh_X12_line n a b μ) := by
  obtain ⟨I, O, R, N, fr, h⟩ := h
  exact ur_of h (q_line (by omega) h.qs a b)
theorem i_dotCount (hn : 120000 ≤ n) (h : IV μ) (a : Int32) : Ur [2, 3] (sh_X11_dotCount a μ) (sh_X12_dotCount n a μ) := by
  obtain ⟨I, O, R, N, fr, h⟩ := h
  exact ur_of h (q_dotCount (by omega) h.qs a)
theorem i_firstDot (hn : 120000 ≤ n) (h : IV μ) (a : Int32) : Ur [2, 3] (sh_X11_firstDot a μ) (sh_X12_firstDot n a μ) := by
  obtain ⟨I, O, R, N, fr, h⟩ := h
  exact ur_of h (q_firstDot (by omega) h.qs a)
theorem i_isOverfull (hn : 120000 ≤ n) (h : IV μ) (a : Int32) : Ur [2] (sh_X11_isOverfull a μ) (sh_X12_isOverfull n a μ) := by
  obtain ⟨I, O, R, N, fr, h⟩ := h
  exact ur_of h (q_isOverfull (by omega) h.qs a)
theorem i_overfullCount (hn : 120000 ≤ n) (h : IV μ) : Un (sh_X11_overfullCount n μ) (sh_X12_overfullCount n μ) := by
  obtain ⟨I, O, R, N, fr, h⟩ := h
  exact un_of h (q_overfullCount (by omega) h.qs)
theorem i_rounds (hn : 120000 ≤ n) (h : IV μ) : Un (sh_X11_rounds μ) (sh_X12_rounds n μ) := by
  obtain ⟨I, O, R, N, fr, h⟩ := h
  exact un_of h (q_rounds (by omega) h.qs)
theorem i_dotsAt (hn : 120000 ≤ n) (h : IV μ) (a : Int32) : Ur [1] (sh_X11_dotsAt n a μ) (sh_X12_dotsAt n a μ) := by
  obtain ⟨I, O, R, N, fr, h⟩ := h
  exact ur_of h (q_dotsAt (by omega) h.qs a)
theorem i_collides (hn : 120000 ≤ n) (h : IV μ) (a : Int32) : Ur [2] (sh_X11_collides n a μ) (sh_X12_collides n a μ) := by
  obtain ⟨I, O, R, N, fr, h⟩ := h
  exact ur_of h (q_collides (by omega) h.qs a)
theorem i_collisions (hn : 120000 ≤ n) (h : IV μ) : Un (sh_X11_collisions n μ) (sh_X12_collisions n μ) := by
  obtain ⟨I, O, R, N, fr, h⟩ := h
  exact un_of h (q_collisions (by omega) h.qs)
theorem i_longest (hn : 120000 ≤ n) (h : IV μ) (a : Int32) : Ur [1] (sh_X11_longest n a μ) (sh_X12_longest n a μ) := by
  obtain ⟨I, O, R, N, fr, h⟩ := h
  exact ur_of h (q_longest (by omega) h.qs a)
theorem i_crowded (hn : 120000 ≤ n) (h : IV μ) (a : Int32) : Ur [1] (sh_X11_crowded n a μ) (sh_X12_crowded n a μ) := by
  obtain ⟨I, O, R, N, fr, h⟩ := h
  exact ur_of h (q_crowded (by omega) h.qs a)
theorem i_errorCode (hn : 120000 ≤ n) (h : IV μ) : Un (sh_X11_errorCode μ) (sh_X12_errorCode μ) := by
  obtain ⟨I, O, R, N, fr, h⟩ := h
  exact un_of h (q_errorCode h.2.2.2.1)
theorem i_errorPosition (hn : 120000 ≤ n) (h : IV μ) : Un (sh_X11_errorPosition μ) (sh_X12_errorPosition μ) := by
  obtain ⟨I, O, R, N, fr, h⟩ := h
  exact un_of h (q_errorPosition h.2.2.2.1)
theorem i_outputByte (hn : 120000 ≤ n) (h : IV μ) (a : Int32) : Ur [2] (sh_X11_outputByte a μ) (sh_X12_outputByte a μ) := by
  obtain ⟨I, O, R, N, fr, h⟩ := h
  exact ur_of h (q_outputByte h.2.2.2.1 a)
theorem i_undoCount (h : IV μ) : Un (sh_X11_undoCount μ) (sh_X12_undoCount μ) := by
  obtain ⟨I, O, R, N, fr, h⟩ := h
  exact un_of h (q_undoCount h)
theorem i_wordCount (hn : 120000 ≤ n) (h : IV μ) : Usn (sh_X11_wordCount n μ) (sh_X12_wordCount n) := by
  obtain ⟨I, O, R, N, fr, h⟩ := h
  exact usn_w h (q_wordCount (by omega) h.qs)
theorem i_wordSections (hn : 120000 ≤ n) (h : IV μ) (a : Int32) : Us [2] (sh_X11_wordSections n a μ) (sh_X12_wordSections n a) := by
  obtain ⟨I, O, R, N, fr, h⟩ := h
  exact us_v h (q_wordSections (by omega) h.qs a)
theorem i_pagesIf (hn : 120000 ≤ n) (h : IV μ) (a b : Int32) : Us [2, 1] (sh_X11_pagesIf n a b μ) (sh_X12_pagesIf n a b) := by
  obtain ⟨I, O, R, N, fr, h⟩ := h
  exact us_v h (q_pagesIf (by omega) h.qs a b)
theorem i_leastWidth (hn : 120000 ≤ n) (h : IV μ) (a : Int32) : Us [1] (sh_X11_leastWidth n a μ) (sh_X12_leastWidth n a) := by
  obtain ⟨I, O, R, N, fr, h⟩ := h
  exact us_v h (q_leastWidth (by omega) h.qs a)
theorem i_slack (hn : 120000 ≤ n) (h : IV μ) (a : Int32) : Us [2] (sh_X11_slack n a μ) (sh_X12_slack n a) := by
  obtain ⟨I, O, R, N, fr, h⟩ := h
  exact us_v h (q_slack (by omega) h.qs a)
theorem i_bestWidth (hn : 120000 ≤ n) (h : IV μ) : Usn (sh_X11_bestWidth n μ) (sh_X12_bestWidth n) := by
  obtain ⟨I, O, R, N, fr, h⟩ := h
  exact usn_w h (q_bestWidth (by omega) h.qs)
theorem i_changedLines (hn : 120000 ≤ n) (h : IV μ) : Usn (sh_X11_changedLines n μ) (sh_X12_changedLines n) := by
  obtain ⟨I, O, R, N, fr, h⟩ := h
  exact usn_w h (q_changedLines (by omega) h)
theorem i_toRead (hn : 120000 ≤ n) (h : IV μ) : Usn (sh_X11_toRead n μ) (sh_X12_toRead n) := by
  obtain ⟨I, O, R, N, fr, h⟩ := h
  exact usn_w h (q_toRead (by omega) h)
theorem i_setLength (hn : 120000 ≤ n) (h : IV μ) (a b : Int32) : Us [2, 1] (sh_X11_setLength n a b μ) (sh_X12_setLength n a b) := by
  obtain ⟨I, O, R, N, fr, h⟩ := h
  exact us_of (q_setLength (by omega) h a b)
theorem i_setWidth (hn : 120000 ≤ n) (h : IV μ) (a : Int32) : Us [1] (sh_X11_setWidth n a μ) (sh_X12_setWidth n a) := by
  obtain ⟨I, O, R, N, fr, h⟩ := h
  exact us_of (q_setWidth (by omega) h a)
theorem i_setGrid (hn : 120000 ≤ n) (h : IV μ) (a : Int32) : Us [1] (sh_X11_setGrid n a μ) (sh_X12_setGrid n a) := by
  obtain ⟨I, O, R, N, fr, h⟩ := h
  exact us_of (q_setGrid (by omega) h a)
theorem i_undo (hn : 120000 ≤ n) (h : IV μ) : Us [0] (sh_X11_undo n μ) (sh_X12_undo n) := by
  obtain ⟨I, O, R, N, fr, h⟩ := h
  exact us_of (q_undo (by omega) h)
theorem i_setLevel (hn : 120000 ≤ n) (h : IV μ) (a b : Int32) : Us [2, 1] (sh_X11_setLevel n a b μ) (sh_X12_setLevel n a b) := by
  obtain ⟨I, O, R, N, fr, h⟩ := h
  exact us_of (q_setLevel (by omega) h a b)
theorem i_remove (hn : 120000 ≤ n) (h : IV μ) (a : Int32) : Us [2] (sh_X11_remove n a μ) (sh_X12_remove n a) := by
  obtain ⟨I, O, R, N, fr, h⟩ := h
  exact us_of (q_remove (by omega) h a)
theorem i_setTitle (hn : 120000 ≤ n) (h : IV μ) (a : Int32) : Us [2, 1] (sh_X11_setTitle n a μ) (sh_X12_setTitle n a) := by
  obtain ⟨I, O, R, N, fr, h⟩ := h
  exact us_of (q_setTitle (by omega) h a)
theorem i_insert (hn : 120000 ≤ n) (h : IV μ) (a b d : Int32) : Us [2, 1, 0] (sh_X11_insert n a b d μ) (sh_X12_insert n a b d) := by
  obtain ⟨I, O, R, N, fr, h⟩ := h
  exact us_of (q_insert (by omega) h a b d)
theorem i_proof (hn : 120000 ≤ n) (h : IV μ) : Usn (sh_X11_proof n μ) (sh_X12_proof n) := by
  obtain ⟨I, O, R, N, fr, h⟩ := h
  exact usn_of (q_proof (by omega) h)
theorem i_load (hn : 120000 ≤ n) (h : IV μ) : Usn (sh_X11_load n μ) (sh_X12_load n) := by
  obtain ⟨I, O, R, N, fr, h⟩ := h
  exact usn_of (q_load (by omega) h)
theorem i_setRight (hn : 120000 ≤ n) (h : IV μ) {r : Int} (hr : r = 0 ∨ r = 1) : Usn (sh_X11_setRight n (jv r) μ) (sh_X12_setRight n (jv r)) := by
  obtain ⟨I, O, R, N, fr, h⟩ := h
  exact usn_of (q_setRight hn h hr)
theorem PVF_E : ∀ k j, PVF k j → PE k j := fun k j h => by omega
theorem i_findWord (hn : 120000 ≤ n) (h : IV μ) : Usn (sh_X11_findWord n μ) (sh_X12_findWord n) := by
  obtain ⟨I, O, R, N, fr, h⟩ := h
  obtain ⟨v, μ1, μ2, h1, h2, h3, _, h5⟩ := q_findWord (n := n) (by omega) h.qs h.2.2.2.1
  exact ⟨v, μ1, μ2, h1, h2, [], O, R, N, fr, h.ke (h3.mono PVF_E (fun _ y => y)) h5⟩
theorem i_append (hn : 120000 ≤ n) (h : IV μ) (a b c d e : Int32) : Us [0] (sh_X11_append a b c d e μ) (sh_X12_append n a b c d e) := by
  obtain ⟨I, O, R, N, fr, h⟩ := h
  obtain ⟨x, μ1, v, μ2, I', h1, h2, h3, h4, h5⟩ := q_append (n := n) (by omega) h.2.2.2.1 a b c d e
  exact ⟨x, μ1, v, μ2, h1, h2, h4, I', O, R, N, fr, h.ke h3 h5⟩
theorem i_truncate (h : IV μ) (a : Int32) : ∃ x μ1 μ2, sh_X11_truncate a μ = some (Sum.elim (fun e => .inl (e, μ1)) (fun _ => .inr μ1) x) ∧ sh_X12_truncate a μ1 = some μ2 ∧ Ag [1] x (jv 0) (μ2.1 306 0) ∧ IV μ2 := by
  obtain ⟨I, O, R, N, fr, h⟩ := h
  obtain ⟨x, μ1, μ2, I', h1, h2, h3, h4, h5⟩ := q_truncate h.2.2.2.1 a
  exact ⟨x, μ1, μ2, h1, h2, h4, I', O, R, N, fr, h.ke h3 h5⟩
theorem i_writeLine (hn : 120000 ≤ n) (h : IV μ) (a : Int32) : Us [2] (sh_X11_writeLine n a μ) (sh_X12_writeLine n a) := by
  obtain ⟨I, O, R, N, fr, h⟩ := h
  obtain ⟨x, μ1, v, μ2, O', h1, h2, h3, h4, h5⟩ := q_writeLine (n := n) (by omega) h.qs h.2.2.2.1 a
  exact ⟨x, μ1, v, μ2, h1, h2, h4, I, O', R, N, fr, h.ke h3 h5⟩
theorem i_writeTable (hn : 120000 ≤ n) (h : IV μ) : Usn (sh_X11_writeTable n μ) (sh_X12_writeTable n) := by
  obtain ⟨I, O, R, N, fr, h⟩ := h
  obtain ⟨v, μ1, μ2, O', h1, h2, h3, h5⟩ := q_writeTable (n := n) (by omega) h.qs h.2.2.2.1
  exact ⟨v, μ1, μ2, h1, h2, I, O', R, N, fr, h.ke h3 h5⟩
end
