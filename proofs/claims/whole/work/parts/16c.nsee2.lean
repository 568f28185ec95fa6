/-! its constructors, one above the other -/
theorem nse_mT : ∀ w ∈ Bundle.throwableAtoms, w ∈ nseA := fun w hw => List.mem_append.mpr (Or.inl (List.mem_append.mpr (Or.inl (List.mem_append.mpr (Or.inl (List.mem_append.mpr (Or.inl hw)))))))
theorem nse_mS : ∀ w ∈ Bundle.throwableSAtoms, w ∈ nseA := fun w hw => List.mem_append.mpr (Or.inl (List.mem_append.mpr (Or.inl (List.mem_append.mpr (Or.inl (List.mem_append.mpr (Or.inr hw)))))))
theorem nse_mP : ∀ w ∈ Bundle.passSAtoms nseX nseY 13 nseR, w ∈ nseA := fun w hw => List.mem_append.mpr (Or.inl (List.mem_append.mpr (Or.inl (List.mem_append.mpr (Or.inr hw)))))
theorem nse_mC : ∀ w ∈ Bundle.chainSAtoms nseY ["java/lang/Exception"], w ∈ nseA := fun w hw => List.mem_append.mpr (Or.inl (List.mem_append.mpr (Or.inr hw)))
theorem nse_fE : ∀ n ∈ ["java/lang/Exception"], Bundle.fit n = true := by decide +kernel
theorem nse_c1 {args : Array Value} {s : State} {pl : Platform} (hpl : pl.magicAccessors = ({} : Platform).magicAccessors) (h : ∀ w ∈ nseA, w.before args s = true) :
    ∃ P : PassC, P.LinksS pl s ∧ s.methodNamed? (Bundle.initS nseX) = some P.m ∧ s.methodNamed? (Bundle.initS nseY) = some P.sup :=
  PassC.ofS_atoms (args := args) (s := s) hpl (X := nseX) (Y := nseY) (index := 13) (bytes := nseR) (Bundle.fit_spec nse_fit.1).1 (Bundle.fit_spec nse_fit.2).2 nseR_0 nseR_1 nseR_2 nseR_5 (fun w hw => h w (nse_mP w hw))
theorem nse_c2 {args : Array Value} {s : State} {pl : Platform} (hpl : pl.magicAccessors = ({} : Platform).magicAccessors) {top : MethodId} (htop : s.methodNamed? (Bundle.initS Bundle.tN) = some top) (h : ∀ w ∈ nseA, w.before args s = true) :
    ∃ (P1 : PassC) (Ps : List PassC), Ps.length = ["java/lang/Exception"].length ∧ P1.LinksS pl s ∧ (∀ P, P ∈ Ps → P.LinksS pl s) ∧ s.methodNamed? (Bundle.initS nseY) = some P1.m ∧ P1.sup = firstOf top (Ps.map (·.toPassT)) ∧ PassesOn top (Ps.map (·.toPassT)) :=
  Bundle.chainS (args := args) hpl htop ["java/lang/Exception"] nseY nse_fit.2 nse_fE (fun w hw => h w (nse_mC w hw))
/-- the row of constructors from this one up to Throwable's -/
theorem nse_chain {args : Array Value} {s : State} {pl : Platform} (hpl : pl.magicAccessors = ({} : Platform).magicAccessors) {top : MethodId} (htop : s.methodNamed? (Bundle.initS Bundle.tN) = some top) (h : ∀ w ∈ nseA, w.before args s = true) :
    ∃ (P1 : PassC) (Ps : List PassC), Ps.length = 2 ∧ P1.LinksS pl s ∧ (∀ P, P ∈ Ps → P.LinksS pl s) ∧ s.methodNamed? (Bundle.initS nseX) = some P1.m ∧ P1.sup = firstOf top (Ps.map (·.toPassT)) ∧ PassesOn top (Ps.map (·.toPassT)) := by
  obtain ⟨P, L, hm, hs⟩ := nse_c1 (args := args) hpl h
  obtain ⟨P2, Ps, hlen, L2, hL, hm2, hsup, hpass⟩ := nse_c2 (args := args) hpl htop h
  have hl1 : Ps.length = 1 := hlen
  have hsu : P.sup = P2.m := Option.some.inj (hs.symm.trans hm2)
  refine ⟨P, P2 :: Ps, by rw [List.length_cons, hl1], L, ?_, hm, hsu, hsup, hpass⟩
  intro Q hQ
  rcases List.mem_cons.mp hQ with rfl | hQ
  · exact L2
  · exact hL Q hQ
def nseL : List Cond := [.methodLink "ContentsSetter" 446 (Bundle.initS nseX), .instantiable nseX 6, .castable nseX nseX, .selects nseX Bundle.tFill0 Bundle.tFill0, .selects nseX Bundle.tFill Bundle.tFill, .lays nseX Bundle.tN "cause" "Ljava/lang/Throwable;", .lays nseX Bundle.tN "stackTrace" Bundle.steD, .lays nseX Bundle.tN "suppressedExceptions" Bundle.listD, .lays nseX Bundle.tN "detailMessage" "Ljava/lang/String;", .isRef (.static Bundle.tN "UNASSIGNED_STACK" Bundle.steD), .isRef (.static Bundle.tN "SUPPRESSED_SENTINEL" Bundle.listD), .fieldLink Bundle.tN 198 Bundle.tN "backtrace" "Ljava/lang/Object;", .lays Bundle.tN Bundle.tN "backtrace" "Ljava/lang/Object;", .lays nseX Bundle.tN "backtrace" "Ljava/lang/Object;"]
theorem nse_mL {w : Cond} (k : Nat) (hw : nseL[k]? = some w) : w ∈ nseA := List.mem_append.mpr (Or.inr (show w ∈ nseL from List.mem_of_getElem? hw))
