/-! THE THROW OF A NoSuchElementException: its constructor links its super's by another index than the other three exceptions', so the row is walked here -/
def nseR : ByteArray := prog_32_method_4_code
theorem nseR_0 : decode nseR 0 = .ok (.aload_n 0, 1) := by decide +kernel
theorem nseR_1 : decode nseR 1 = .ok (.aload_n 1, 1) := by decide +kernel
theorem nseR_2 : decode nseR 2 = .ok (.invokespecial 13, 3) := by decide +kernel
theorem nseR_5 : decode nseR 5 = .ok (.return_, 1) := by decide +kernel
def nseX : String := "java/util/NoSuchElementException"
def nseY : String := "java/lang/RuntimeException"
/-- its words: its own constructor's, the chain above it, what a throw asks of the class -/
def nseA : List Cond := Bundle.throwableAtoms ++ Bundle.throwableSAtoms ++ Bundle.passSAtoms nseX nseY 13 nseR ++ Bundle.chainSAtoms nseY ["java/lang/Exception"] ++
  [.methodLink "ContentsSetter" 446 (Bundle.initS nseX), .instantiable nseX 6, .castable nseX nseX, .selects nseX Bundle.tFill0 Bundle.tFill0, .selects nseX Bundle.tFill Bundle.tFill,
   .lays nseX Bundle.tN "cause" "Ljava/lang/Throwable;", .lays nseX Bundle.tN "stackTrace" Bundle.steD, .lays nseX Bundle.tN "suppressedExceptions" Bundle.listD, .lays nseX Bundle.tN "detailMessage" "Ljava/lang/String;",
   .isRef (.static Bundle.tN "UNASSIGNED_STACK" Bundle.steD), .isRef (.static Bundle.tN "SUPPRESSED_SENTINEL" Bundle.listD),
   .fieldLink Bundle.tN 198 Bundle.tN "backtrace" "Ljava/lang/Object;", .lays Bundle.tN Bundle.tN "backtrace" "Ljava/lang/Object;", .lays nseX Bundle.tN "backtrace" "Ljava/lang/Object;"]
def nseW : List Cond := nseA.filter vx_no
theorem nse_g : ∀ w ∈ nseW.filter goodWord, w ∈ TBG := by decide +kernel
theorem nse_h {args : Array Value} {s : State} (hts : ∀ w ∈ TBG, w.before args s = true) (hN : NW s) : ∀ w ∈ nseW, w.before args s = true := vx_hat (B := [Cond.castable nseX nseX, Cond.declares ⟨"java/lang/RuntimeException", "<init>", "(Ljava/lang/String;)V"⟩, Cond.declares ⟨"java/lang/Exception", "<init>", "(Ljava/lang/String;)V"⟩, Cond.declares ⟨"java/lang/Throwable", "<init>", "(Ljava/lang/String;)V"⟩]) (fun w hw => hts w (nse_g w hw)) (by decide +kernel) (vx_c (va_Nw.use rfl (hN.2.1 (nseX, nseX) (by decide +kernel))) (vx_c (va_Nw.use rfl (hN.2.2.2 _ (by decide +kernel))) (vx_c (va_Nw.use rfl (hN.2.2.2 _ (by decide +kernel))) (vx_c (va_Nw.use rfl (hN.2.2.2 _ (by decide +kernel))) vx_n))))
theorem nse_o : ∀ w ∈ Cond.classLink "ContentsSetter" 442 nseX :: Cond.initialized nseX :: nseW, vx_ot w = true := by decide +kernel
theorem nse_fit : Bundle.fit nseX = true ∧ Bundle.fit nseY = true := by decide +kernel
