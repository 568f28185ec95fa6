theorem nm_at {α β : Type} {e x : α} {f : α → Option β} {y : β} (ex : x = e) (h : nm e f = some y) : f x = some y := by subst ex; exact h
theorem pz_some {μ μ' : Mm} {k j : Nat} {v : Int32} (h : pz μ k j v = some μ') : (v = 0 ∨ v = 1) ∧ sI μ k j v = μ' := by
  unfold pz at h
  split at h
  · next q => exact ⟨q, Option.some.inj h⟩
  · cases h
theorem nar_z {v : Int32} (h : v = 0 ∨ v = 1) : narrow .boolean (.int v) = .int v ∧ fits .boolean (.int v) = true := by rcases h with rfl | rfl <;> exact ⟨rfl, rfl⟩
theorem wF_0 {G : Gt} {b : Nat} {μ : Mm} {k : Nat} (h : ky k = 0) : wF G b μ k = .inr (0, fl0 b μ k) := by simp only [wF, h]
theorem inB0 : ∀ w ∈ u_ws RX0 TX0 9, w ∈ TBG := by
  have e : u_ws RX0 TX0 9 = [Jvm.Cond.laysFinal "ContentsSetter$Book" "ContentsSetter$Book" "settings" "LContentsSetter$Row;", Jvm.Cond.lays "ContentsSetter$Book" "ContentsSetter$Book" "right" "Z", Jvm.Cond.lays "ContentsSetter$Book" "ContentsSetter$Book" "sections" "I", Jvm.Cond.lays "ContentsSetter$Book" "ContentsSetter$Book" "front" "I", Jvm.Cond.laysFinal "ContentsSetter$Book" "ContentsSetter$Book" "levels" "LContentsSetter$Row;", Jvm.Cond.laysFinal "ContentsSetter$Book" "ContentsSetter$Book" "lengths" "LContentsSetter$Row;", Jvm.Cond.laysFinal "ContentsSetter$Book" "ContentsSetter$Book" "wordCounts" "LContentsSetter$Row;", Jvm.Cond.laysFinal "ContentsSetter$Book" "ContentsSetter$Book" "titles" "LContentsSetter$WordRow;", Jvm.Cond.laysFinal "ContentsSetter$Book" "ContentsSetter$Book" "origins" "LContentsSetter$Row;"] := by decide +kernel
  rw [e]
  exact List.forall_mem_cons.mpr ⟨q_192, List.forall_mem_cons.mpr ⟨q_194, List.forall_mem_cons.mpr ⟨q_196, List.forall_mem_cons.mpr ⟨q_198, List.forall_mem_cons.mpr ⟨q_200, List.forall_mem_cons.mpr ⟨q_202, List.forall_mem_cons.mpr ⟨q_204, List.forall_mem_cons.mpr ⟨q_206, List.forall_mem_cons.mpr ⟨q_208, fun _ h => absurd h List.not_mem_nil⟩⟩⟩⟩⟩⟩⟩⟩⟩
theorem wF_1 {G : Gt} {b : Nat} {μ : Mm} {k : Nat} (h : ky k = 1) : wF G b μ k = .inr (1, fl1 b μ k) := by simp only [wF, h]
theorem inB1 : ∀ w ∈ u_ws RX1 TX1 5, w ∈ TBG := by
  have e : u_ws RX1 TX1 5 = [Jvm.Cond.laysFinal "ContentsSetter$Layout" "ContentsSetter$Layout" "measures" "LContentsSetter$Measures;", Jvm.Cond.laysFinal "ContentsSetter$Layout" "ContentsSetter$Layout" "pages" "LContentsSetter$Pages;", Jvm.Cond.laysFinal "ContentsSetter$Layout" "ContentsSetter$Layout" "table" "LContentsSetter$Table;", Jvm.Cond.lays "ContentsSetter$Layout" "ContentsSetter$Layout" "tablePages" "I", Jvm.Cond.lays "ContentsSetter$Layout" "ContentsSetter$Layout" "roundsLaid" "I"] := by decide +kernel
  rw [e]
  exact List.forall_mem_cons.mpr ⟨q_370, List.forall_mem_cons.mpr ⟨q_372, List.forall_mem_cons.mpr ⟨q_374, List.forall_mem_cons.mpr ⟨q_376, List.forall_mem_cons.mpr ⟨q_378, fun _ h => absurd h List.not_mem_nil⟩⟩⟩⟩⟩
theorem wF_2 {G : Gt} {b : Nat} {μ : Mm} {k : Nat} (h : ky k = 2) : wF G b μ k = .inr (2, fl2 b μ k) := by simp only [wF, h]
theorem inB2 : ∀ w ∈ u_ws RX2 TX2 6, w ∈ TBG := by
  have e : u_ws RX2 TX2 6 = [Jvm.Cond.laysFinal "ContentsSetter$Measures" "ContentsSetter$Measures" "parents" "LContentsSetter$Row;", Jvm.Cond.laysFinal "ContentsSetter$Measures" "ContentsSetter$Measures" "children" "LContentsSetter$Row;", Jvm.Cond.laysFinal "ContentsSetter$Measures" "ContentsSetter$Measures" "ordinals" "LContentsSetter$Row;", Jvm.Cond.laysFinal "ContentsSetter$Measures" "ContentsSetter$Measures" "labelWidths" "LContentsSetter$Row;", Jvm.Cond.laysFinal "ContentsSetter$Measures" "ContentsSetter$Measures" "tokenWidths" "LContentsSetter$Row;", Jvm.Cond.laysFinal "ContentsSetter$Measures" "ContentsSetter$Measures" "titleWidths" "LContentsSetter$Row;"] := by decide +kernel
  rw [e]
  exact List.forall_mem_cons.mpr ⟨q_250, List.forall_mem_cons.mpr ⟨q_252, List.forall_mem_cons.mpr ⟨q_254, List.forall_mem_cons.mpr ⟨q_256, List.forall_mem_cons.mpr ⟨q_258, List.forall_mem_cons.mpr ⟨q_260, fun _ h => absurd h List.not_mem_nil⟩⟩⟩⟩⟩⟩
theorem wF_3 {G : Gt} {b : Nat} {μ : Mm} {k : Nat} (h : ky k = 3) : wF G b μ k = .inr (3, fl3 b μ k) := by simp only [wF, h]
theorem inB3 : ∀ w ∈ u_ws RX3 TX3 6, w ∈ TBG := by
  have e : u_ws RX3 TX3 6 = [Jvm.Cond.laysFinal "ContentsSetter$Pages" "ContentsSetter$Pages" "numbers" "LContentsSetter$Row;", Jvm.Cond.laysFinal "ContentsSetter$Pages" "ContentsSetter$Pages" "bookNumbers" "LContentsSetter$Row;", Jvm.Cond.laysFinal "ContentsSetter$Pages" "ContentsSetter$Pages" "headLines" "LContentsSetter$Row;", Jvm.Cond.laysFinal "ContentsSetter$Pages" "ContentsSetter$Pages" "numberWidths" "LContentsSetter$Row;", Jvm.Cond.lays "ContentsSetter$Pages" "ContentsSetter$Pages" "mainBegin" "I", Jvm.Cond.lays "ContentsSetter$Pages" "ContentsSetter$Pages" "lastPage" "I"] := by decide +kernel
  rw [e]
  exact List.forall_mem_cons.mpr ⟨q_285, List.forall_mem_cons.mpr ⟨q_287, List.forall_mem_cons.mpr ⟨q_289, List.forall_mem_cons.mpr ⟨q_291, List.forall_mem_cons.mpr ⟨q_293, List.forall_mem_cons.mpr ⟨q_295, fun _ h => absurd h List.not_mem_nil⟩⟩⟩⟩⟩⟩
theorem wF_4 {G : Gt} {b : Nat} {μ : Mm} {k : Nat} (h : ky k = 4) : wF G b μ k = .inr (4, fl4 b μ k) := by simp only [wF, h]
theorem inB4 : ∀ w ∈ u_ws RX4 TX4 12, w ∈ TBG := by
  have e : u_ws RX4 TX4 12 = [Jvm.Cond.lays "ContentsSetter$Parser" "ContentsSetter$Parser" "failure" "I", Jvm.Cond.lays "ContentsSetter$Parser" "ContentsSetter$Parser" "failurePosition" "I", Jvm.Cond.laysFinal "ContentsSetter$Parser" "ContentsSetter$Parser" "title" "LContentsSetter$WordRow;", Jvm.Cond.lays "ContentsSetter$Parser" "ContentsSetter$Parser" "titleWords" "I", Jvm.Cond.lays "ContentsSetter$Parser" "ContentsSetter$Parser" "text" "LContentsSetter$Text;", Jvm.Cond.lays "ContentsSetter$Parser" "ContentsSetter$Parser" "kind" "I", Jvm.Cond.lays "ContentsSetter$Parser" "ContentsSetter$Parser" "begin" "I", Jvm.Cond.lays "ContentsSetter$Parser" "ContentsSetter$Parser" "end" "I", Jvm.Cond.lays "ContentsSetter$Parser" "ContentsSetter$Parser" "value" "I", Jvm.Cond.lays "ContentsSetter$Parser" "ContentsSetter$Parser" "styleSeen" "Z", Jvm.Cond.lays "ContentsSetter$Parser" "ContentsSetter$Parser" "rightSeen" "Z", Jvm.Cond.lays "ContentsSetter$Parser" "ContentsSetter$Parser" "mainSeen" "Z"] := by decide +kernel
  rw [e]
  exact List.forall_mem_cons.mpr ⟨q_89, List.forall_mem_cons.mpr ⟨q_91, List.forall_mem_cons.mpr ⟨q_93, List.forall_mem_cons.mpr ⟨q_95, List.forall_mem_cons.mpr ⟨q_97, List.forall_mem_cons.mpr ⟨q_99, List.forall_mem_cons.mpr ⟨q_101, List.forall_mem_cons.mpr ⟨q_103, List.forall_mem_cons.mpr ⟨q_105, List.forall_mem_cons.mpr ⟨q_107, List.forall_mem_cons.mpr ⟨q_109, List.forall_mem_cons.mpr ⟨q_111, fun _ h => absurd h List.not_mem_nil⟩⟩⟩⟩⟩⟩⟩⟩⟩⟩⟩⟩
theorem wF_5 {G : Gt} {b : Nat} {μ : Mm} {k : Nat} (h : ky k = 5) : wF G b μ k = .inr (5, fl5 b μ k) := by simp only [wF, h]
theorem inB5 : ∀ w ∈ u_ws RX5 TX5 1, w ∈ TBG := by
  have e : u_ws RX5 TX5 1 = [Jvm.Cond.laysFinal "ContentsSetter$Row" "ContentsSetter$Row" "cells" "[I"] := by decide +kernel
  rw [e]
  exact List.forall_mem_cons.mpr ⟨q_134, fun _ h => absurd h List.not_mem_nil⟩
theorem wF_6 {G : Gt} {b : Nat} {μ : Mm} {k : Nat} (h : ky k = 6) : wF G b μ k = .inr (6, fl6 b μ k) := by simp only [wF, h]
theorem inB6 : ∀ w ∈ u_ws RX6 TX6 3, w ∈ TBG := by
  have e : u_ws RX6 TX6 3 = [Jvm.Cond.laysFinal "ContentsSetter$State" "ContentsSetter$State" "book" "LContentsSetter$Book;", Jvm.Cond.laysFinal "ContentsSetter$State" "ContentsSetter$State" "proofed" "LContentsSetter$Book;", Jvm.Cond.lays "ContentsSetter$State" "ContentsSetter$State" "proofMade" "Z"] := by decide +kernel
  rw [e]
  exact List.forall_mem_cons.mpr ⟨q_217, List.forall_mem_cons.mpr ⟨q_219, List.forall_mem_cons.mpr ⟨q_221, fun _ h => absurd h List.not_mem_nil⟩⟩⟩
theorem wF_7 {G : Gt} {b : Nat} {μ : Mm} {k : Nat} (h : ky k = 7) : wF G b μ k = .inr (7, fl7 b μ k) := by simp only [wF, h]
theorem inB7 : ∀ w ∈ u_ws RX7 TX7 12, w ∈ TBG := by
  have e : u_ws RX7 TX7 12 = [Jvm.Cond.lays "ContentsSetter$Table" "ContentsSetter$Table" "column" "I", Jvm.Cond.lays "ContentsSetter$Table" "ContentsSetter$Table" "limit" "I", Jvm.Cond.lays "ContentsSetter$Table" "ContentsSetter$Table" "lines" "I", Jvm.Cond.laysFinal "ContentsSetter$Table" "ContentsSetter$Table" "entries" "LContentsSetter$Row;", Jvm.Cond.laysFinal "ContentsSetter$Table" "ContentsSetter$Table" "starts" "LContentsSetter$Row;", Jvm.Cond.laysFinal "ContentsSetter$Table" "ContentsSetter$Table" "ends" "LContentsSetter$Row;", Jvm.Cond.laysFinal "ContentsSetter$Table" "ContentsSetter$Table" "tokenCounts" "LContentsSetter$Row;", Jvm.Cond.laysFinal "ContentsSetter$Table" "ContentsSetter$Table" "firstTokens" "LContentsSetter$Row;", Jvm.Cond.laysFinal "ContentsSetter$Table" "ContentsSetter$Table" "firstLines" "LContentsSetter$Row;", Jvm.Cond.laysFinal "ContentsSetter$Table" "ContentsSetter$Table" "lineCounts" "LContentsSetter$Row;", Jvm.Cond.laysFinal "ContentsSetter$Table" "ContentsSetter$Table" "firstDots" "LContentsSetter$Row;", Jvm.Cond.laysFinal "ContentsSetter$Table" "ContentsSetter$Table" "dotCounts" "LContentsSetter$Row;"] := by decide +kernel
  rw [e]
  exact List.forall_mem_cons.mpr ⟨q_335, List.forall_mem_cons.mpr ⟨q_337, List.forall_mem_cons.mpr ⟨q_339, List.forall_mem_cons.mpr ⟨q_341, List.forall_mem_cons.mpr ⟨q_343, List.forall_mem_cons.mpr ⟨q_345, List.forall_mem_cons.mpr ⟨q_347, List.forall_mem_cons.mpr ⟨q_349, List.forall_mem_cons.mpr ⟨q_351, List.forall_mem_cons.mpr ⟨q_353, List.forall_mem_cons.mpr ⟨q_355, List.forall_mem_cons.mpr ⟨q_357, fun _ h => absurd h List.not_mem_nil⟩⟩⟩⟩⟩⟩⟩⟩⟩⟩⟩⟩
theorem wF_8 {G : Gt} {b : Nat} {μ : Mm} {k : Nat} (h : ky k = 8) : wF G b μ k = .inr (8, fl8 b μ k) := by simp only [wF, h]
theorem inB8 : ∀ w ∈ u_ws RX8 TX8 2, w ∈ TBG := by
  have e : u_ws RX8 TX8 2 = [Jvm.Cond.laysFinal "ContentsSetter$Text" "ContentsSetter$Text" "bytes" "[B", Jvm.Cond.lays "ContentsSetter$Text" "ContentsSetter$Text" "used" "I"] := by decide +kernel
  rw [e]
  exact List.forall_mem_cons.mpr ⟨q_47, List.forall_mem_cons.mpr ⟨q_49, fun _ h => absurd h List.not_mem_nil⟩⟩
theorem wF_9 {G : Gt} {b : Nat} {μ : Mm} {k : Nat} (h : ky k = 9) : wF G b μ k = .inr (9, fl9 b μ k) := by simp only [wF, h]
theorem inB9 : ∀ w ∈ u_ws RX9 TX9 1, w ∈ TBG := by
  have e : u_ws RX9 TX9 1 = [Jvm.Cond.laysFinal "ContentsSetter$WordRow" "ContentsSetter$WordRow" "cells" "[J"] := by decide +kernel
  rw [e]
  exact List.forall_mem_cons.mpr ⟨q_67, fun _ h => absurd h List.not_mem_nil⟩
theorem wF_10 {G : Gt} {b : Nat} {μ : Mm} {k : Nat} (h : ky k = 10) : wF G b μ k = .inr (10, fl10 b μ k) := by simp only [wF, h]
theorem inB10 : ∀ w ∈ u_ws RX10 TX10 3, w ∈ TBG := by
  have e : u_ws RX10 TX10 3 = [Jvm.Cond.laysFinal "ContentsSetter$Words" "ContentsSetter$Words" "sorted" "LContentsSetter$WordRow;", Jvm.Cond.laysFinal "ContentsSetter$Words" "ContentsSetter$Words" "sets" "LContentsSetter$Row;", Jvm.Cond.lays "ContentsSetter$Words" "ContentsSetter$Words" "size" "I"] := by decide +kernel
  rw [e]
  exact List.forall_mem_cons.mpr ⟨q_396, List.forall_mem_cons.mpr ⟨q_398, List.forall_mem_cons.mpr ⟨q_400, fun _ h => absurd h List.not_mem_nil⟩⟩⟩
theorem wF_11 {G : Gt} {b : Nat} {μ : Mm} {k : Nat} (h : ky k = 11) : wF G b μ k = .inr (11, fl11 b μ k) := by simp only [wF, h]
theorem inB11 : ∀ w ∈ u_ws RX11 TX11 15, w ∈ TBG := by
  have e : u_ws RX11 TX11 15 = [Jvm.Cond.laysFinal "ContentsSetter" "ContentsSetter" "input" "LContentsSetter$Text;", Jvm.Cond.laysFinal "ContentsSetter" "ContentsSetter" "output" "LContentsSetter$Text;", Jvm.Cond.laysFinal "ContentsSetter" "ContentsSetter" "parser" "LContentsSetter$Parser;", Jvm.Cond.lays "ContentsSetter" "ContentsSetter" "parseErrorCode" "I", Jvm.Cond.lays "ContentsSetter" "ContentsSetter" "parseErrorPosition" "I", Jvm.Cond.laysFinal "ContentsSetter" "ContentsSetter" "now" "LContentsSetter$State;", Jvm.Cond.laysFinal "ContentsSetter" "ContentsSetter" "earlier" "[LContentsSetter$State;", Jvm.Cond.lays "ContentsSetter" "ContentsSetter" "nextEarlier" "I", Jvm.Cond.lays "ContentsSetter" "ContentsSetter" "undoable" "I", Jvm.Cond.laysFinal "ContentsSetter" "ContentsSetter" "layout" "LContentsSetter$Layout;", Jvm.Cond.laysFinal "ContentsSetter" "ContentsSetter" "words" "LContentsSetter$Words;", Jvm.Cond.laysFinal "ContentsSetter" "ContentsSetter" "trial" "LContentsSetter$Book;", Jvm.Cond.laysFinal "ContentsSetter" "ContentsSetter" "trialLayout" "LContentsSetter$Layout;", Jvm.Cond.laysFinal "ContentsSetter" "ContentsSetter" "typed" "LContentsSetter$Text;", Jvm.Cond.laysFinal "ContentsSetter" "ContentsSetter" "typedBefore" "LContentsSetter$Text;"] := by decide +kernel
  rw [e]
  exact List.forall_mem_cons.mpr ⟨q_547, List.forall_mem_cons.mpr ⟨q_549, List.forall_mem_cons.mpr ⟨q_551, List.forall_mem_cons.mpr ⟨q_553, List.forall_mem_cons.mpr ⟨q_555, List.forall_mem_cons.mpr ⟨q_557, List.forall_mem_cons.mpr ⟨q_559, List.forall_mem_cons.mpr ⟨q_561, List.forall_mem_cons.mpr ⟨q_563, List.forall_mem_cons.mpr ⟨q_565, List.forall_mem_cons.mpr ⟨q_567, List.forall_mem_cons.mpr ⟨q_569, List.forall_mem_cons.mpr ⟨q_571, List.forall_mem_cons.mpr ⟨q_573, List.forall_mem_cons.mpr ⟨q_575, fun _ h => absurd h List.not_mem_nil⟩⟩⟩⟩⟩⟩⟩⟩⟩⟩⟩⟩⟩⟩⟩
theorem wF_12 {G : Gt} {b : Nat} {μ : Mm} {k : Nat} (h : ky k = 12) : wF G b μ k = .inr (12, fl12 b μ k) := by simp only [wF, h]
theorem inB12 : ∀ w ∈ u_ws RX12 TX12 50, w ∈ TBG := by
  have e : u_ws RX12 TX12 50 = [Jvm.Cond.lays "ContentsSetterModel" "ContentsSetterModel" "thrown" "I", Jvm.Cond.laysFinal "ContentsSetterModel" "ContentsSetterModel" "net" "[I", Jvm.Cond.laysFinal "ContentsSetterModel" "ContentsSetterModel" "draft" "[I", Jvm.Cond.lays "ContentsSetterModel" "ContentsSetterModel" "row" "[I", Jvm.Cond.laysFinal "ContentsSetterModel" "ContentsSetterModel" "input" "[B", Jvm.Cond.lays "ContentsSetterModel" "ContentsSetterModel" "inputSize" "I", Jvm.Cond.lays "ContentsSetterModel" "ContentsSetterModel" "size" "I", Jvm.Cond.lays "ContentsSetterModel" "ContentsSetterModel" "next" "I", Jvm.Cond.lays "ContentsSetterModel" "ContentsSetterModel" "start" "I", Jvm.Cond.lays "ContentsSetterModel" "ContentsSetterModel" "token" "I", Jvm.Cond.lays "ContentsSetterModel" "ContentsSetterModel" "value" "I", Jvm.Cond.lays "ContentsSetterModel" "ContentsSetterModel" "errorFound" "I", Jvm.Cond.lays "ContentsSetterModel" "ContentsSetterModel" "errorPlace" "I", Jvm.Cond.lays "ContentsSetterModel" "ContentsSetterModel" "isMain" "Z", Jvm.Cond.lays "ContentsSetterModel" "ContentsSetterModel" "hasStyle" "Z", Jvm.Cond.lays "ContentsSetterModel" "ContentsSetterModel" "hasRight" "Z", Jvm.Cond.laysFinal "ContentsSetterModel" "ContentsSetterModel" "text" "[B", Jvm.Cond.lays "ContentsSetterModel" "ContentsSetterModel" "textSize" "I", Jvm.Cond.laysFinal "ContentsSetterModel" "ContentsSetterModel" "parents" "[I", Jvm.Cond.laysFinal "ContentsSetterModel" "ContentsSetterModel" "ordinals" "[I", Jvm.Cond.laysFinal "ContentsSetterModel" "ContentsSetterModel" "chain" "[I", Jvm.Cond.laysFinal "ContentsSetterModel" "ContentsSetterModel" "pageOf" "[I", Jvm.Cond.laysFinal "ContentsSetterModel" "ContentsSetterModel" "lineOf" "[I", Jvm.Cond.lays "ContentsSetterModel" "ContentsSetterModel" "mainBegin" "I", Jvm.Cond.lays "ContentsSetterModel" "ContentsSetterModel" "bookPages" "I", Jvm.Cond.lays "ContentsSetterModel" "ContentsSetterModel" "flowPage" "I", Jvm.Cond.lays "ContentsSetterModel" "ContentsSetterModel" "flowLine" "I", Jvm.Cond.laysFinal "ContentsSetterModel" "ContentsSetterModel" "lineSection" "[I", Jvm.Cond.laysFinal "ContentsSetterModel" "ContentsSetterModel" "lineStart" "[I", Jvm.Cond.laysFinal "ContentsSetterModel" "ContentsSetterModel" "lineFirst" "[I", Jvm.Cond.laysFinal "ContentsSetterModel" "ContentsSetterModel" "lineTokens" "[I", Jvm.Cond.laysFinal "ContentsSetterModel" "ContentsSetterModel" "lineEnd" "[I", Jvm.Cond.laysFinal "ContentsSetterModel" "ContentsSetterModel" "isLast" "[Z", Jvm.Cond.laysFinal "ContentsSetterModel" "ContentsSetterModel" "lineDots" "[I", Jvm.Cond.laysFinal "ContentsSetterModel" "ContentsSetterModel" "lineDot" "[I", Jvm.Cond.laysFinal "ContentsSetterModel" "ContentsSetterModel" "entryLine" "[I", Jvm.Cond.lays "ContentsSetterModel" "ContentsSetterModel" "lineMany" "I", Jvm.Cond.lays "ContentsSetterModel" "ContentsSetterModel" "column" "I", Jvm.Cond.lays "ContentsSetterModel" "ContentsSetterModel" "limit" "I", Jvm.Cond.lays "ContentsSetterModel" "ContentsSetterModel" "tablePages" "I", Jvm.Cond.lays "ContentsSetterModel" "ContentsSetterModel" "roundMany" "I", Jvm.Cond.laysFinal "ContentsSetterModel" "ContentsSetterModel" "above" "[I", Jvm.Cond.laysFinal "ContentsSetterModel" "ContentsSetterModel" "below" "[I", Jvm.Cond.laysFinal "ContentsSetterModel" "ContentsSetterModel" "wordAt" "[I", Jvm.Cond.lays "ContentsSetterModel" "ContentsSetterModel" "wordMany" "I", Jvm.Cond.laysFinal "ContentsSetterModel" "ContentsSetterModel" "pagesBefore" "[I", Jvm.Cond.laysFinal "ContentsSetterModel" "ContentsSetterModel" "past" "[I", Jvm.Cond.lays "ContentsSetterModel" "ContentsSetterModel" "remembered" "I", Jvm.Cond.laysFinal "ContentsSetterModel" "ContentsSetterModel" "output" "[B", Jvm.Cond.lays "ContentsSetterModel" "ContentsSetterModel" "outputSize" "I"] := by decide +kernel
  rw [e]
  exact List.forall_mem_cons.mpr ⟨q_1521, List.forall_mem_cons.mpr ⟨q_1523, List.forall_mem_cons.mpr ⟨q_1525, List.forall_mem_cons.mpr ⟨q_1527, List.forall_mem_cons.mpr ⟨q_1529, List.forall_mem_cons.mpr ⟨q_1531, List.forall_mem_cons.mpr ⟨q_1533, List.forall_mem_cons.mpr ⟨q_1535, List.forall_mem_cons.mpr ⟨q_1537, List.forall_mem_cons.mpr ⟨q_1539, List.forall_mem_cons.mpr ⟨q_1541, List.forall_mem_cons.mpr ⟨q_1543, List.forall_mem_cons.mpr ⟨q_1545, List.forall_mem_cons.mpr ⟨q_1547, List.forall_mem_cons.mpr ⟨q_1549, List.forall_mem_cons.mpr ⟨q_1551, List.forall_mem_cons.mpr ⟨q_1553, List.forall_mem_cons.mpr ⟨q_1555, List.forall_mem_cons.mpr ⟨q_1557, List.forall_mem_cons.mpr ⟨q_1559, List.forall_mem_cons.mpr ⟨q_1561, List.forall_mem_cons.mpr ⟨q_1563, List.forall_mem_cons.mpr ⟨q_1565, List.forall_mem_cons.mpr ⟨q_1567, List.forall_mem_cons.mpr ⟨q_1569, List.forall_mem_cons.mpr ⟨q_1571, List.forall_mem_cons.mpr ⟨q_1573, List.forall_mem_cons.mpr ⟨q_1575, List.forall_mem_cons.mpr ⟨q_1577, List.forall_mem_cons.mpr ⟨q_1579, List.forall_mem_cons.mpr ⟨q_1581, List.forall_mem_cons.mpr ⟨q_1583, List.forall_mem_cons.mpr ⟨q_1585, List.forall_mem_cons.mpr ⟨q_1587, List.forall_mem_cons.mpr ⟨q_1589, List.forall_mem_cons.mpr ⟨q_1591, List.forall_mem_cons.mpr ⟨q_1593, List.forall_mem_cons.mpr ⟨q_1595, List.forall_mem_cons.mpr ⟨q_1597, List.forall_mem_cons.mpr ⟨q_1599, List.forall_mem_cons.mpr ⟨q_1601, List.forall_mem_cons.mpr ⟨q_1603, List.forall_mem_cons.mpr ⟨q_1605, List.forall_mem_cons.mpr ⟨q_1607, List.forall_mem_cons.mpr ⟨q_1609, List.forall_mem_cons.mpr ⟨q_1611, List.forall_mem_cons.mpr ⟨q_1613, List.forall_mem_cons.mpr ⟨q_1615, List.forall_mem_cons.mpr ⟨q_1617, List.forall_mem_cons.mpr ⟨q_1619, fun _ h => absurd h List.not_mem_nil⟩⟩⟩⟩⟩⟩⟩⟩⟩⟩⟩⟩⟩⟩⟩⟩⟩⟩⟩⟩⟩⟩⟩⟩⟩⟩⟩⟩⟩⟩⟩⟩⟩⟩⟩⟩⟩⟩⟩⟩⟩⟩⟩⟩⟩⟩⟩⟩⟩⟩
def okRo (k : Nat) : Prop := ky k = 5 ∧ ky (k + 1) = 14
def okWR (k : Nat) : Prop := ky k = 9 ∧ ky (k + 1) = 15
def okBk (k : Nat) : Prop := ky k = 0 ∧ okRo (k + 1) ∧ okRo (k + 3) ∧ okRo (k + 5) ∧ okRo (k + 7) ∧ okWR (k + 9) ∧ okRo (k + 11)
def okMz (k : Nat) : Prop := ky k = 2 ∧ okRo (k + 1) ∧ okRo (k + 3) ∧ okRo (k + 5) ∧ okRo (k + 7) ∧ okRo (k + 9) ∧ okRo (k + 11)
def okPz (k : Nat) : Prop := ky k = 3 ∧ okRo (k + 1) ∧ okRo (k + 3) ∧ okRo (k + 5) ∧ okRo (k + 7)
def okTa (k : Nat) : Prop := ky k = 7 ∧ okRo (k + 1) ∧ okRo (k + 3) ∧ okRo (k + 5) ∧ okRo (k + 7) ∧ okRo (k + 9) ∧ okRo (k + 11) ∧ okRo (k + 13) ∧ okRo (k + 15) ∧ okRo (k + 17)
def okLa (k : Nat) : Prop := ky k = 1 ∧ okMz (k + 1) ∧ okPz (k + 14) ∧ okTa (k + 23)
def okSt (k : Nat) : Prop := ky k = 6 ∧ okBk (k + 1) ∧ okBk (k + 14)
theorem kyf_0 : ky 0 = 11 := by decide +kernel
theorem kyf_1 : ky 1 = 8 := by decide +kernel
theorem kyf_2 : ky 2 = 13 := by decide +kernel
theorem kyf_3 : ky 3 = 8 := by decide +kernel
theorem kyf_4 : ky 4 = 13 := by decide +kernel
theorem kyf_5 : ky 5 = 4 := by decide +kernel
theorem kyf_6 : ky 6 = 9 := by decide +kernel
theorem kyf_7 : ky 7 = 15 := by decide +kernel
theorem kyf_8 : ky 8 = 8 := by decide +kernel
theorem kyf_9 : ky 9 = 13 := by decide +kernel
theorem kyf_10 : ky 10 = 6 := by decide +kernel
theorem kyf_11 : ky 11 = 0 := by decide +kernel
theorem kyf_12 : ky 12 = 5 := by decide +kernel
theorem kyf_13 : ky 13 = 14 := by decide +kernel
theorem kyf_14 : ky 14 = 5 := by decide +kernel
theorem kyf_15 : ky 15 = 14 := by decide +kernel
theorem kyf_16 : ky 16 = 5 := by decide +kernel
theorem kyf_17 : ky 17 = 14 := by decide +kernel
theorem kyf_18 : ky 18 = 5 := by decide +kernel
theorem kyf_19 : ky 19 = 14 := by decide +kernel
theorem kyf_20 : ky 20 = 9 := by decide +kernel
theorem kyf_21 : ky 21 = 15 := by decide +kernel
theorem kyf_22 : ky 22 = 5 := by decide +kernel
theorem kyf_23 : ky 23 = 14 := by decide +kernel
theorem kyf_24 : ky 24 = 0 := by decide +kernel
theorem kyf_25 : ky 25 = 5 := by decide +kernel
theorem kyf_26 : ky 26 = 14 := by decide +kernel
theorem kyf_27 : ky 27 = 5 := by decide +kernel
theorem kyf_28 : ky 28 = 14 := by decide +kernel
theorem kyf_29 : ky 29 = 5 := by decide +kernel
theorem kyf_30 : ky 30 = 14 := by decide +kernel
theorem kyf_31 : ky 31 = 5 := by decide +kernel
theorem kyf_32 : ky 32 = 14 := by decide +kernel
theorem kyf_33 : ky 33 = 9 := by decide +kernel
theorem kyf_34 : ky 34 = 15 := by decide +kernel
theorem kyf_35 : ky 35 = 5 := by decide +kernel
theorem kyf_36 : ky 36 = 14 := by decide +kernel
theorem kyf_37 : ky 37 = 17 := by decide +kernel
theorem kyf_38 : ky 38 = 1 := by decide +kernel
theorem kyf_39 : ky 39 = 2 := by decide +kernel
theorem kyf_40 : ky 40 = 5 := by decide +kernel
theorem kyf_41 : ky 41 = 14 := by decide +kernel
theorem kyf_42 : ky 42 = 5 := by decide +kernel
theorem kyf_43 : ky 43 = 14 := by decide +kernel
theorem kyf_44 : ky 44 = 5 := by decide +kernel
theorem kyf_45 : ky 45 = 14 := by decide +kernel
theorem kyf_46 : ky 46 = 5 := by decide +kernel
theorem kyf_47 : ky 47 = 14 := by decide +kernel
theorem kyf_48 : ky 48 = 5 := by decide +kernel
theorem kyf_49 : ky 49 = 14 := by decide +kernel
theorem kyf_50 : ky 50 = 5 := by decide +kernel
theorem kyf_51 : ky 51 = 14 := by decide +kernel
theorem kyf_52 : ky 52 = 3 := by decide +kernel
theorem kyf_53 : ky 53 = 5 := by decide +kernel
theorem kyf_54 : ky 54 = 14 := by decide +kernel
theorem kyf_55 : ky 55 = 5 := by decide +kernel
theorem kyf_56 : ky 56 = 14 := by decide +kernel
theorem kyf_57 : ky 57 = 5 := by decide +kernel
theorem kyf_58 : ky 58 = 14 := by decide +kernel
theorem kyf_59 : ky 59 = 5 := by decide +kernel
theorem kyf_60 : ky 60 = 14 := by decide +kernel
theorem kyf_61 : ky 61 = 7 := by decide +kernel
theorem kyf_62 : ky 62 = 5 := by decide +kernel
theorem kyf_63 : ky 63 = 14 := by decide +kernel
theorem kyf_64 : ky 64 = 5 := by decide +kernel
theorem kyf_65 : ky 65 = 14 := by decide +kernel
theorem kyf_66 : ky 66 = 5 := by decide +kernel
theorem kyf_67 : ky 67 = 14 := by decide +kernel
theorem kyf_68 : ky 68 = 5 := by decide +kernel
theorem kyf_69 : ky 69 = 14 := by decide +kernel
theorem kyf_70 : ky 70 = 5 := by decide +kernel
theorem kyf_71 : ky 71 = 14 := by decide +kernel
theorem kyf_72 : ky 72 = 5 := by decide +kernel
theorem kyf_73 : ky 73 = 14 := by decide +kernel
theorem kyf_74 : ky 74 = 5 := by decide +kernel
theorem kyf_75 : ky 75 = 14 := by decide +kernel
theorem kyf_76 : ky 76 = 5 := by decide +kernel
theorem kyf_77 : ky 77 = 14 := by decide +kernel
theorem kyf_78 : ky 78 = 5 := by decide +kernel
theorem kyf_79 : ky 79 = 14 := by decide +kernel
theorem kyf_80 : ky 80 = 10 := by decide +kernel
theorem kyf_81 : ky 81 = 9 := by decide +kernel
theorem kyf_82 : ky 82 = 15 := by decide +kernel
theorem kyf_83 : ky 83 = 5 := by decide +kernel
theorem kyf_84 : ky 84 = 14 := by decide +kernel
theorem kyf_85 : ky 85 = 0 := by decide +kernel
theorem kyf_86 : ky 86 = 5 := by decide +kernel
theorem kyf_87 : ky 87 = 14 := by decide +kernel
theorem kyf_88 : ky 88 = 5 := by decide +kernel
theorem kyf_89 : ky 89 = 14 := by decide +kernel
theorem kyf_90 : ky 90 = 5 := by decide +kernel
theorem kyf_91 : ky 91 = 14 := by decide +kernel
theorem kyf_92 : ky 92 = 5 := by decide +kernel
theorem kyf_93 : ky 93 = 14 := by decide +kernel
theorem kyf_94 : ky 94 = 9 := by decide +kernel
theorem kyf_95 : ky 95 = 15 := by decide +kernel
theorem kyf_96 : ky 96 = 5 := by decide +kernel
theorem kyf_97 : ky 97 = 14 := by decide +kernel
theorem kyf_98 : ky 98 = 1 := by decide +kernel
theorem kyf_99 : ky 99 = 2 := by decide +kernel
theorem kyf_100 : ky 100 = 5 := by decide +kernel
theorem kyf_101 : ky 101 = 14 := by decide +kernel
theorem kyf_102 : ky 102 = 5 := by decide +kernel
theorem kyf_103 : ky 103 = 14 := by decide +kernel
theorem kyf_104 : ky 104 = 5 := by decide +kernel
theorem kyf_105 : ky 105 = 14 := by decide +kernel
theorem kyf_106 : ky 106 = 5 := by decide +kernel
theorem kyf_107 : ky 107 = 14 := by decide +kernel
theorem kyf_108 : ky 108 = 5 := by decide +kernel
theorem kyf_109 : ky 109 = 14 := by decide +kernel
theorem kyf_110 : ky 110 = 5 := by decide +kernel
theorem kyf_111 : ky 111 = 14 := by decide +kernel
theorem kyf_112 : ky 112 = 3 := by decide +kernel
theorem kyf_113 : ky 113 = 5 := by decide +kernel
theorem kyf_114 : ky 114 = 14 := by decide +kernel
theorem kyf_115 : ky 115 = 5 := by decide +kernel
theorem kyf_116 : ky 116 = 14 := by decide +kernel
theorem kyf_117 : ky 117 = 5 := by decide +kernel
theorem kyf_118 : ky 118 = 14 := by decide +kernel
theorem kyf_119 : ky 119 = 5 := by decide +kernel
theorem kyf_120 : ky 120 = 14 := by decide +kernel
theorem kyf_121 : ky 121 = 7 := by decide +kernel
theorem kyf_122 : ky 122 = 5 := by decide +kernel
theorem kyf_123 : ky 123 = 14 := by decide +kernel
theorem kyf_124 : ky 124 = 5 := by decide +kernel
theorem kyf_125 : ky 125 = 14 := by decide +kernel
theorem kyf_126 : ky 126 = 5 := by decide +kernel
theorem kyf_127 : ky 127 = 14 := by decide +kernel
theorem kyf_128 : ky 128 = 5 := by decide +kernel
theorem kyf_129 : ky 129 = 14 := by decide +kernel
theorem kyf_130 : ky 130 = 5 := by decide +kernel
theorem kyf_131 : ky 131 = 14 := by decide +kernel
theorem kyf_132 : ky 132 = 5 := by decide +kernel
theorem kyf_133 : ky 133 = 14 := by decide +kernel
theorem kyf_134 : ky 134 = 5 := by decide +kernel
theorem kyf_135 : ky 135 = 14 := by decide +kernel
theorem kyf_136 : ky 136 = 5 := by decide +kernel
theorem kyf_137 : ky 137 = 14 := by decide +kernel
theorem kyf_138 : ky 138 = 5 := by decide +kernel
theorem kyf_139 : ky 139 = 14 := by decide +kernel
theorem kyf_140 : ky 140 = 8 := by decide +kernel
theorem kyf_141 : ky 141 = 13 := by decide +kernel
theorem kyf_142 : ky 142 = 8 := by decide +kernel
theorem kyf_143 : ky 143 = 13 := by decide +kernel
theorem kyf_144 : ky 144 = 6 := by decide +kernel
theorem kyf_145 : ky 145 = 0 := by decide +kernel
theorem kyf_146 : ky 146 = 5 := by decide +kernel
theorem kyf_147 : ky 147 = 14 := by decide +kernel
theorem kyf_148 : ky 148 = 5 := by decide +kernel
theorem kyf_149 : ky 149 = 14 := by decide +kernel
theorem kyf_150 : ky 150 = 5 := by decide +kernel
theorem kyf_151 : ky 151 = 14 := by decide +kernel
theorem kyf_152 : ky 152 = 5 := by decide +kernel
theorem kyf_153 : ky 153 = 14 := by decide +kernel
theorem kyf_154 : ky 154 = 9 := by decide +kernel
theorem kyf_155 : ky 155 = 15 := by decide +kernel
theorem kyf_156 : ky 156 = 5 := by decide +kernel
theorem kyf_157 : ky 157 = 14 := by decide +kernel
theorem kyf_158 : ky 158 = 0 := by decide +kernel
theorem kyf_159 : ky 159 = 5 := by decide +kernel
theorem kyf_160 : ky 160 = 14 := by decide +kernel
theorem kyf_161 : ky 161 = 5 := by decide +kernel
theorem kyf_162 : ky 162 = 14 := by decide +kernel
theorem kyf_163 : ky 163 = 5 := by decide +kernel
theorem kyf_164 : ky 164 = 14 := by decide +kernel
theorem kyf_165 : ky 165 = 5 := by decide +kernel
theorem kyf_166 : ky 166 = 14 := by decide +kernel
theorem kyf_167 : ky 167 = 9 := by decide +kernel
theorem kyf_168 : ky 168 = 15 := by decide +kernel
theorem kyf_169 : ky 169 = 5 := by decide +kernel
theorem kyf_170 : ky 170 = 14 := by decide +kernel
theorem kyf_171 : ky 171 = 6 := by decide +kernel
theorem kyf_172 : ky 172 = 0 := by decide +kernel
theorem kyf_173 : ky 173 = 5 := by decide +kernel
theorem kyf_174 : ky 174 = 14 := by decide +kernel
theorem kyf_175 : ky 175 = 5 := by decide +kernel
theorem kyf_176 : ky 176 = 14 := by decide +kernel
theorem kyf_177 : ky 177 = 5 := by decide +kernel
theorem kyf_178 : ky 178 = 14 := by decide +kernel
theorem kyf_179 : ky 179 = 5 := by decide +kernel
theorem kyf_180 : ky 180 = 14 := by decide +kernel
theorem kyf_181 : ky 181 = 9 := by decide +kernel
theorem kyf_182 : ky 182 = 15 := by decide +kernel
theorem kyf_183 : ky 183 = 5 := by decide +kernel
theorem kyf_184 : ky 184 = 14 := by decide +kernel
theorem kyf_185 : ky 185 = 0 := by decide +kernel
theorem kyf_186 : ky 186 = 5 := by decide +kernel
theorem kyf_187 : ky 187 = 14 := by decide +kernel
theorem kyf_188 : ky 188 = 5 := by decide +kernel
theorem kyf_189 : ky 189 = 14 := by decide +kernel
theorem kyf_190 : ky 190 = 5 := by decide +kernel
theorem kyf_191 : ky 191 = 14 := by decide +kernel
theorem kyf_192 : ky 192 = 5 := by decide +kernel
theorem kyf_193 : ky 193 = 14 := by decide +kernel
theorem kyf_194 : ky 194 = 9 := by decide +kernel
theorem kyf_195 : ky 195 = 15 := by decide +kernel
theorem kyf_196 : ky 196 = 5 := by decide +kernel
theorem kyf_197 : ky 197 = 14 := by decide +kernel
theorem kyf_198 : ky 198 = 6 := by decide +kernel
theorem kyf_199 : ky 199 = 0 := by decide +kernel
theorem kyf_200 : ky 200 = 5 := by decide +kernel
theorem kyf_201 : ky 201 = 14 := by decide +kernel
theorem kyf_202 : ky 202 = 5 := by decide +kernel
theorem kyf_203 : ky 203 = 14 := by decide +kernel
theorem kyf_204 : ky 204 = 5 := by decide +kernel
theorem kyf_205 : ky 205 = 14 := by decide +kernel
theorem kyf_206 : ky 206 = 5 := by decide +kernel
theorem kyf_207 : ky 207 = 14 := by decide +kernel
theorem kyf_208 : ky 208 = 9 := by decide +kernel
theorem kyf_209 : ky 209 = 15 := by decide +kernel
theorem kyf_210 : ky 210 = 5 := by decide +kernel
theorem kyf_211 : ky 211 = 14 := by decide +kernel
theorem kyf_212 : ky 212 = 0 := by decide +kernel
theorem kyf_213 : ky 213 = 5 := by decide +kernel
theorem kyf_214 : ky 214 = 14 := by decide +kernel
theorem kyf_215 : ky 215 = 5 := by decide +kernel
theorem kyf_216 : ky 216 = 14 := by decide +kernel
theorem kyf_217 : ky 217 = 5 := by decide +kernel
theorem kyf_218 : ky 218 = 14 := by decide +kernel
theorem kyf_219 : ky 219 = 5 := by decide +kernel
theorem kyf_220 : ky 220 = 14 := by decide +kernel
theorem kyf_221 : ky 221 = 9 := by decide +kernel
theorem kyf_222 : ky 222 = 15 := by decide +kernel
theorem kyf_223 : ky 223 = 5 := by decide +kernel
theorem kyf_224 : ky 224 = 14 := by decide +kernel
theorem kyf_225 : ky 225 = 6 := by decide +kernel
theorem kyf_226 : ky 226 = 0 := by decide +kernel
theorem kyf_227 : ky 227 = 5 := by decide +kernel
theorem kyf_228 : ky 228 = 14 := by decide +kernel
theorem kyf_229 : ky 229 = 5 := by decide +kernel
theorem kyf_230 : ky 230 = 14 := by decide +kernel
theorem kyf_231 : ky 231 = 5 := by decide +kernel
theorem kyf_232 : ky 232 = 14 := by decide +kernel
theorem kyf_233 : ky 233 = 5 := by decide +kernel
theorem kyf_234 : ky 234 = 14 := by decide +kernel
theorem kyf_235 : ky 235 = 9 := by decide +kernel
theorem kyf_236 : ky 236 = 15 := by decide +kernel
theorem kyf_237 : ky 237 = 5 := by decide +kernel
theorem kyf_238 : ky 238 = 14 := by decide +kernel
theorem kyf_239 : ky 239 = 0 := by decide +kernel
theorem kyf_240 : ky 240 = 5 := by decide +kernel
theorem kyf_241 : ky 241 = 14 := by decide +kernel
theorem kyf_242 : ky 242 = 5 := by decide +kernel
theorem kyf_243 : ky 243 = 14 := by decide +kernel
theorem kyf_244 : ky 244 = 5 := by decide +kernel
theorem kyf_245 : ky 245 = 14 := by decide +kernel
theorem kyf_246 : ky 246 = 5 := by decide +kernel
theorem kyf_247 : ky 247 = 14 := by decide +kernel
theorem kyf_248 : ky 248 = 9 := by decide +kernel
theorem kyf_249 : ky 249 = 15 := by decide +kernel
theorem kyf_250 : ky 250 = 5 := by decide +kernel
theorem kyf_251 : ky 251 = 14 := by decide +kernel
theorem kyf_252 : ky 252 = 6 := by decide +kernel
theorem kyf_253 : ky 253 = 0 := by decide +kernel
theorem kyf_254 : ky 254 = 5 := by decide +kernel
theorem kyf_255 : ky 255 = 14 := by decide +kernel
theorem kyf_256 : ky 256 = 5 := by decide +kernel
theorem kyf_257 : ky 257 = 14 := by decide +kernel
theorem kyf_258 : ky 258 = 5 := by decide +kernel
theorem kyf_259 : ky 259 = 14 := by decide +kernel
theorem kyf_260 : ky 260 = 5 := by decide +kernel
theorem kyf_261 : ky 261 = 14 := by decide +kernel
theorem kyf_262 : ky 262 = 9 := by decide +kernel
theorem kyf_263 : ky 263 = 15 := by decide +kernel
theorem kyf_264 : ky 264 = 5 := by decide +kernel
theorem kyf_265 : ky 265 = 14 := by decide +kernel
theorem kyf_266 : ky 266 = 0 := by decide +kernel
theorem kyf_267 : ky 267 = 5 := by decide +kernel
theorem kyf_268 : ky 268 = 14 := by decide +kernel
theorem kyf_269 : ky 269 = 5 := by decide +kernel
theorem kyf_270 : ky 270 = 14 := by decide +kernel
theorem kyf_271 : ky 271 = 5 := by decide +kernel
theorem kyf_272 : ky 272 = 14 := by decide +kernel
theorem kyf_273 : ky 273 = 5 := by decide +kernel
theorem kyf_274 : ky 274 = 14 := by decide +kernel
theorem kyf_275 : ky 275 = 9 := by decide +kernel
theorem kyf_276 : ky 276 = 15 := by decide +kernel
theorem kyf_277 : ky 277 = 5 := by decide +kernel
theorem kyf_278 : ky 278 = 14 := by decide +kernel
theorem kyf_279 : ky 279 = 6 := by decide +kernel
theorem kyf_280 : ky 280 = 0 := by decide +kernel
theorem kyf_281 : ky 281 = 5 := by decide +kernel
theorem kyf_282 : ky 282 = 14 := by decide +kernel
theorem kyf_283 : ky 283 = 5 := by decide +kernel
theorem kyf_284 : ky 284 = 14 := by decide +kernel
theorem kyf_285 : ky 285 = 5 := by decide +kernel
theorem kyf_286 : ky 286 = 14 := by decide +kernel
theorem kyf_287 : ky 287 = 5 := by decide +kernel
theorem kyf_288 : ky 288 = 14 := by decide +kernel
theorem kyf_289 : ky 289 = 9 := by decide +kernel
theorem kyf_290 : ky 290 = 15 := by decide +kernel
theorem kyf_291 : ky 291 = 5 := by decide +kernel
theorem kyf_292 : ky 292 = 14 := by decide +kernel
theorem kyf_293 : ky 293 = 0 := by decide +kernel
theorem kyf_294 : ky 294 = 5 := by decide +kernel
theorem kyf_295 : ky 295 = 14 := by decide +kernel
theorem kyf_296 : ky 296 = 5 := by decide +kernel
theorem kyf_297 : ky 297 = 14 := by decide +kernel
theorem kyf_298 : ky 298 = 5 := by decide +kernel
theorem kyf_299 : ky 299 = 14 := by decide +kernel
theorem kyf_300 : ky 300 = 5 := by decide +kernel
theorem kyf_301 : ky 301 = 14 := by decide +kernel
theorem kyf_302 : ky 302 = 9 := by decide +kernel
theorem kyf_303 : ky 303 = 15 := by decide +kernel
theorem kyf_304 : ky 304 = 5 := by decide +kernel
theorem kyf_305 : ky 305 = 14 := by decide +kernel
theorem kyf_306 : ky 306 = 12 := by decide +kernel
theorem kyf_307 : ky 307 = 24 := by decide +kernel
theorem kyf_308 : ky 308 = 24 := by decide +kernel
theorem kyf_309 : ky 309 = 23 := by decide +kernel
theorem kyf_310 : ky 310 = 23 := by decide +kernel
theorem kyf_311 : ky 311 = 24 := by decide +kernel
theorem kyf_312 : ky 312 = 24 := by decide +kernel
theorem kyf_313 : ky 313 = 24 := by decide +kernel
theorem kyf_314 : ky 314 = 24 := by decide +kernel
theorem kyf_315 : ky 315 = 24 := by decide +kernel
theorem kyf_316 : ky 316 = 24 := by decide +kernel
theorem kyf_317 : ky 317 = 24 := by decide +kernel
theorem kyf_318 : ky 318 = 24 := by decide +kernel
theorem kyf_319 : ky 319 = 24 := by decide +kernel
theorem kyf_320 : ky 320 = 24 := by decide +kernel
theorem kyf_321 : ky 321 = 16 := by decide +kernel
theorem kyf_322 : ky 322 = 24 := by decide +kernel
theorem kyf_323 : ky 323 = 24 := by decide +kernel
theorem kyf_324 : ky 324 = 24 := by decide +kernel
theorem kyf_325 : ky 325 = 24 := by decide +kernel
theorem kyf_326 : ky 326 = 24 := by decide +kernel
theorem kyf_327 : ky 327 = 24 := by decide +kernel
theorem kyf_328 : ky 328 = 24 := by decide +kernel
theorem kyf_329 : ky 329 = 24 := by decide +kernel
theorem kyf_330 : ky 330 = 23 := by decide +kernel
theorem kyf_331 : ky 331 = 25 := by decide +kernel
theorem ok_12 : okRo 12 := ⟨kyf_12, kyf_13⟩
theorem ok_14 : okRo 14 := ⟨kyf_14, kyf_15⟩
theorem ok_16 : okRo 16 := ⟨kyf_16, kyf_17⟩
theorem ok_18 : okRo 18 := ⟨kyf_18, kyf_19⟩
theorem ok_22 : okRo 22 := ⟨kyf_22, kyf_23⟩
theorem ok_25 : okRo 25 := ⟨kyf_25, kyf_26⟩
theorem ok_27 : okRo 27 := ⟨kyf_27, kyf_28⟩
theorem ok_29 : okRo 29 := ⟨kyf_29, kyf_30⟩
theorem ok_31 : okRo 31 := ⟨kyf_31, kyf_32⟩
theorem ok_35 : okRo 35 := ⟨kyf_35, kyf_36⟩
theorem ok_40 : okRo 40 := ⟨kyf_40, kyf_41⟩
theorem ok_42 : okRo 42 := ⟨kyf_42, kyf_43⟩
theorem ok_44 : okRo 44 := ⟨kyf_44, kyf_45⟩
theorem ok_46 : okRo 46 := ⟨kyf_46, kyf_47⟩
theorem ok_48 : okRo 48 := ⟨kyf_48, kyf_49⟩
theorem ok_50 : okRo 50 := ⟨kyf_50, kyf_51⟩
theorem ok_53 : okRo 53 := ⟨kyf_53, kyf_54⟩
theorem ok_55 : okRo 55 := ⟨kyf_55, kyf_56⟩
theorem ok_57 : okRo 57 := ⟨kyf_57, kyf_58⟩
theorem ok_59 : okRo 59 := ⟨kyf_59, kyf_60⟩
theorem ok_62 : okRo 62 := ⟨kyf_62, kyf_63⟩
theorem ok_64 : okRo 64 := ⟨kyf_64, kyf_65⟩
theorem ok_66 : okRo 66 := ⟨kyf_66, kyf_67⟩
theorem ok_68 : okRo 68 := ⟨kyf_68, kyf_69⟩
theorem ok_70 : okRo 70 := ⟨kyf_70, kyf_71⟩
theorem ok_72 : okRo 72 := ⟨kyf_72, kyf_73⟩
theorem ok_74 : okRo 74 := ⟨kyf_74, kyf_75⟩
theorem ok_76 : okRo 76 := ⟨kyf_76, kyf_77⟩
theorem ok_78 : okRo 78 := ⟨kyf_78, kyf_79⟩
theorem ok_83 : okRo 83 := ⟨kyf_83, kyf_84⟩
theorem ok_86 : okRo 86 := ⟨kyf_86, kyf_87⟩
theorem ok_88 : okRo 88 := ⟨kyf_88, kyf_89⟩
theorem ok_90 : okRo 90 := ⟨kyf_90, kyf_91⟩
theorem ok_92 : okRo 92 := ⟨kyf_92, kyf_93⟩
theorem ok_96 : okRo 96 := ⟨kyf_96, kyf_97⟩
theorem ok_100 : okRo 100 := ⟨kyf_100, kyf_101⟩
theorem ok_102 : okRo 102 := ⟨kyf_102, kyf_103⟩
theorem ok_104 : okRo 104 := ⟨kyf_104, kyf_105⟩
theorem ok_106 : okRo 106 := ⟨kyf_106, kyf_107⟩
theorem ok_108 : okRo 108 := ⟨kyf_108, kyf_109⟩
theorem ok_110 : okRo 110 := ⟨kyf_110, kyf_111⟩
theorem ok_113 : okRo 113 := ⟨kyf_113, kyf_114⟩
theorem ok_115 : okRo 115 := ⟨kyf_115, kyf_116⟩
theorem ok_117 : okRo 117 := ⟨kyf_117, kyf_118⟩
theorem ok_119 : okRo 119 := ⟨kyf_119, kyf_120⟩
theorem ok_122 : okRo 122 := ⟨kyf_122, kyf_123⟩
theorem ok_124 : okRo 124 := ⟨kyf_124, kyf_125⟩
theorem ok_126 : okRo 126 := ⟨kyf_126, kyf_127⟩
theorem ok_128 : okRo 128 := ⟨kyf_128, kyf_129⟩
theorem ok_130 : okRo 130 := ⟨kyf_130, kyf_131⟩
theorem ok_132 : okRo 132 := ⟨kyf_132, kyf_133⟩
theorem ok_134 : okRo 134 := ⟨kyf_134, kyf_135⟩
theorem ok_136 : okRo 136 := ⟨kyf_136, kyf_137⟩
theorem ok_138 : okRo 138 := ⟨kyf_138, kyf_139⟩
theorem ok_146 : okRo 146 := ⟨kyf_146, kyf_147⟩
theorem ok_148 : okRo 148 := ⟨kyf_148, kyf_149⟩
theorem ok_150 : okRo 150 := ⟨kyf_150, kyf_151⟩
theorem ok_152 : okRo 152 := ⟨kyf_152, kyf_153⟩
theorem ok_156 : okRo 156 := ⟨kyf_156, kyf_157⟩
theorem ok_159 : okRo 159 := ⟨kyf_159, kyf_160⟩
theorem ok_161 : okRo 161 := ⟨kyf_161, kyf_162⟩
theorem ok_163 : okRo 163 := ⟨kyf_163, kyf_164⟩
theorem ok_165 : okRo 165 := ⟨kyf_165, kyf_166⟩
theorem ok_169 : okRo 169 := ⟨kyf_169, kyf_170⟩
theorem ok_173 : okRo 173 := ⟨kyf_173, kyf_174⟩
theorem ok_175 : okRo 175 := ⟨kyf_175, kyf_176⟩
theorem ok_177 : okRo 177 := ⟨kyf_177, kyf_178⟩
theorem ok_179 : okRo 179 := ⟨kyf_179, kyf_180⟩
theorem ok_183 : okRo 183 := ⟨kyf_183, kyf_184⟩
theorem ok_186 : okRo 186 := ⟨kyf_186, kyf_187⟩
theorem ok_188 : okRo 188 := ⟨kyf_188, kyf_189⟩
theorem ok_190 : okRo 190 := ⟨kyf_190, kyf_191⟩
theorem ok_192 : okRo 192 := ⟨kyf_192, kyf_193⟩
theorem ok_196 : okRo 196 := ⟨kyf_196, kyf_197⟩
theorem ok_200 : okRo 200 := ⟨kyf_200, kyf_201⟩
theorem ok_202 : okRo 202 := ⟨kyf_202, kyf_203⟩
theorem ok_204 : okRo 204 := ⟨kyf_204, kyf_205⟩
theorem ok_206 : okRo 206 := ⟨kyf_206, kyf_207⟩
theorem ok_210 : okRo 210 := ⟨kyf_210, kyf_211⟩
theorem ok_213 : okRo 213 := ⟨kyf_213, kyf_214⟩
theorem ok_215 : okRo 215 := ⟨kyf_215, kyf_216⟩
theorem ok_217 : okRo 217 := ⟨kyf_217, kyf_218⟩
theorem ok_219 : okRo 219 := ⟨kyf_219, kyf_220⟩
theorem ok_223 : okRo 223 := ⟨kyf_223, kyf_224⟩
theorem ok_227 : okRo 227 := ⟨kyf_227, kyf_228⟩
theorem ok_229 : okRo 229 := ⟨kyf_229, kyf_230⟩
theorem ok_231 : okRo 231 := ⟨kyf_231, kyf_232⟩
theorem ok_233 : okRo 233 := ⟨kyf_233, kyf_234⟩
theorem ok_237 : okRo 237 := ⟨kyf_237, kyf_238⟩
theorem ok_240 : okRo 240 := ⟨kyf_240, kyf_241⟩
theorem ok_242 : okRo 242 := ⟨kyf_242, kyf_243⟩
theorem ok_244 : okRo 244 := ⟨kyf_244, kyf_245⟩
theorem ok_246 : okRo 246 := ⟨kyf_246, kyf_247⟩
theorem ok_250 : okRo 250 := ⟨kyf_250, kyf_251⟩
theorem ok_254 : okRo 254 := ⟨kyf_254, kyf_255⟩
theorem ok_256 : okRo 256 := ⟨kyf_256, kyf_257⟩
theorem ok_258 : okRo 258 := ⟨kyf_258, kyf_259⟩
theorem ok_260 : okRo 260 := ⟨kyf_260, kyf_261⟩
theorem ok_264 : okRo 264 := ⟨kyf_264, kyf_265⟩
theorem ok_267 : okRo 267 := ⟨kyf_267, kyf_268⟩
theorem ok_269 : okRo 269 := ⟨kyf_269, kyf_270⟩
theorem ok_271 : okRo 271 := ⟨kyf_271, kyf_272⟩
theorem ok_273 : okRo 273 := ⟨kyf_273, kyf_274⟩
theorem ok_277 : okRo 277 := ⟨kyf_277, kyf_278⟩
theorem ok_281 : okRo 281 := ⟨kyf_281, kyf_282⟩
theorem ok_283 : okRo 283 := ⟨kyf_283, kyf_284⟩
theorem ok_285 : okRo 285 := ⟨kyf_285, kyf_286⟩
theorem ok_287 : okRo 287 := ⟨kyf_287, kyf_288⟩
theorem ok_291 : okRo 291 := ⟨kyf_291, kyf_292⟩
theorem ok_294 : okRo 294 := ⟨kyf_294, kyf_295⟩
theorem ok_296 : okRo 296 := ⟨kyf_296, kyf_297⟩
theorem ok_298 : okRo 298 := ⟨kyf_298, kyf_299⟩
theorem ok_300 : okRo 300 := ⟨kyf_300, kyf_301⟩
theorem ok_304 : okRo 304 := ⟨kyf_304, kyf_305⟩
theorem ok_6 : okWR 6 := ⟨kyf_6, kyf_7⟩
theorem ok_20 : okWR 20 := ⟨kyf_20, kyf_21⟩
theorem ok_33 : okWR 33 := ⟨kyf_33, kyf_34⟩
theorem ok_81 : okWR 81 := ⟨kyf_81, kyf_82⟩
theorem ok_94 : okWR 94 := ⟨kyf_94, kyf_95⟩
theorem ok_154 : okWR 154 := ⟨kyf_154, kyf_155⟩
theorem ok_167 : okWR 167 := ⟨kyf_167, kyf_168⟩
theorem ok_181 : okWR 181 := ⟨kyf_181, kyf_182⟩
theorem ok_194 : okWR 194 := ⟨kyf_194, kyf_195⟩
theorem ok_208 : okWR 208 := ⟨kyf_208, kyf_209⟩
theorem ok_221 : okWR 221 := ⟨kyf_221, kyf_222⟩
theorem ok_235 : okWR 235 := ⟨kyf_235, kyf_236⟩
theorem ok_248 : okWR 248 := ⟨kyf_248, kyf_249⟩
theorem ok_262 : okWR 262 := ⟨kyf_262, kyf_263⟩
theorem ok_275 : okWR 275 := ⟨kyf_275, kyf_276⟩
theorem ok_289 : okWR 289 := ⟨kyf_289, kyf_290⟩
theorem ok_302 : okWR 302 := ⟨kyf_302, kyf_303⟩
theorem ok_1 : okTx 1 := ⟨kyf_1, kyf_2⟩
theorem ok_3 : okTx 3 := ⟨kyf_3, kyf_4⟩
theorem ok_8 : okTx 8 := ⟨kyf_8, kyf_9⟩
theorem ok_140 : okTx 140 := ⟨kyf_140, kyf_141⟩
theorem ok_142 : okTx 142 := ⟨kyf_142, kyf_143⟩
theorem ok_11 : okBk 11 := ⟨kyf_11, ok_12, ok_14, ok_16, ok_18, ok_20, ok_22⟩
theorem ok_24 : okBk 24 := ⟨kyf_24, ok_25, ok_27, ok_29, ok_31, ok_33, ok_35⟩
theorem ok_85 : okBk 85 := ⟨kyf_85, ok_86, ok_88, ok_90, ok_92, ok_94, ok_96⟩
theorem ok_145 : okBk 145 := ⟨kyf_145, ok_146, ok_148, ok_150, ok_152, ok_154, ok_156⟩
theorem ok_158 : okBk 158 := ⟨kyf_158, ok_159, ok_161, ok_163, ok_165, ok_167, ok_169⟩
theorem ok_172 : okBk 172 := ⟨kyf_172, ok_173, ok_175, ok_177, ok_179, ok_181, ok_183⟩
theorem ok_185 : okBk 185 := ⟨kyf_185, ok_186, ok_188, ok_190, ok_192, ok_194, ok_196⟩
theorem ok_199 : okBk 199 := ⟨kyf_199, ok_200, ok_202, ok_204, ok_206, ok_208, ok_210⟩
theorem ok_212 : okBk 212 := ⟨kyf_212, ok_213, ok_215, ok_217, ok_219, ok_221, ok_223⟩
theorem ok_226 : okBk 226 := ⟨kyf_226, ok_227, ok_229, ok_231, ok_233, ok_235, ok_237⟩
theorem ok_239 : okBk 239 := ⟨kyf_239, ok_240, ok_242, ok_244, ok_246, ok_248, ok_250⟩
theorem ok_253 : okBk 253 := ⟨kyf_253, ok_254, ok_256, ok_258, ok_260, ok_262, ok_264⟩
theorem ok_266 : okBk 266 := ⟨kyf_266, ok_267, ok_269, ok_271, ok_273, ok_275, ok_277⟩
theorem ok_280 : okBk 280 := ⟨kyf_280, ok_281, ok_283, ok_285, ok_287, ok_289, ok_291⟩
theorem ok_293 : okBk 293 := ⟨kyf_293, ok_294, ok_296, ok_298, ok_300, ok_302, ok_304⟩
theorem ok_39 : okMz 39 := ⟨kyf_39, ok_40, ok_42, ok_44, ok_46, ok_48, ok_50⟩
theorem ok_99 : okMz 99 := ⟨kyf_99, ok_100, ok_102, ok_104, ok_106, ok_108, ok_110⟩
theorem ok_52 : okPz 52 := ⟨kyf_52, ok_53, ok_55, ok_57, ok_59⟩
theorem ok_112 : okPz 112 := ⟨kyf_112, ok_113, ok_115, ok_117, ok_119⟩
theorem ok_61 : okTa 61 := ⟨kyf_61, ok_62, ok_64, ok_66, ok_68, ok_70, ok_72, ok_74, ok_76, ok_78⟩
theorem ok_121 : okTa 121 := ⟨kyf_121, ok_122, ok_124, ok_126, ok_128, ok_130, ok_132, ok_134, ok_136, ok_138⟩
theorem ok_38 : okLa 38 := ⟨kyf_38, ok_39, ok_52, ok_61⟩
theorem ok_98 : okLa 98 := ⟨kyf_98, ok_99, ok_112, ok_121⟩
theorem ok_10 : okSt 10 := ⟨kyf_10, ok_11, ok_24⟩
theorem ok_144 : okSt 144 := ⟨kyf_144, ok_145, ok_158⟩
theorem ok_171 : okSt 171 := ⟨kyf_171, ok_172, ok_185⟩
theorem ok_198 : okSt 198 := ⟨kyf_198, ok_199, ok_212⟩
theorem ok_225 : okSt 225 := ⟨kyf_225, ok_226, ok_239⟩
theorem ok_252 : okSt 252 := ⟨kyf_252, ok_253, ok_266⟩
theorem ok_279 : okSt 279 := ⟨kyf_279, ok_280, ok_293⟩
theorem nd_ky {k : Nat} (h : okNd k) : ky k = 24 := by
  rcases h with rfl | rfl
  · exact kyf_307
  · exact kyf_308
theorem ky_one4 {k : Nat} (h : ky k = 4) : k = 5 := by
  have hk := ky_NN h (by decide)
  have key : ∀ k, k < NN → ky k = 4 → k = 5 := by decide +kernel
  exact key k hk h
theorem ky_one12 {k : Nat} (h : ky k = 12) : k = 306 := by
  have hk := ky_NN h (by decide)
  have key : ∀ k, k < NN → ky k = 12 → k = 306 := by decide +kernel
  exact key k hk h
theorem wF_sR1 {G : Gt} {b : Nat} {μ : Mm} {v k' : Nat} (h : k' ≠ 5) : wF G b (sR μ 1 v) k' = wF G b μ k' := by
  have h4 : ky k' ≠ 4 := fun q => h (ky_one4 q)
  unfold wF
  split <;> first | rfl | (exfalso; exact h4 (by assumption)) | simp [fl12, sR]
theorem wF_sR0 {G : Gt} {b : Nat} {μ : Mm} {v k' : Nat} (h : k' ≠ 306) : wF G b (sR μ 0 v) k' = wF G b μ k' := by
  have h4 : ky k' ≠ 12 := fun q => h (ky_one12 q)
  unfold wF
  split <;> first | rfl | (exfalso; exact h4 (by assumption)) | simp [fl4, sR]
section FLD
variable {p : Program} {l : Launch} {e : Env} {R : Room} {s : State} {m : MethodId} {args : Array Value} {below : List Frame} {meth : Method} {c : Code} {H : Heap} {locs : List Loc} {cells slots : Nat} {Q : State → Prop}
variable {cc : ByteArray} {pc : Nat} {ls : Array Slot} {rest : List Value} {G : Gt} {b : Nat} {μ μ' : Mm} {H0 : Heap} {own : String} {nL : Nat}
theorem fl_get0 {k : Nat} (hky : ky k = 0) (F : FX G b own cc nL p s m args meth c) (hW : WH G b μ H) (j : Nat) (hj : j < 9) {index : Nat} (hlink : Cond.fieldLink own index RX0 (TX0 j).2.1 (TX0 j).2.2.1 ∈ TBG) (hsame : (TX0 j).1 = RX0) {v : Value} (hv : (fl0 b μ k)[j]? = some v) (hdg : decode cc pc = .ok (.getfield index, 3))
    (kk : W p l e R s m args below meth c H locs cells slots Q (F0 m (pc + 3) ls (v :: rest))) : W p l e R s m args below meth c H locs cells slots Q (F0 m pc ls (.ref (b + k) :: rest)) :=
  fl_get 0 rfl inB0 (ky_lt hky (by decide)) (wF_0 hky) F hW j hj hlink hsame hv hdg kk
theorem fl_put0_1 {k : Nat} (hky : ky k = 0) (F : FX G b own cc nL p s m args meth c) (hW : WH G b μ H) (hS : va_S (fb b) H0 H locs) {index : Nat} (hlink : Cond.fieldLink own index RX0 (TX0 1).2.1 (TX0 1).2.2.1 ∈ TBG) {v : Int32} (hm : pz μ k 1 v = some μ') (hdg : decode cc pc = .ok (.putfield index, 3))
    (kk : ∀ (H1 : Heap) (locs1 : List Loc), WH G b μ' H1 → va_S (fb b) H0 H1 locs1 → W p l e R s m args below meth c H1 locs1 cells slots Q (F0 m (pc + 3) ls rest)) : W p l e R s m args below meth c H locs cells slots Q (F0 m pc ls (.int v :: .ref (b + k) :: rest)) := by
  obtain ⟨hv, rfl⟩ := pz_some hm
  exact fl_put 0 rfl inB0 tyX0 tyX0_ok nmX0 (ky_lt hky (by decide)) (wF_0 hky) F hW hS 1 (by decide) hlink rfl rfl rfl (nar_z hv).1 (nar_z hv).2 (by simp [fl0]) (by rw [wF_0 hky]; simp [fl0, sI]) wF_sI hW.2 hdg kk
theorem fl_put0_2 {k : Nat} (hky : ky k = 0) (F : FX G b own cc nL p s m args meth c) (hW : WH G b μ H) (hS : va_S (fb b) H0 H locs) {index : Nat} (hlink : Cond.fieldLink own index RX0 (TX0 2).2.1 (TX0 2).2.2.1 ∈ TBG) {v : Int32} (hm : pt μ k 2 v = some μ') (hdg : decode cc pc = .ok (.putfield index, 3))
    (kk : ∀ (H1 : Heap) (locs1 : List Loc), WH G b μ' H1 → va_S (fb b) H0 H1 locs1 → W p l e R s m args below meth c H1 locs1 cells slots Q (F0 m (pc + 3) ls rest)) : W p l e R s m args below meth c H locs cells slots Q (F0 m pc ls (.int v :: .ref (b + k) :: rest)) := by
  cases hm
  exact fl_put 0 rfl inB0 tyX0 tyX0_ok nmX0 (ky_lt hky (by decide)) (wF_0 hky) F hW hS 2 (by decide) hlink rfl rfl rfl rfl rfl (by simp [fl0]) (by rw [wF_0 hky]; simp [fl0, sI]) wF_sI hW.2 hdg kk
theorem fl_put0_3 {k : Nat} (hky : ky k = 0) (F : FX G b own cc nL p s m args meth c) (hW : WH G b μ H) (hS : va_S (fb b) H0 H locs) {index : Nat} (hlink : Cond.fieldLink own index RX0 (TX0 3).2.1 (TX0 3).2.2.1 ∈ TBG) {v : Int32} (hm : pt μ k 3 v = some μ') (hdg : decode cc pc = .ok (.putfield index, 3))
    (kk : ∀ (H1 : Heap) (locs1 : List Loc), WH G b μ' H1 → va_S (fb b) H0 H1 locs1 → W p l e R s m args below meth c H1 locs1 cells slots Q (F0 m (pc + 3) ls rest)) : W p l e R s m args below meth c H locs cells slots Q (F0 m pc ls (.int v :: .ref (b + k) :: rest)) := by
  cases hm
  exact fl_put 0 rfl inB0 tyX0 tyX0_ok nmX0 (ky_lt hky (by decide)) (wF_0 hky) F hW hS 3 (by decide) hlink rfl rfl rfl rfl rfl (by simp [fl0]) (by rw [wF_0 hky]; simp [fl0, sI]) wF_sI hW.2 hdg kk
theorem fl_get1 {k : Nat} (hky : ky k = 1) (F : FX G b own cc nL p s m args meth c) (hW : WH G b μ H) (j : Nat) (hj : j < 5) {index : Nat} (hlink : Cond.fieldLink own index RX1 (TX1 j).2.1 (TX1 j).2.2.1 ∈ TBG) (hsame : (TX1 j).1 = RX1) {v : Value} (hv : (fl1 b μ k)[j]? = some v) (hdg : decode cc pc = .ok (.getfield index, 3))
    (kk : W p l e R s m args below meth c H locs cells slots Q (F0 m (pc + 3) ls (v :: rest))) : W p l e R s m args below meth c H locs cells slots Q (F0 m pc ls (.ref (b + k) :: rest)) :=
  fl_get 1 rfl inB1 (ky_lt hky (by decide)) (wF_1 hky) F hW j hj hlink hsame hv hdg kk
theorem fl_put1_3 {k : Nat} (hky : ky k = 1) (F : FX G b own cc nL p s m args meth c) (hW : WH G b μ H) (hS : va_S (fb b) H0 H locs) {index : Nat} (hlink : Cond.fieldLink own index RX1 (TX1 3).2.1 (TX1 3).2.2.1 ∈ TBG) {v : Int32} (hm : pt μ k 3 v = some μ') (hdg : decode cc pc = .ok (.putfield index, 3))
    (kk : ∀ (H1 : Heap) (locs1 : List Loc), WH G b μ' H1 → va_S (fb b) H0 H1 locs1 → W p l e R s m args below meth c H1 locs1 cells slots Q (F0 m (pc + 3) ls rest)) : W p l e R s m args below meth c H locs cells slots Q (F0 m pc ls (.int v :: .ref (b + k) :: rest)) := by
  cases hm
  exact fl_put 1 rfl inB1 tyX1 tyX1_ok nmX1 (ky_lt hky (by decide)) (wF_1 hky) F hW hS 3 (by decide) hlink rfl rfl rfl rfl rfl (by simp [fl1]) (by rw [wF_1 hky]; simp [fl1, sI]) wF_sI hW.2 hdg kk
theorem fl_put1_4 {k : Nat} (hky : ky k = 1) (F : FX G b own cc nL p s m args meth c) (hW : WH G b μ H) (hS : va_S (fb b) H0 H locs) {index : Nat} (hlink : Cond.fieldLink own index RX1 (TX1 4).2.1 (TX1 4).2.2.1 ∈ TBG) {v : Int32} (hm : pt μ k 4 v = some μ') (hdg : decode cc pc = .ok (.putfield index, 3))
    (kk : ∀ (H1 : Heap) (locs1 : List Loc), WH G b μ' H1 → va_S (fb b) H0 H1 locs1 → W p l e R s m args below meth c H1 locs1 cells slots Q (F0 m (pc + 3) ls rest)) : W p l e R s m args below meth c H locs cells slots Q (F0 m pc ls (.int v :: .ref (b + k) :: rest)) := by
  cases hm
  exact fl_put 1 rfl inB1 tyX1 tyX1_ok nmX1 (ky_lt hky (by decide)) (wF_1 hky) F hW hS 4 (by decide) hlink rfl rfl rfl rfl rfl (by simp [fl1]) (by rw [wF_1 hky]; simp [fl1, sI]) wF_sI hW.2 hdg kk
theorem fl_get2 {k : Nat} (hky : ky k = 2) (F : FX G b own cc nL p s m args meth c) (hW : WH G b μ H) (j : Nat) (hj : j < 6) {index : Nat} (hlink : Cond.fieldLink own index RX2 (TX2 j).2.1 (TX2 j).2.2.1 ∈ TBG) (hsame : (TX2 j).1 = RX2) {v : Value} (hv : (fl2 b μ k)[j]? = some v) (hdg : decode cc pc = .ok (.getfield index, 3))
    (kk : W p l e R s m args below meth c H locs cells slots Q (F0 m (pc + 3) ls (v :: rest))) : W p l e R s m args below meth c H locs cells slots Q (F0 m pc ls (.ref (b + k) :: rest)) :=
  fl_get 2 rfl inB2 (ky_lt hky (by decide)) (wF_2 hky) F hW j hj hlink hsame hv hdg kk
theorem fl_get3 {k : Nat} (hky : ky k = 3) (F : FX G b own cc nL p s m args meth c) (hW : WH G b μ H) (j : Nat) (hj : j < 6) {index : Nat} (hlink : Cond.fieldLink own index RX3 (TX3 j).2.1 (TX3 j).2.2.1 ∈ TBG) (hsame : (TX3 j).1 = RX3) {v : Value} (hv : (fl3 b μ k)[j]? = some v) (hdg : decode cc pc = .ok (.getfield index, 3))
    (kk : W p l e R s m args below meth c H locs cells slots Q (F0 m (pc + 3) ls (v :: rest))) : W p l e R s m args below meth c H locs cells slots Q (F0 m pc ls (.ref (b + k) :: rest)) :=
  fl_get 3 rfl inB3 (ky_lt hky (by decide)) (wF_3 hky) F hW j hj hlink hsame hv hdg kk
theorem fl_put3_4 {k : Nat} (hky : ky k = 3) (F : FX G b own cc nL p s m args meth c) (hW : WH G b μ H) (hS : va_S (fb b) H0 H locs) {index : Nat} (hlink : Cond.fieldLink own index RX3 (TX3 4).2.1 (TX3 4).2.2.1 ∈ TBG) {v : Int32} (hm : pt μ k 4 v = some μ') (hdg : decode cc pc = .ok (.putfield index, 3))
    (kk : ∀ (H1 : Heap) (locs1 : List Loc), WH G b μ' H1 → va_S (fb b) H0 H1 locs1 → W p l e R s m args below meth c H1 locs1 cells slots Q (F0 m (pc + 3) ls rest)) : W p l e R s m args below meth c H locs cells slots Q (F0 m pc ls (.int v :: .ref (b + k) :: rest)) := by
  cases hm
  exact fl_put 3 rfl inB3 tyX3 tyX3_ok nmX3 (ky_lt hky (by decide)) (wF_3 hky) F hW hS 4 (by decide) hlink rfl rfl rfl rfl rfl (by simp [fl3]) (by rw [wF_3 hky]; simp [fl3, sI]) wF_sI hW.2 hdg kk
theorem fl_put3_5 {k : Nat} (hky : ky k = 3) (F : FX G b own cc nL p s m args meth c) (hW : WH G b μ H) (hS : va_S (fb b) H0 H locs) {index : Nat} (hlink : Cond.fieldLink own index RX3 (TX3 5).2.1 (TX3 5).2.2.1 ∈ TBG) {v : Int32} (hm : pt μ k 5 v = some μ') (hdg : decode cc pc = .ok (.putfield index, 3))
    (kk : ∀ (H1 : Heap) (locs1 : List Loc), WH G b μ' H1 → va_S (fb b) H0 H1 locs1 → W p l e R s m args below meth c H1 locs1 cells slots Q (F0 m (pc + 3) ls rest)) : W p l e R s m args below meth c H locs cells slots Q (F0 m pc ls (.int v :: .ref (b + k) :: rest)) := by
  cases hm
  exact fl_put 3 rfl inB3 tyX3 tyX3_ok nmX3 (ky_lt hky (by decide)) (wF_3 hky) F hW hS 5 (by decide) hlink rfl rfl rfl rfl rfl (by simp [fl3]) (by rw [wF_3 hky]; simp [fl3, sI]) wF_sI hW.2 hdg kk
theorem fl_get4 {k : Nat} (hky : ky k = 4) (F : FX G b own cc nL p s m args meth c) (hW : WH G b μ H) (j : Nat) (hj : j < 12) {index : Nat} (hlink : Cond.fieldLink own index RX4 (TX4 j).2.1 (TX4 j).2.2.1 ∈ TBG) (hsame : (TX4 j).1 = RX4) {v : Value} (hv : (fl4 b μ k)[j]? = some v) (hdg : decode cc pc = .ok (.getfield index, 3))
    (kk : W p l e R s m args below meth c H locs cells slots Q (F0 m (pc + 3) ls (v :: rest))) : W p l e R s m args below meth c H locs cells slots Q (F0 m pc ls (.ref (b + k) :: rest)) :=
  fl_get 4 rfl inB4 (ky_lt hky (by decide)) (wF_4 hky) F hW j hj hlink hsame hv hdg kk
theorem fl_put4_0 {k : Nat} (hky : ky k = 4) (F : FX G b own cc nL p s m args meth c) (hW : WH G b μ H) (hS : va_S (fb b) H0 H locs) {index : Nat} (hlink : Cond.fieldLink own index RX4 (TX4 0).2.1 (TX4 0).2.2.1 ∈ TBG) {v : Int32} (hm : pt μ k 0 v = some μ') (hdg : decode cc pc = .ok (.putfield index, 3))
    (kk : ∀ (H1 : Heap) (locs1 : List Loc), WH G b μ' H1 → va_S (fb b) H0 H1 locs1 → W p l e R s m args below meth c H1 locs1 cells slots Q (F0 m (pc + 3) ls rest)) : W p l e R s m args below meth c H locs cells slots Q (F0 m pc ls (.int v :: .ref (b + k) :: rest)) := by
  cases hm
  exact fl_put 4 rfl inB4 tyX4 tyX4_ok nmX4 (ky_lt hky (by decide)) (wF_4 hky) F hW hS 0 (by decide) hlink rfl rfl rfl rfl rfl (by simp [fl4]) (by rw [wF_4 hky]; simp [fl4, sI]) wF_sI hW.2 hdg kk
theorem fl_put4_1 {k : Nat} (hky : ky k = 4) (F : FX G b own cc nL p s m args meth c) (hW : WH G b μ H) (hS : va_S (fb b) H0 H locs) {index : Nat} (hlink : Cond.fieldLink own index RX4 (TX4 1).2.1 (TX4 1).2.2.1 ∈ TBG) {v : Int32} (hm : pt μ k 1 v = some μ') (hdg : decode cc pc = .ok (.putfield index, 3))
    (kk : ∀ (H1 : Heap) (locs1 : List Loc), WH G b μ' H1 → va_S (fb b) H0 H1 locs1 → W p l e R s m args below meth c H1 locs1 cells slots Q (F0 m (pc + 3) ls rest)) : W p l e R s m args below meth c H locs cells slots Q (F0 m pc ls (.int v :: .ref (b + k) :: rest)) := by
  cases hm
  exact fl_put 4 rfl inB4 tyX4 tyX4_ok nmX4 (ky_lt hky (by decide)) (wF_4 hky) F hW hS 1 (by decide) hlink rfl rfl rfl rfl rfl (by simp [fl4]) (by rw [wF_4 hky]; simp [fl4, sI]) wF_sI hW.2 hdg kk
theorem fl_put4_3 {k : Nat} (hky : ky k = 4) (F : FX G b own cc nL p s m args meth c) (hW : WH G b μ H) (hS : va_S (fb b) H0 H locs) {index : Nat} (hlink : Cond.fieldLink own index RX4 (TX4 3).2.1 (TX4 3).2.2.1 ∈ TBG) {v : Int32} (hm : pt μ k 3 v = some μ') (hdg : decode cc pc = .ok (.putfield index, 3))
    (kk : ∀ (H1 : Heap) (locs1 : List Loc), WH G b μ' H1 → va_S (fb b) H0 H1 locs1 → W p l e R s m args below meth c H1 locs1 cells slots Q (F0 m (pc + 3) ls rest)) : W p l e R s m args below meth c H locs cells slots Q (F0 m pc ls (.int v :: .ref (b + k) :: rest)) := by
  cases hm
  exact fl_put 4 rfl inB4 tyX4 tyX4_ok nmX4 (ky_lt hky (by decide)) (wF_4 hky) F hW hS 3 (by decide) hlink rfl rfl rfl rfl rfl (by simp [fl4]) (by rw [wF_4 hky]; simp [fl4, sI]) wF_sI hW.2 hdg kk
theorem fl_put4_4 (F : FX G b own cc nL p s m args meth c) (hW : WH G b μ H) (hS : va_S (fb b) H0 H locs) {index : Nat} (hlink : Cond.fieldLink own index RX4 (TX4 4).2.1 (TX4 4).2.2.1 ∈ TBG) {v : Nat} (hv : okTx v) (hm : some (sR μ 1 v) = some μ') (hdg : decode cc pc = .ok (.putfield index, 3))
    (kk : ∀ (H1 : Heap) (locs1 : List Loc), WH G b μ' H1 → va_S (fb b) H0 H1 locs1 → W p l e R s m args below meth c H1 locs1 cells slots Q (F0 m (pc + 3) ls rest)) : W p l e R s m args below meth c H locs cells slots Q (F0 m pc ls (.ref (b + v) :: .ref (b + 5) :: rest)) := by
  cases hm
  have hky : ky 5 = 4 := kyf_5
  exact fl_put 4 rfl inB4 tyX4 tyX4_ok nmX4 (ky_lt hky (by decide)) (wF_4 hky) F hW hS 4 (by decide) hlink rfl rfl rfl rfl rfl (by simp [fl4]) (by rw [wF_4 hky]; simp [fl4, sR]) (fun k' hk' => wF_sR1 hk') ⟨by simpa [sR] using hW.2.1, by simpa [sR] using hv⟩ hdg kk
theorem fl_put4_5 {k : Nat} (hky : ky k = 4) (F : FX G b own cc nL p s m args meth c) (hW : WH G b μ H) (hS : va_S (fb b) H0 H locs) {index : Nat} (hlink : Cond.fieldLink own index RX4 (TX4 5).2.1 (TX4 5).2.2.1 ∈ TBG) {v : Int32} (hm : pt μ k 5 v = some μ') (hdg : decode cc pc = .ok (.putfield index, 3))
    (kk : ∀ (H1 : Heap) (locs1 : List Loc), WH G b μ' H1 → va_S (fb b) H0 H1 locs1 → W p l e R s m args below meth c H1 locs1 cells slots Q (F0 m (pc + 3) ls rest)) : W p l e R s m args below meth c H locs cells slots Q (F0 m pc ls (.int v :: .ref (b + k) :: rest)) := by
  cases hm
  exact fl_put 4 rfl inB4 tyX4 tyX4_ok nmX4 (ky_lt hky (by decide)) (wF_4 hky) F hW hS 5 (by decide) hlink rfl rfl rfl rfl rfl (by simp [fl4]) (by rw [wF_4 hky]; simp [fl4, sI]) wF_sI hW.2 hdg kk
theorem fl_put4_6 {k : Nat} (hky : ky k = 4) (F : FX G b own cc nL p s m args meth c) (hW : WH G b μ H) (hS : va_S (fb b) H0 H locs) {index : Nat} (hlink : Cond.fieldLink own index RX4 (TX4 6).2.1 (TX4 6).2.2.1 ∈ TBG) {v : Int32} (hm : pt μ k 6 v = some μ') (hdg : decode cc pc = .ok (.putfield index, 3))
    (kk : ∀ (H1 : Heap) (locs1 : List Loc), WH G b μ' H1 → va_S (fb b) H0 H1 locs1 → W p l e R s m args below meth c H1 locs1 cells slots Q (F0 m (pc + 3) ls rest)) : W p l e R s m args below meth c H locs cells slots Q (F0 m pc ls (.int v :: .ref (b + k) :: rest)) := by
  cases hm
  exact fl_put 4 rfl inB4 tyX4 tyX4_ok nmX4 (ky_lt hky (by decide)) (wF_4 hky) F hW hS 6 (by decide) hlink rfl rfl rfl rfl rfl (by simp [fl4]) (by rw [wF_4 hky]; simp [fl4, sI]) wF_sI hW.2 hdg kk
theorem fl_put4_7 {k : Nat} (hky : ky k = 4) (F : FX G b own cc nL p s m args meth c) (hW : WH G b μ H) (hS : va_S (fb b) H0 H locs) {index : Nat} (hlink : Cond.fieldLink own index RX4 (TX4 7).2.1 (TX4 7).2.2.1 ∈ TBG) {v : Int32} (hm : pt μ k 7 v = some μ') (hdg : decode cc pc = .ok (.putfield index, 3))
    (kk : ∀ (H1 : Heap) (locs1 : List Loc), WH G b μ' H1 → va_S (fb b) H0 H1 locs1 → W p l e R s m args below meth c H1 locs1 cells slots Q (F0 m (pc + 3) ls rest)) : W p l e R s m args below meth c H locs cells slots Q (F0 m pc ls (.int v :: .ref (b + k) :: rest)) := by
  cases hm
  exact fl_put 4 rfl inB4 tyX4 tyX4_ok nmX4 (ky_lt hky (by decide)) (wF_4 hky) F hW hS 7 (by decide) hlink rfl rfl rfl rfl rfl (by simp [fl4]) (by rw [wF_4 hky]; simp [fl4, sI]) wF_sI hW.2 hdg kk
theorem fl_put4_8 {k : Nat} (hky : ky k = 4) (F : FX G b own cc nL p s m args meth c) (hW : WH G b μ H) (hS : va_S (fb b) H0 H locs) {index : Nat} (hlink : Cond.fieldLink own index RX4 (TX4 8).2.1 (TX4 8).2.2.1 ∈ TBG) {v : Int32} (hm : pt μ k 8 v = some μ') (hdg : decode cc pc = .ok (.putfield index, 3))
    (kk : ∀ (H1 : Heap) (locs1 : List Loc), WH G b μ' H1 → va_S (fb b) H0 H1 locs1 → W p l e R s m args below meth c H1 locs1 cells slots Q (F0 m (pc + 3) ls rest)) : W p l e R s m args below meth c H locs cells slots Q (F0 m pc ls (.int v :: .ref (b + k) :: rest)) := by
  cases hm
  exact fl_put 4 rfl inB4 tyX4 tyX4_ok nmX4 (ky_lt hky (by decide)) (wF_4 hky) F hW hS 8 (by decide) hlink rfl rfl rfl rfl rfl (by simp [fl4]) (by rw [wF_4 hky]; simp [fl4, sI]) wF_sI hW.2 hdg kk
theorem fl_put4_9 {k : Nat} (hky : ky k = 4) (F : FX G b own cc nL p s m args meth c) (hW : WH G b μ H) (hS : va_S (fb b) H0 H locs) {index : Nat} (hlink : Cond.fieldLink own index RX4 (TX4 9).2.1 (TX4 9).2.2.1 ∈ TBG) {v : Int32} (hm : pz μ k 9 v = some μ') (hdg : decode cc pc = .ok (.putfield index, 3))
    (kk : ∀ (H1 : Heap) (locs1 : List Loc), WH G b μ' H1 → va_S (fb b) H0 H1 locs1 → W p l e R s m args below meth c H1 locs1 cells slots Q (F0 m (pc + 3) ls rest)) : W p l e R s m args below meth c H locs cells slots Q (F0 m pc ls (.int v :: .ref (b + k) :: rest)) := by
  obtain ⟨hv, rfl⟩ := pz_some hm
  exact fl_put 4 rfl inB4 tyX4 tyX4_ok nmX4 (ky_lt hky (by decide)) (wF_4 hky) F hW hS 9 (by decide) hlink rfl rfl rfl (nar_z hv).1 (nar_z hv).2 (by simp [fl4]) (by rw [wF_4 hky]; simp [fl4, sI]) wF_sI hW.2 hdg kk
theorem fl_put4_10 {k : Nat} (hky : ky k = 4) (F : FX G b own cc nL p s m args meth c) (hW : WH G b μ H) (hS : va_S (fb b) H0 H locs) {index : Nat} (hlink : Cond.fieldLink own index RX4 (TX4 10).2.1 (TX4 10).2.2.1 ∈ TBG) {v : Int32} (hm : pz μ k 10 v = some μ') (hdg : decode cc pc = .ok (.putfield index, 3))
    (kk : ∀ (H1 : Heap) (locs1 : List Loc), WH G b μ' H1 → va_S (fb b) H0 H1 locs1 → W p l e R s m args below meth c H1 locs1 cells slots Q (F0 m (pc + 3) ls rest)) : W p l e R s m args below meth c H locs cells slots Q (F0 m pc ls (.int v :: .ref (b + k) :: rest)) := by
  obtain ⟨hv, rfl⟩ := pz_some hm
  exact fl_put 4 rfl inB4 tyX4 tyX4_ok nmX4 (ky_lt hky (by decide)) (wF_4 hky) F hW hS 10 (by decide) hlink rfl rfl rfl (nar_z hv).1 (nar_z hv).2 (by simp [fl4]) (by rw [wF_4 hky]; simp [fl4, sI]) wF_sI hW.2 hdg kk
theorem fl_put4_11 {k : Nat} (hky : ky k = 4) (F : FX G b own cc nL p s m args meth c) (hW : WH G b μ H) (hS : va_S (fb b) H0 H locs) {index : Nat} (hlink : Cond.fieldLink own index RX4 (TX4 11).2.1 (TX4 11).2.2.1 ∈ TBG) {v : Int32} (hm : pz μ k 11 v = some μ') (hdg : decode cc pc = .ok (.putfield index, 3))
    (kk : ∀ (H1 : Heap) (locs1 : List Loc), WH G b μ' H1 → va_S (fb b) H0 H1 locs1 → W p l e R s m args below meth c H1 locs1 cells slots Q (F0 m (pc + 3) ls rest)) : W p l e R s m args below meth c H locs cells slots Q (F0 m pc ls (.int v :: .ref (b + k) :: rest)) := by
  obtain ⟨hv, rfl⟩ := pz_some hm
  exact fl_put 4 rfl inB4 tyX4 tyX4_ok nmX4 (ky_lt hky (by decide)) (wF_4 hky) F hW hS 11 (by decide) hlink rfl rfl rfl (nar_z hv).1 (nar_z hv).2 (by simp [fl4]) (by rw [wF_4 hky]; simp [fl4, sI]) wF_sI hW.2 hdg kk
theorem fl_get5 {k : Nat} (hky : ky k = 5) (F : FX G b own cc nL p s m args meth c) (hW : WH G b μ H) (j : Nat) (hj : j < 1) {index : Nat} (hlink : Cond.fieldLink own index RX5 (TX5 j).2.1 (TX5 j).2.2.1 ∈ TBG) (hsame : (TX5 j).1 = RX5) {v : Value} (hv : (fl5 b μ k)[j]? = some v) (hdg : decode cc pc = .ok (.getfield index, 3))
    (kk : W p l e R s m args below meth c H locs cells slots Q (F0 m (pc + 3) ls (v :: rest))) : W p l e R s m args below meth c H locs cells slots Q (F0 m pc ls (.ref (b + k) :: rest)) :=
  fl_get 5 rfl inB5 (ky_lt hky (by decide)) (wF_5 hky) F hW j hj hlink hsame hv hdg kk
theorem fl_get6 {k : Nat} (hky : ky k = 6) (F : FX G b own cc nL p s m args meth c) (hW : WH G b μ H) (j : Nat) (hj : j < 3) {index : Nat} (hlink : Cond.fieldLink own index RX6 (TX6 j).2.1 (TX6 j).2.2.1 ∈ TBG) (hsame : (TX6 j).1 = RX6) {v : Value} (hv : (fl6 b μ k)[j]? = some v) (hdg : decode cc pc = .ok (.getfield index, 3))
    (kk : W p l e R s m args below meth c H locs cells slots Q (F0 m (pc + 3) ls (v :: rest))) : W p l e R s m args below meth c H locs cells slots Q (F0 m pc ls (.ref (b + k) :: rest)) :=
  fl_get 6 rfl inB6 (ky_lt hky (by decide)) (wF_6 hky) F hW j hj hlink hsame hv hdg kk
theorem fl_put6_2 {k : Nat} (hky : ky k = 6) (F : FX G b own cc nL p s m args meth c) (hW : WH G b μ H) (hS : va_S (fb b) H0 H locs) {index : Nat} (hlink : Cond.fieldLink own index RX6 (TX6 2).2.1 (TX6 2).2.2.1 ∈ TBG) {v : Int32} (hm : pz μ k 2 v = some μ') (hdg : decode cc pc = .ok (.putfield index, 3))
    (kk : ∀ (H1 : Heap) (locs1 : List Loc), WH G b μ' H1 → va_S (fb b) H0 H1 locs1 → W p l e R s m args below meth c H1 locs1 cells slots Q (F0 m (pc + 3) ls rest)) : W p l e R s m args below meth c H locs cells slots Q (F0 m pc ls (.int v :: .ref (b + k) :: rest)) := by
  obtain ⟨hv, rfl⟩ := pz_some hm
  exact fl_put 6 rfl inB6 tyX6 tyX6_ok nmX6 (ky_lt hky (by decide)) (wF_6 hky) F hW hS 2 (by decide) hlink rfl rfl rfl (nar_z hv).1 (nar_z hv).2 (by simp [fl6]) (by rw [wF_6 hky]; simp [fl6, sI]) wF_sI hW.2 hdg kk
theorem fl_get7 {k : Nat} (hky : ky k = 7) (F : FX G b own cc nL p s m args meth c) (hW : WH G b μ H) (j : Nat) (hj : j < 12) {index : Nat} (hlink : Cond.fieldLink own index RX7 (TX7 j).2.1 (TX7 j).2.2.1 ∈ TBG) (hsame : (TX7 j).1 = RX7) {v : Value} (hv : (fl7 b μ k)[j]? = some v) (hdg : decode cc pc = .ok (.getfield index, 3))
    (kk : W p l e R s m args below meth c H locs cells slots Q (F0 m (pc + 3) ls (v :: rest))) : W p l e R s m args below meth c H locs cells slots Q (F0 m pc ls (.ref (b + k) :: rest)) :=
  fl_get 7 rfl inB7 (ky_lt hky (by decide)) (wF_7 hky) F hW j hj hlink hsame hv hdg kk
theorem fl_put7_0 {k : Nat} (hky : ky k = 7) (F : FX G b own cc nL p s m args meth c) (hW : WH G b μ H) (hS : va_S (fb b) H0 H locs) {index : Nat} (hlink : Cond.fieldLink own index RX7 (TX7 0).2.1 (TX7 0).2.2.1 ∈ TBG) {v : Int32} (hm : pt μ k 0 v = some μ') (hdg : decode cc pc = .ok (.putfield index, 3))
    (kk : ∀ (H1 : Heap) (locs1 : List Loc), WH G b μ' H1 → va_S (fb b) H0 H1 locs1 → W p l e R s m args below meth c H1 locs1 cells slots Q (F0 m (pc + 3) ls rest)) : W p l e R s m args below meth c H locs cells slots Q (F0 m pc ls (.int v :: .ref (b + k) :: rest)) := by
  cases hm
  exact fl_put 7 rfl inB7 tyX7 tyX7_ok nmX7 (ky_lt hky (by decide)) (wF_7 hky) F hW hS 0 (by decide) hlink rfl rfl rfl rfl rfl (by simp [fl7]) (by rw [wF_7 hky]; simp [fl7, sI]) wF_sI hW.2 hdg kk
theorem fl_put7_1 {k : Nat} (hky : ky k = 7) (F : FX G b own cc nL p s m args meth c) (hW : WH G b μ H) (hS : va_S (fb b) H0 H locs) {index : Nat} (hlink : Cond.fieldLink own index RX7 (TX7 1).2.1 (TX7 1).2.2.1 ∈ TBG) {v : Int32} (hm : pt μ k 1 v = some μ') (hdg : decode cc pc = .ok (.putfield index, 3))
    (kk : ∀ (H1 : Heap) (locs1 : List Loc), WH G b μ' H1 → va_S (fb b) H0 H1 locs1 → W p l e R s m args below meth c H1 locs1 cells slots Q (F0 m (pc + 3) ls rest)) : W p l e R s m args below meth c H locs cells slots Q (F0 m pc ls (.int v :: .ref (b + k) :: rest)) := by
  cases hm
  exact fl_put 7 rfl inB7 tyX7 tyX7_ok nmX7 (ky_lt hky (by decide)) (wF_7 hky) F hW hS 1 (by decide) hlink rfl rfl rfl rfl rfl (by simp [fl7]) (by rw [wF_7 hky]; simp [fl7, sI]) wF_sI hW.2 hdg kk
theorem fl_put7_2 {k : Nat} (hky : ky k = 7) (F : FX G b own cc nL p s m args meth c) (hW : WH G b μ H) (hS : va_S (fb b) H0 H locs) {index : Nat} (hlink : Cond.fieldLink own index RX7 (TX7 2).2.1 (TX7 2).2.2.1 ∈ TBG) {v : Int32} (hm : pt μ k 2 v = some μ') (hdg : decode cc pc = .ok (.putfield index, 3))
    (kk : ∀ (H1 : Heap) (locs1 : List Loc), WH G b μ' H1 → va_S (fb b) H0 H1 locs1 → W p l e R s m args below meth c H1 locs1 cells slots Q (F0 m (pc + 3) ls rest)) : W p l e R s m args below meth c H locs cells slots Q (F0 m pc ls (.int v :: .ref (b + k) :: rest)) := by
  cases hm
  exact fl_put 7 rfl inB7 tyX7 tyX7_ok nmX7 (ky_lt hky (by decide)) (wF_7 hky) F hW hS 2 (by decide) hlink rfl rfl rfl rfl rfl (by simp [fl7]) (by rw [wF_7 hky]; simp [fl7, sI]) wF_sI hW.2 hdg kk
theorem fl_get8 {k : Nat} (hky : ky k = 8) (F : FX G b own cc nL p s m args meth c) (hW : WH G b μ H) (j : Nat) (hj : j < 2) {index : Nat} (hlink : Cond.fieldLink own index RX8 (TX8 j).2.1 (TX8 j).2.2.1 ∈ TBG) (hsame : (TX8 j).1 = RX8) {v : Value} (hv : (fl8 b μ k)[j]? = some v) (hdg : decode cc pc = .ok (.getfield index, 3))
    (kk : W p l e R s m args below meth c H locs cells slots Q (F0 m (pc + 3) ls (v :: rest))) : W p l e R s m args below meth c H locs cells slots Q (F0 m pc ls (.ref (b + k) :: rest)) :=
  fl_get 8 rfl inB8 (ky_lt hky (by decide)) (wF_8 hky) F hW j hj hlink hsame hv hdg kk
theorem fl_put8_1 {k : Nat} (hky : ky k = 8) (F : FX G b own cc nL p s m args meth c) (hW : WH G b μ H) (hS : va_S (fb b) H0 H locs) {index : Nat} (hlink : Cond.fieldLink own index RX8 (TX8 1).2.1 (TX8 1).2.2.1 ∈ TBG) {v : Int32} (hm : pt μ k 1 v = some μ') (hdg : decode cc pc = .ok (.putfield index, 3))
    (kk : ∀ (H1 : Heap) (locs1 : List Loc), WH G b μ' H1 → va_S (fb b) H0 H1 locs1 → W p l e R s m args below meth c H1 locs1 cells slots Q (F0 m (pc + 3) ls rest)) : W p l e R s m args below meth c H locs cells slots Q (F0 m pc ls (.int v :: .ref (b + k) :: rest)) := by
  cases hm
  exact fl_put 8 rfl inB8 tyX8 tyX8_ok nmX8 (ky_lt hky (by decide)) (wF_8 hky) F hW hS 1 (by decide) hlink rfl rfl rfl rfl rfl (by simp [fl8]) (by rw [wF_8 hky]; simp [fl8, sI]) wF_sI hW.2 hdg kk
theorem fl_get9 {k : Nat} (hky : ky k = 9) (F : FX G b own cc nL p s m args meth c) (hW : WH G b μ H) (j : Nat) (hj : j < 1) {index : Nat} (hlink : Cond.fieldLink own index RX9 (TX9 j).2.1 (TX9 j).2.2.1 ∈ TBG) (hsame : (TX9 j).1 = RX9) {v : Value} (hv : (fl9 b μ k)[j]? = some v) (hdg : decode cc pc = .ok (.getfield index, 3))
    (kk : W p l e R s m args below meth c H locs cells slots Q (F0 m (pc + 3) ls (v :: rest))) : W p l e R s m args below meth c H locs cells slots Q (F0 m pc ls (.ref (b + k) :: rest)) :=
  fl_get 9 rfl inB9 (ky_lt hky (by decide)) (wF_9 hky) F hW j hj hlink hsame hv hdg kk
theorem fl_get10 {k : Nat} (hky : ky k = 10) (F : FX G b own cc nL p s m args meth c) (hW : WH G b μ H) (j : Nat) (hj : j < 3) {index : Nat} (hlink : Cond.fieldLink own index RX10 (TX10 j).2.1 (TX10 j).2.2.1 ∈ TBG) (hsame : (TX10 j).1 = RX10) {v : Value} (hv : (fl10 b μ k)[j]? = some v) (hdg : decode cc pc = .ok (.getfield index, 3))
    (kk : W p l e R s m args below meth c H locs cells slots Q (F0 m (pc + 3) ls (v :: rest))) : W p l e R s m args below meth c H locs cells slots Q (F0 m pc ls (.ref (b + k) :: rest)) :=
  fl_get 10 rfl inB10 (ky_lt hky (by decide)) (wF_10 hky) F hW j hj hlink hsame hv hdg kk
theorem fl_put10_2 {k : Nat} (hky : ky k = 10) (F : FX G b own cc nL p s m args meth c) (hW : WH G b μ H) (hS : va_S (fb b) H0 H locs) {index : Nat} (hlink : Cond.fieldLink own index RX10 (TX10 2).2.1 (TX10 2).2.2.1 ∈ TBG) {v : Int32} (hm : pt μ k 2 v = some μ') (hdg : decode cc pc = .ok (.putfield index, 3))
    (kk : ∀ (H1 : Heap) (locs1 : List Loc), WH G b μ' H1 → va_S (fb b) H0 H1 locs1 → W p l e R s m args below meth c H1 locs1 cells slots Q (F0 m (pc + 3) ls rest)) : W p l e R s m args below meth c H locs cells slots Q (F0 m pc ls (.int v :: .ref (b + k) :: rest)) := by
  cases hm
  exact fl_put 10 rfl inB10 tyX10 tyX10_ok nmX10 (ky_lt hky (by decide)) (wF_10 hky) F hW hS 2 (by decide) hlink rfl rfl rfl rfl rfl (by simp [fl10]) (by rw [wF_10 hky]; simp [fl10, sI]) wF_sI hW.2 hdg kk
theorem fl_get11 {k : Nat} (hky : ky k = 11) (F : FX G b own cc nL p s m args meth c) (hW : WH G b μ H) (j : Nat) (hj : j < 15) {index : Nat} (hlink : Cond.fieldLink own index RX11 (TX11 j).2.1 (TX11 j).2.2.1 ∈ TBG) (hsame : (TX11 j).1 = RX11) {v : Value} (hv : (fl11 b μ k)[j]? = some v) (hdg : decode cc pc = .ok (.getfield index, 3))
    (kk : W p l e R s m args below meth c H locs cells slots Q (F0 m (pc + 3) ls (v :: rest))) : W p l e R s m args below meth c H locs cells slots Q (F0 m pc ls (.ref (b + k) :: rest)) :=
  fl_get 11 rfl inB11 (ky_lt hky (by decide)) (wF_11 hky) F hW j hj hlink hsame hv hdg kk
theorem fl_put11_3 {k : Nat} (hky : ky k = 11) (F : FX G b own cc nL p s m args meth c) (hW : WH G b μ H) (hS : va_S (fb b) H0 H locs) {index : Nat} (hlink : Cond.fieldLink own index RX11 (TX11 3).2.1 (TX11 3).2.2.1 ∈ TBG) {v : Int32} (hm : pt μ k 3 v = some μ') (hdg : decode cc pc = .ok (.putfield index, 3))
    (kk : ∀ (H1 : Heap) (locs1 : List Loc), WH G b μ' H1 → va_S (fb b) H0 H1 locs1 → W p l e R s m args below meth c H1 locs1 cells slots Q (F0 m (pc + 3) ls rest)) : W p l e R s m args below meth c H locs cells slots Q (F0 m pc ls (.int v :: .ref (b + k) :: rest)) := by
  cases hm
  exact fl_put 11 rfl inB11 tyX11 tyX11_ok nmX11 (ky_lt hky (by decide)) (wF_11 hky) F hW hS 3 (by decide) hlink rfl rfl rfl rfl rfl (by simp [fl11]) (by rw [wF_11 hky]; simp [fl11, sI]) wF_sI hW.2 hdg kk
theorem fl_put11_4 {k : Nat} (hky : ky k = 11) (F : FX G b own cc nL p s m args meth c) (hW : WH G b μ H) (hS : va_S (fb b) H0 H locs) {index : Nat} (hlink : Cond.fieldLink own index RX11 (TX11 4).2.1 (TX11 4).2.2.1 ∈ TBG) {v : Int32} (hm : pt μ k 4 v = some μ') (hdg : decode cc pc = .ok (.putfield index, 3))
    (kk : ∀ (H1 : Heap) (locs1 : List Loc), WH G b μ' H1 → va_S (fb b) H0 H1 locs1 → W p l e R s m args below meth c H1 locs1 cells slots Q (F0 m (pc + 3) ls rest)) : W p l e R s m args below meth c H locs cells slots Q (F0 m pc ls (.int v :: .ref (b + k) :: rest)) := by
  cases hm
  exact fl_put 11 rfl inB11 tyX11 tyX11_ok nmX11 (ky_lt hky (by decide)) (wF_11 hky) F hW hS 4 (by decide) hlink rfl rfl rfl rfl rfl (by simp [fl11]) (by rw [wF_11 hky]; simp [fl11, sI]) wF_sI hW.2 hdg kk
theorem fl_put11_7 {k : Nat} (hky : ky k = 11) (F : FX G b own cc nL p s m args meth c) (hW : WH G b μ H) (hS : va_S (fb b) H0 H locs) {index : Nat} (hlink : Cond.fieldLink own index RX11 (TX11 7).2.1 (TX11 7).2.2.1 ∈ TBG) {v : Int32} (hm : pt μ k 7 v = some μ') (hdg : decode cc pc = .ok (.putfield index, 3))
    (kk : ∀ (H1 : Heap) (locs1 : List Loc), WH G b μ' H1 → va_S (fb b) H0 H1 locs1 → W p l e R s m args below meth c H1 locs1 cells slots Q (F0 m (pc + 3) ls rest)) : W p l e R s m args below meth c H locs cells slots Q (F0 m pc ls (.int v :: .ref (b + k) :: rest)) := by
  cases hm
  exact fl_put 11 rfl inB11 tyX11 tyX11_ok nmX11 (ky_lt hky (by decide)) (wF_11 hky) F hW hS 7 (by decide) hlink rfl rfl rfl rfl rfl (by simp [fl11]) (by rw [wF_11 hky]; simp [fl11, sI]) wF_sI hW.2 hdg kk
theorem fl_put11_8 {k : Nat} (hky : ky k = 11) (F : FX G b own cc nL p s m args meth c) (hW : WH G b μ H) (hS : va_S (fb b) H0 H locs) {index : Nat} (hlink : Cond.fieldLink own index RX11 (TX11 8).2.1 (TX11 8).2.2.1 ∈ TBG) {v : Int32} (hm : pt μ k 8 v = some μ') (hdg : decode cc pc = .ok (.putfield index, 3))
    (kk : ∀ (H1 : Heap) (locs1 : List Loc), WH G b μ' H1 → va_S (fb b) H0 H1 locs1 → W p l e R s m args below meth c H1 locs1 cells slots Q (F0 m (pc + 3) ls rest)) : W p l e R s m args below meth c H locs cells slots Q (F0 m pc ls (.int v :: .ref (b + k) :: rest)) := by
  cases hm
  exact fl_put 11 rfl inB11 tyX11 tyX11_ok nmX11 (ky_lt hky (by decide)) (wF_11 hky) F hW hS 8 (by decide) hlink rfl rfl rfl rfl rfl (by simp [fl11]) (by rw [wF_11 hky]; simp [fl11, sI]) wF_sI hW.2 hdg kk
theorem fl_get12 {k : Nat} (hky : ky k = 12) (F : FX (fg G) b own cc nL p s m args meth c) (hW : WH (fg G) b μ H) (j : Nat) (hj : j < 50) {index : Nat} (hlink : Cond.fieldLink own index RX12 (TX12 j).2.1 (TX12 j).2.2.1 ∈ TBG) (hsame : (TX12 j).1 = RX12) {v : Value} (hv : (fl12 b μ k)[j]? = some v) (hdg : decode cc pc = .ok (.getfield index, 3))
    (kk : W p l e R s m args below meth c H locs cells slots Q (F0 m (pc + 3) ls (v :: rest))) : W p l e R s m args below meth c H locs cells slots Q (F0 m pc ls (.ref (b + k) :: rest)) :=
  fl_get 12 rfl inB12 (ky_lm hky (by decide)) (wF_12 hky) F hW j hj hlink hsame hv hdg kk
theorem fl_put12_0 {k : Nat} (hky : ky k = 12) (F : FX (fg G) b own cc nL p s m args meth c) (hW : WH (fg G) b μ H) (hS : va_S (fb b) H0 H locs) {index : Nat} (hlink : Cond.fieldLink own index RX12 (TX12 0).2.1 (TX12 0).2.2.1 ∈ TBG) {v : Int32} (hm : pt μ k 0 v = some μ') (hdg : decode cc pc = .ok (.putfield index, 3))
    (kk : ∀ (H1 : Heap) (locs1 : List Loc), WH (fg G) b μ' H1 → va_S (fb b) H0 H1 locs1 → W p l e R s m args below meth c H1 locs1 cells slots Q (F0 m (pc + 3) ls rest)) : W p l e R s m args below meth c H locs cells slots Q (F0 m pc ls (.int v :: .ref (b + k) :: rest)) := by
  cases hm
  exact fl_put 12 rfl inB12 tyX12 tyX12_ok nmX12 (ky_lm hky (by decide)) (wF_12 hky) F hW hS 0 (by decide) hlink rfl rfl rfl rfl rfl (by simp [fl12]) (by rw [wF_12 hky]; simp [fl12, sI]) wF_sI hW.2 hdg kk
theorem fl_put12_3 (F : FX (fg G) b own cc nL p s m args meth c) (hW : WH (fg G) b μ H) (hS : va_S (fb b) H0 H locs) {index : Nat} (hlink : Cond.fieldLink own index RX12 (TX12 3).2.1 (TX12 3).2.2.1 ∈ TBG) {v : Nat} (hv : okNd v) (hm : some (sR μ 0 v) = some μ') (hdg : decode cc pc = .ok (.putfield index, 3))
    (kk : ∀ (H1 : Heap) (locs1 : List Loc), WH (fg G) b μ' H1 → va_S (fb b) H0 H1 locs1 → W p l e R s m args below meth c H1 locs1 cells slots Q (F0 m (pc + 3) ls rest)) : W p l e R s m args below meth c H locs cells slots Q (F0 m pc ls (.ref (b + v) :: .ref (b + 306) :: rest)) := by
  cases hm
  have hky : ky 306 = 12 := kyf_306
  exact fl_put 12 rfl inB12 tyX12 tyX12_ok nmX12 (ky_lm hky (by decide)) (wF_12 hky) F hW hS 3 (by decide) hlink rfl rfl rfl rfl rfl (by simp [fl12]) (by rw [wF_12 hky]; simp [fl12, sR]) (fun k' hk' => wF_sR0 hk') ⟨by simpa [sR] using hv, by simpa [sR] using hW.2.2⟩ hdg kk
theorem fl_put12_5 {k : Nat} (hky : ky k = 12) (F : FX (fg G) b own cc nL p s m args meth c) (hW : WH (fg G) b μ H) (hS : va_S (fb b) H0 H locs) {index : Nat} (hlink : Cond.fieldLink own index RX12 (TX12 5).2.1 (TX12 5).2.2.1 ∈ TBG) {v : Int32} (hm : pt μ k 5 v = some μ') (hdg : decode cc pc = .ok (.putfield index, 3))
    (kk : ∀ (H1 : Heap) (locs1 : List Loc), WH (fg G) b μ' H1 → va_S (fb b) H0 H1 locs1 → W p l e R s m args below meth c H1 locs1 cells slots Q (F0 m (pc + 3) ls rest)) : W p l e R s m args below meth c H locs cells slots Q (F0 m pc ls (.int v :: .ref (b + k) :: rest)) := by
  cases hm
  exact fl_put 12 rfl inB12 tyX12 tyX12_ok nmX12 (ky_lm hky (by decide)) (wF_12 hky) F hW hS 5 (by decide) hlink rfl rfl rfl rfl rfl (by simp [fl12]) (by rw [wF_12 hky]; simp [fl12, sI]) wF_sI hW.2 hdg kk
theorem fl_put12_6 {k : Nat} (hky : ky k = 12) (F : FX (fg G) b own cc nL p s m args meth c) (hW : WH (fg G) b μ H) (hS : va_S (fb b) H0 H locs) {index : Nat} (hlink : Cond.fieldLink own index RX12 (TX12 6).2.1 (TX12 6).2.2.1 ∈ TBG) {v : Int32} (hm : pt μ k 6 v = some μ') (hdg : decode cc pc = .ok (.putfield index, 3))
    (kk : ∀ (H1 : Heap) (locs1 : List Loc), WH (fg G) b μ' H1 → va_S (fb b) H0 H1 locs1 → W p l e R s m args below meth c H1 locs1 cells slots Q (F0 m (pc + 3) ls rest)) : W p l e R s m args below meth c H locs cells slots Q (F0 m pc ls (.int v :: .ref (b + k) :: rest)) := by
  cases hm
  exact fl_put 12 rfl inB12 tyX12 tyX12_ok nmX12 (ky_lm hky (by decide)) (wF_12 hky) F hW hS 6 (by decide) hlink rfl rfl rfl rfl rfl (by simp [fl12]) (by rw [wF_12 hky]; simp [fl12, sI]) wF_sI hW.2 hdg kk
theorem fl_put12_7 {k : Nat} (hky : ky k = 12) (F : FX (fg G) b own cc nL p s m args meth c) (hW : WH (fg G) b μ H) (hS : va_S (fb b) H0 H locs) {index : Nat} (hlink : Cond.fieldLink own index RX12 (TX12 7).2.1 (TX12 7).2.2.1 ∈ TBG) {v : Int32} (hm : pt μ k 7 v = some μ') (hdg : decode cc pc = .ok (.putfield index, 3))
    (kk : ∀ (H1 : Heap) (locs1 : List Loc), WH (fg G) b μ' H1 → va_S (fb b) H0 H1 locs1 → W p l e R s m args below meth c H1 locs1 cells slots Q (F0 m (pc + 3) ls rest)) : W p l e R s m args below meth c H locs cells slots Q (F0 m pc ls (.int v :: .ref (b + k) :: rest)) := by
  cases hm
  exact fl_put 12 rfl inB12 tyX12 tyX12_ok nmX12 (ky_lm hky (by decide)) (wF_12 hky) F hW hS 7 (by decide) hlink rfl rfl rfl rfl rfl (by simp [fl12]) (by rw [wF_12 hky]; simp [fl12, sI]) wF_sI hW.2 hdg kk
theorem fl_put12_8 {k : Nat} (hky : ky k = 12) (F : FX (fg G) b own cc nL p s m args meth c) (hW : WH (fg G) b μ H) (hS : va_S (fb b) H0 H locs) {index : Nat} (hlink : Cond.fieldLink own index RX12 (TX12 8).2.1 (TX12 8).2.2.1 ∈ TBG) {v : Int32} (hm : pt μ k 8 v = some μ') (hdg : decode cc pc = .ok (.putfield index, 3))
    (kk : ∀ (H1 : Heap) (locs1 : List Loc), WH (fg G) b μ' H1 → va_S (fb b) H0 H1 locs1 → W p l e R s m args below meth c H1 locs1 cells slots Q (F0 m (pc + 3) ls rest)) : W p l e R s m args below meth c H locs cells slots Q (F0 m pc ls (.int v :: .ref (b + k) :: rest)) := by
  cases hm
  exact fl_put 12 rfl inB12 tyX12 tyX12_ok nmX12 (ky_lm hky (by decide)) (wF_12 hky) F hW hS 8 (by decide) hlink rfl rfl rfl rfl rfl (by simp [fl12]) (by rw [wF_12 hky]; simp [fl12, sI]) wF_sI hW.2 hdg kk
theorem fl_put12_9 {k : Nat} (hky : ky k = 12) (F : FX (fg G) b own cc nL p s m args meth c) (hW : WH (fg G) b μ H) (hS : va_S (fb b) H0 H locs) {index : Nat} (hlink : Cond.fieldLink own index RX12 (TX12 9).2.1 (TX12 9).2.2.1 ∈ TBG) {v : Int32} (hm : pt μ k 9 v = some μ') (hdg : decode cc pc = .ok (.putfield index, 3))
    (kk : ∀ (H1 : Heap) (locs1 : List Loc), WH (fg G) b μ' H1 → va_S (fb b) H0 H1 locs1 → W p l e R s m args below meth c H1 locs1 cells slots Q (F0 m (pc + 3) ls rest)) : W p l e R s m args below meth c H locs cells slots Q (F0 m pc ls (.int v :: .ref (b + k) :: rest)) := by
  cases hm
  exact fl_put 12 rfl inB12 tyX12 tyX12_ok nmX12 (ky_lm hky (by decide)) (wF_12 hky) F hW hS 9 (by decide) hlink rfl rfl rfl rfl rfl (by simp [fl12]) (by rw [wF_12 hky]; simp [fl12, sI]) wF_sI hW.2 hdg kk
theorem fl_put12_10 {k : Nat} (hky : ky k = 12) (F : FX (fg G) b own cc nL p s m args meth c) (hW : WH (fg G) b μ H) (hS : va_S (fb b) H0 H locs) {index : Nat} (hlink : Cond.fieldLink own index RX12 (TX12 10).2.1 (TX12 10).2.2.1 ∈ TBG) {v : Int32} (hm : pt μ k 10 v = some μ') (hdg : decode cc pc = .ok (.putfield index, 3))
    (kk : ∀ (H1 : Heap) (locs1 : List Loc), WH (fg G) b μ' H1 → va_S (fb b) H0 H1 locs1 → W p l e R s m args below meth c H1 locs1 cells slots Q (F0 m (pc + 3) ls rest)) : W p l e R s m args below meth c H locs cells slots Q (F0 m pc ls (.int v :: .ref (b + k) :: rest)) := by
  cases hm
  exact fl_put 12 rfl inB12 tyX12 tyX12_ok nmX12 (ky_lm hky (by decide)) (wF_12 hky) F hW hS 10 (by decide) hlink rfl rfl rfl rfl rfl (by simp [fl12]) (by rw [wF_12 hky]; simp [fl12, sI]) wF_sI hW.2 hdg kk
theorem fl_put12_11 {k : Nat} (hky : ky k = 12) (F : FX (fg G) b own cc nL p s m args meth c) (hW : WH (fg G) b μ H) (hS : va_S (fb b) H0 H locs) {index : Nat} (hlink : Cond.fieldLink own index RX12 (TX12 11).2.1 (TX12 11).2.2.1 ∈ TBG) {v : Int32} (hm : pt μ k 11 v = some μ') (hdg : decode cc pc = .ok (.putfield index, 3))
    (kk : ∀ (H1 : Heap) (locs1 : List Loc), WH (fg G) b μ' H1 → va_S (fb b) H0 H1 locs1 → W p l e R s m args below meth c H1 locs1 cells slots Q (F0 m (pc + 3) ls rest)) : W p l e R s m args below meth c H locs cells slots Q (F0 m pc ls (.int v :: .ref (b + k) :: rest)) := by
  cases hm
  exact fl_put 12 rfl inB12 tyX12 tyX12_ok nmX12 (ky_lm hky (by decide)) (wF_12 hky) F hW hS 11 (by decide) hlink rfl rfl rfl rfl rfl (by simp [fl12]) (by rw [wF_12 hky]; simp [fl12, sI]) wF_sI hW.2 hdg kk
theorem fl_put12_12 {k : Nat} (hky : ky k = 12) (F : FX (fg G) b own cc nL p s m args meth c) (hW : WH (fg G) b μ H) (hS : va_S (fb b) H0 H locs) {index : Nat} (hlink : Cond.fieldLink own index RX12 (TX12 12).2.1 (TX12 12).2.2.1 ∈ TBG) {v : Int32} (hm : pt μ k 12 v = some μ') (hdg : decode cc pc = .ok (.putfield index, 3))
    (kk : ∀ (H1 : Heap) (locs1 : List Loc), WH (fg G) b μ' H1 → va_S (fb b) H0 H1 locs1 → W p l e R s m args below meth c H1 locs1 cells slots Q (F0 m (pc + 3) ls rest)) : W p l e R s m args below meth c H locs cells slots Q (F0 m pc ls (.int v :: .ref (b + k) :: rest)) := by
  cases hm
  exact fl_put 12 rfl inB12 tyX12 tyX12_ok nmX12 (ky_lm hky (by decide)) (wF_12 hky) F hW hS 12 (by decide) hlink rfl rfl rfl rfl rfl (by simp [fl12]) (by rw [wF_12 hky]; simp [fl12, sI]) wF_sI hW.2 hdg kk
theorem fl_put12_13 {k : Nat} (hky : ky k = 12) (F : FX (fg G) b own cc nL p s m args meth c) (hW : WH (fg G) b μ H) (hS : va_S (fb b) H0 H locs) {index : Nat} (hlink : Cond.fieldLink own index RX12 (TX12 13).2.1 (TX12 13).2.2.1 ∈ TBG) {v : Int32} (hm : pz μ k 13 v = some μ') (hdg : decode cc pc = .ok (.putfield index, 3))
    (kk : ∀ (H1 : Heap) (locs1 : List Loc), WH (fg G) b μ' H1 → va_S (fb b) H0 H1 locs1 → W p l e R s m args below meth c H1 locs1 cells slots Q (F0 m (pc + 3) ls rest)) : W p l e R s m args below meth c H locs cells slots Q (F0 m pc ls (.int v :: .ref (b + k) :: rest)) := by
  obtain ⟨hv, rfl⟩ := pz_some hm
  exact fl_put 12 rfl inB12 tyX12 tyX12_ok nmX12 (ky_lm hky (by decide)) (wF_12 hky) F hW hS 13 (by decide) hlink rfl rfl rfl (nar_z hv).1 (nar_z hv).2 (by simp [fl12]) (by rw [wF_12 hky]; simp [fl12, sI]) wF_sI hW.2 hdg kk
theorem fl_put12_14 {k : Nat} (hky : ky k = 12) (F : FX (fg G) b own cc nL p s m args meth c) (hW : WH (fg G) b μ H) (hS : va_S (fb b) H0 H locs) {index : Nat} (hlink : Cond.fieldLink own index RX12 (TX12 14).2.1 (TX12 14).2.2.1 ∈ TBG) {v : Int32} (hm : pz μ k 14 v = some μ') (hdg : decode cc pc = .ok (.putfield index, 3))
    (kk : ∀ (H1 : Heap) (locs1 : List Loc), WH (fg G) b μ' H1 → va_S (fb b) H0 H1 locs1 → W p l e R s m args below meth c H1 locs1 cells slots Q (F0 m (pc + 3) ls rest)) : W p l e R s m args below meth c H locs cells slots Q (F0 m pc ls (.int v :: .ref (b + k) :: rest)) := by
  obtain ⟨hv, rfl⟩ := pz_some hm
  exact fl_put 12 rfl inB12 tyX12 tyX12_ok nmX12 (ky_lm hky (by decide)) (wF_12 hky) F hW hS 14 (by decide) hlink rfl rfl rfl (nar_z hv).1 (nar_z hv).2 (by simp [fl12]) (by rw [wF_12 hky]; simp [fl12, sI]) wF_sI hW.2 hdg kk
theorem fl_put12_15 {k : Nat} (hky : ky k = 12) (F : FX (fg G) b own cc nL p s m args meth c) (hW : WH (fg G) b μ H) (hS : va_S (fb b) H0 H locs) {index : Nat} (hlink : Cond.fieldLink own index RX12 (TX12 15).2.1 (TX12 15).2.2.1 ∈ TBG) {v : Int32} (hm : pz μ k 15 v = some μ') (hdg : decode cc pc = .ok (.putfield index, 3))
    (kk : ∀ (H1 : Heap) (locs1 : List Loc), WH (fg G) b μ' H1 → va_S (fb b) H0 H1 locs1 → W p l e R s m args below meth c H1 locs1 cells slots Q (F0 m (pc + 3) ls rest)) : W p l e R s m args below meth c H locs cells slots Q (F0 m pc ls (.int v :: .ref (b + k) :: rest)) := by
  obtain ⟨hv, rfl⟩ := pz_some hm
  exact fl_put 12 rfl inB12 tyX12 tyX12_ok nmX12 (ky_lm hky (by decide)) (wF_12 hky) F hW hS 15 (by decide) hlink rfl rfl rfl (nar_z hv).1 (nar_z hv).2 (by simp [fl12]) (by rw [wF_12 hky]; simp [fl12, sI]) wF_sI hW.2 hdg kk
theorem fl_put12_17 {k : Nat} (hky : ky k = 12) (F : FX (fg G) b own cc nL p s m args meth c) (hW : WH (fg G) b μ H) (hS : va_S (fb b) H0 H locs) {index : Nat} (hlink : Cond.fieldLink own index RX12 (TX12 17).2.1 (TX12 17).2.2.1 ∈ TBG) {v : Int32} (hm : pt μ k 17 v = some μ') (hdg : decode cc pc = .ok (.putfield index, 3))
    (kk : ∀ (H1 : Heap) (locs1 : List Loc), WH (fg G) b μ' H1 → va_S (fb b) H0 H1 locs1 → W p l e R s m args below meth c H1 locs1 cells slots Q (F0 m (pc + 3) ls rest)) : W p l e R s m args below meth c H locs cells slots Q (F0 m pc ls (.int v :: .ref (b + k) :: rest)) := by
  cases hm
  exact fl_put 12 rfl inB12 tyX12 tyX12_ok nmX12 (ky_lm hky (by decide)) (wF_12 hky) F hW hS 17 (by decide) hlink rfl rfl rfl rfl rfl (by simp [fl12]) (by rw [wF_12 hky]; simp [fl12, sI]) wF_sI hW.2 hdg kk
theorem fl_put12_23 {k : Nat} (hky : ky k = 12) (F : FX (fg G) b own cc nL p s m args meth c) (hW : WH (fg G) b μ H) (hS : va_S (fb b) H0 H locs) {index : Nat} (hlink : Cond.fieldLink own index RX12 (TX12 23).2.1 (TX12 23).2.2.1 ∈ TBG) {v : Int32} (hm : pt μ k 23 v = some μ') (hdg : decode cc pc = .ok (.putfield index, 3))
    (kk : ∀ (H1 : Heap) (locs1 : List Loc), WH (fg G) b μ' H1 → va_S (fb b) H0 H1 locs1 → W p l e R s m args below meth c H1 locs1 cells slots Q (F0 m (pc + 3) ls rest)) : W p l e R s m args below meth c H locs cells slots Q (F0 m pc ls (.int v :: .ref (b + k) :: rest)) := by
  cases hm
  exact fl_put 12 rfl inB12 tyX12 tyX12_ok nmX12 (ky_lm hky (by decide)) (wF_12 hky) F hW hS 23 (by decide) hlink rfl rfl rfl rfl rfl (by simp [fl12]) (by rw [wF_12 hky]; simp [fl12, sI]) wF_sI hW.2 hdg kk
theorem fl_put12_24 {k : Nat} (hky : ky k = 12) (F : FX (fg G) b own cc nL p s m args meth c) (hW : WH (fg G) b μ H) (hS : va_S (fb b) H0 H locs) {index : Nat} (hlink : Cond.fieldLink own index RX12 (TX12 24).2.1 (TX12 24).2.2.1 ∈ TBG) {v : Int32} (hm : pt μ k 24 v = some μ') (hdg : decode cc pc = .ok (.putfield index, 3))
    (kk : ∀ (H1 : Heap) (locs1 : List Loc), WH (fg G) b μ' H1 → va_S (fb b) H0 H1 locs1 → W p l e R s m args below meth c H1 locs1 cells slots Q (F0 m (pc + 3) ls rest)) : W p l e R s m args below meth c H locs cells slots Q (F0 m pc ls (.int v :: .ref (b + k) :: rest)) := by
  cases hm
  exact fl_put 12 rfl inB12 tyX12 tyX12_ok nmX12 (ky_lm hky (by decide)) (wF_12 hky) F hW hS 24 (by decide) hlink rfl rfl rfl rfl rfl (by simp [fl12]) (by rw [wF_12 hky]; simp [fl12, sI]) wF_sI hW.2 hdg kk
theorem fl_put12_25 {k : Nat} (hky : ky k = 12) (F : FX (fg G) b own cc nL p s m args meth c) (hW : WH (fg G) b μ H) (hS : va_S (fb b) H0 H locs) {index : Nat} (hlink : Cond.fieldLink own index RX12 (TX12 25).2.1 (TX12 25).2.2.1 ∈ TBG) {v : Int32} (hm : pt μ k 25 v = some μ') (hdg : decode cc pc = .ok (.putfield index, 3))
    (kk : ∀ (H1 : Heap) (locs1 : List Loc), WH (fg G) b μ' H1 → va_S (fb b) H0 H1 locs1 → W p l e R s m args below meth c H1 locs1 cells slots Q (F0 m (pc + 3) ls rest)) : W p l e R s m args below meth c H locs cells slots Q (F0 m pc ls (.int v :: .ref (b + k) :: rest)) := by
  cases hm
  exact fl_put 12 rfl inB12 tyX12 tyX12_ok nmX12 (ky_lm hky (by decide)) (wF_12 hky) F hW hS 25 (by decide) hlink rfl rfl rfl rfl rfl (by simp [fl12]) (by rw [wF_12 hky]; simp [fl12, sI]) wF_sI hW.2 hdg kk
theorem fl_put12_26 {k : Nat} (hky : ky k = 12) (F : FX (fg G) b own cc nL p s m args meth c) (hW : WH (fg G) b μ H) (hS : va_S (fb b) H0 H locs) {index : Nat} (hlink : Cond.fieldLink own index RX12 (TX12 26).2.1 (TX12 26).2.2.1 ∈ TBG) {v : Int32} (hm : pt μ k 26 v = some μ') (hdg : decode cc pc = .ok (.putfield index, 3))
    (kk : ∀ (H1 : Heap) (locs1 : List Loc), WH (fg G) b μ' H1 → va_S (fb b) H0 H1 locs1 → W p l e R s m args below meth c H1 locs1 cells slots Q (F0 m (pc + 3) ls rest)) : W p l e R s m args below meth c H locs cells slots Q (F0 m pc ls (.int v :: .ref (b + k) :: rest)) := by
  cases hm
  exact fl_put 12 rfl inB12 tyX12 tyX12_ok nmX12 (ky_lm hky (by decide)) (wF_12 hky) F hW hS 26 (by decide) hlink rfl rfl rfl rfl rfl (by simp [fl12]) (by rw [wF_12 hky]; simp [fl12, sI]) wF_sI hW.2 hdg kk
theorem fl_put12_36 {k : Nat} (hky : ky k = 12) (F : FX (fg G) b own cc nL p s m args meth c) (hW : WH (fg G) b μ H) (hS : va_S (fb b) H0 H locs) {index : Nat} (hlink : Cond.fieldLink own index RX12 (TX12 36).2.1 (TX12 36).2.2.1 ∈ TBG) {v : Int32} (hm : pt μ k 36 v = some μ') (hdg : decode cc pc = .ok (.putfield index, 3))
    (kk : ∀ (H1 : Heap) (locs1 : List Loc), WH (fg G) b μ' H1 → va_S (fb b) H0 H1 locs1 → W p l e R s m args below meth c H1 locs1 cells slots Q (F0 m (pc + 3) ls rest)) : W p l e R s m args below meth c H locs cells slots Q (F0 m pc ls (.int v :: .ref (b + k) :: rest)) := by
  cases hm
  exact fl_put 12 rfl inB12 tyX12 tyX12_ok nmX12 (ky_lm hky (by decide)) (wF_12 hky) F hW hS 36 (by decide) hlink rfl rfl rfl rfl rfl (by simp [fl12]) (by rw [wF_12 hky]; simp [fl12, sI]) wF_sI hW.2 hdg kk
theorem fl_put12_37 {k : Nat} (hky : ky k = 12) (F : FX (fg G) b own cc nL p s m args meth c) (hW : WH (fg G) b μ H) (hS : va_S (fb b) H0 H locs) {index : Nat} (hlink : Cond.fieldLink own index RX12 (TX12 37).2.1 (TX12 37).2.2.1 ∈ TBG) {v : Int32} (hm : pt μ k 37 v = some μ') (hdg : decode cc pc = .ok (.putfield index, 3))
    (kk : ∀ (H1 : Heap) (locs1 : List Loc), WH (fg G) b μ' H1 → va_S (fb b) H0 H1 locs1 → W p l e R s m args below meth c H1 locs1 cells slots Q (F0 m (pc + 3) ls rest)) : W p l e R s m args below meth c H locs cells slots Q (F0 m pc ls (.int v :: .ref (b + k) :: rest)) := by
  cases hm
  exact fl_put 12 rfl inB12 tyX12 tyX12_ok nmX12 (ky_lm hky (by decide)) (wF_12 hky) F hW hS 37 (by decide) hlink rfl rfl rfl rfl rfl (by simp [fl12]) (by rw [wF_12 hky]; simp [fl12, sI]) wF_sI hW.2 hdg kk
theorem fl_put12_38 {k : Nat} (hky : ky k = 12) (F : FX (fg G) b own cc nL p s m args meth c) (hW : WH (fg G) b μ H) (hS : va_S (fb b) H0 H locs) {index : Nat} (hlink : Cond.fieldLink own index RX12 (TX12 38).2.1 (TX12 38).2.2.1 ∈ TBG) {v : Int32} (hm : pt μ k 38 v = some μ') (hdg : decode cc pc = .ok (.putfield index, 3))
    (kk : ∀ (H1 : Heap) (locs1 : List Loc), WH (fg G) b μ' H1 → va_S (fb b) H0 H1 locs1 → W p l e R s m args below meth c H1 locs1 cells slots Q (F0 m (pc + 3) ls rest)) : W p l e R s m args below meth c H locs cells slots Q (F0 m pc ls (.int v :: .ref (b + k) :: rest)) := by
  cases hm
  exact fl_put 12 rfl inB12 tyX12 tyX12_ok nmX12 (ky_lm hky (by decide)) (wF_12 hky) F hW hS 38 (by decide) hlink rfl rfl rfl rfl rfl (by simp [fl12]) (by rw [wF_12 hky]; simp [fl12, sI]) wF_sI hW.2 hdg kk
theorem fl_put12_39 {k : Nat} (hky : ky k = 12) (F : FX (fg G) b own cc nL p s m args meth c) (hW : WH (fg G) b μ H) (hS : va_S (fb b) H0 H locs) {index : Nat} (hlink : Cond.fieldLink own index RX12 (TX12 39).2.1 (TX12 39).2.2.1 ∈ TBG) {v : Int32} (hm : pt μ k 39 v = some μ') (hdg : decode cc pc = .ok (.putfield index, 3))
    (kk : ∀ (H1 : Heap) (locs1 : List Loc), WH (fg G) b μ' H1 → va_S (fb b) H0 H1 locs1 → W p l e R s m args below meth c H1 locs1 cells slots Q (F0 m (pc + 3) ls rest)) : W p l e R s m args below meth c H locs cells slots Q (F0 m pc ls (.int v :: .ref (b + k) :: rest)) := by
  cases hm
  exact fl_put 12 rfl inB12 tyX12 tyX12_ok nmX12 (ky_lm hky (by decide)) (wF_12 hky) F hW hS 39 (by decide) hlink rfl rfl rfl rfl rfl (by simp [fl12]) (by rw [wF_12 hky]; simp [fl12, sI]) wF_sI hW.2 hdg kk
theorem fl_put12_40 {k : Nat} (hky : ky k = 12) (F : FX (fg G) b own cc nL p s m args meth c) (hW : WH (fg G) b μ H) (hS : va_S (fb b) H0 H locs) {index : Nat} (hlink : Cond.fieldLink own index RX12 (TX12 40).2.1 (TX12 40).2.2.1 ∈ TBG) {v : Int32} (hm : pt μ k 40 v = some μ') (hdg : decode cc pc = .ok (.putfield index, 3))
    (kk : ∀ (H1 : Heap) (locs1 : List Loc), WH (fg G) b μ' H1 → va_S (fb b) H0 H1 locs1 → W p l e R s m args below meth c H1 locs1 cells slots Q (F0 m (pc + 3) ls rest)) : W p l e R s m args below meth c H locs cells slots Q (F0 m pc ls (.int v :: .ref (b + k) :: rest)) := by
  cases hm
  exact fl_put 12 rfl inB12 tyX12 tyX12_ok nmX12 (ky_lm hky (by decide)) (wF_12 hky) F hW hS 40 (by decide) hlink rfl rfl rfl rfl rfl (by simp [fl12]) (by rw [wF_12 hky]; simp [fl12, sI]) wF_sI hW.2 hdg kk
theorem fl_put12_44 {k : Nat} (hky : ky k = 12) (F : FX (fg G) b own cc nL p s m args meth c) (hW : WH (fg G) b μ H) (hS : va_S (fb b) H0 H locs) {index : Nat} (hlink : Cond.fieldLink own index RX12 (TX12 44).2.1 (TX12 44).2.2.1 ∈ TBG) {v : Int32} (hm : pt μ k 44 v = some μ') (hdg : decode cc pc = .ok (.putfield index, 3))
    (kk : ∀ (H1 : Heap) (locs1 : List Loc), WH (fg G) b μ' H1 → va_S (fb b) H0 H1 locs1 → W p l e R s m args below meth c H1 locs1 cells slots Q (F0 m (pc + 3) ls rest)) : W p l e R s m args below meth c H locs cells slots Q (F0 m pc ls (.int v :: .ref (b + k) :: rest)) := by
  cases hm
  exact fl_put 12 rfl inB12 tyX12 tyX12_ok nmX12 (ky_lm hky (by decide)) (wF_12 hky) F hW hS 44 (by decide) hlink rfl rfl rfl rfl rfl (by simp [fl12]) (by rw [wF_12 hky]; simp [fl12, sI]) wF_sI hW.2 hdg kk
theorem fl_put12_47 {k : Nat} (hky : ky k = 12) (F : FX (fg G) b own cc nL p s m args meth c) (hW : WH (fg G) b μ H) (hS : va_S (fb b) H0 H locs) {index : Nat} (hlink : Cond.fieldLink own index RX12 (TX12 47).2.1 (TX12 47).2.2.1 ∈ TBG) {v : Int32} (hm : pt μ k 47 v = some μ') (hdg : decode cc pc = .ok (.putfield index, 3))
    (kk : ∀ (H1 : Heap) (locs1 : List Loc), WH (fg G) b μ' H1 → va_S (fb b) H0 H1 locs1 → W p l e R s m args below meth c H1 locs1 cells slots Q (F0 m (pc + 3) ls rest)) : W p l e R s m args below meth c H locs cells slots Q (F0 m pc ls (.int v :: .ref (b + k) :: rest)) := by
  cases hm
  exact fl_put 12 rfl inB12 tyX12 tyX12_ok nmX12 (ky_lm hky (by decide)) (wF_12 hky) F hW hS 47 (by decide) hlink rfl rfl rfl rfl rfl (by simp [fl12]) (by rw [wF_12 hky]; simp [fl12, sI]) wF_sI hW.2 hdg kk
theorem fl_put12_49 {k : Nat} (hky : ky k = 12) (F : FX (fg G) b own cc nL p s m args meth c) (hW : WH (fg G) b μ H) (hS : va_S (fb b) H0 H locs) {index : Nat} (hlink : Cond.fieldLink own index RX12 (TX12 49).2.1 (TX12 49).2.2.1 ∈ TBG) {v : Int32} (hm : pt μ k 49 v = some μ') (hdg : decode cc pc = .ok (.putfield index, 3))
    (kk : ∀ (H1 : Heap) (locs1 : List Loc), WH (fg G) b μ' H1 → va_S (fb b) H0 H1 locs1 → W p l e R s m args below meth c H1 locs1 cells slots Q (F0 m (pc + 3) ls rest)) : W p l e R s m args below meth c H locs cells slots Q (F0 m pc ls (.int v :: .ref (b + k) :: rest)) := by
  cases hm
  exact fl_put 12 rfl inB12 tyX12 tyX12_ok nmX12 (ky_lm hky (by decide)) (wF_12 hky) F hW hS 49 (by decide) hlink rfl rfl rfl rfl rfl (by simp [fl12]) (by rw [wF_12 hky]; simp [fl12, sI]) wF_sI hW.2 hdg kk
end FLD
