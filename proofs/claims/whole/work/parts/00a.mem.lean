/-! THE FLAT WORLD's memory: reads and writes; the methods' pure pictures stand in 00b, what they compute behind it, the machine's part from 01 on -/
abbrev Mm : Type := (Nat → Nat → Int32) × (Nat → Nat → Int64) × (Nat → Nat)
def sI (μ : Mm) (k j : Nat) (v : Int32) : Mm := (fun a i => if a = k ∧ i = j then v else μ.1 a i, μ.2)
def sJ (μ : Mm) (k j : Nat) (v : Int64) : Mm := (μ.1, fun a i => if a = k ∧ i = j then v else μ.2.1 a i, μ.2.2)
def sR (μ : Mm) (k v : Nat) : Mm := (μ.1, μ.2.1, fun a => if a = k then v else μ.2.2 a)
def cpI (μ : Mm) (ks sp kd dp n : Nat) : Mm := (fun a i => if a = kd ∧ dp ≤ i ∧ i < dp + n then μ.1 ks (sp + (i - dp)) else μ.1 a i, μ.2)
def cpJ (μ : Mm) (ks sp kd dp n : Nat) : Mm := (μ.1, fun a i => if a = kd ∧ dp ≤ i ∧ i < dp + n then μ.2.1 ks (sp + (i - dp)) else μ.2.1 a i, μ.2.2)
abbrev ix (i : Int32) : Nat := i.toNatClampNeg
def inb (i : Int32) (n : Nat) : Bool := decide (¬ i < 0) && decide (ix i < n)
def lnL : List Nat := [0, 0, 1100, 0, 14400, 0, 0, 8, 0, 0, 0, 0, 0, 8, 0, 24, 0, 24, 0, 24, 0, 192, 0, 24, 0, 0, 8, 0, 24, 0, 24, 0, 24, 0, 192, 0, 24, 6, 0, 0, 0, 24, 0, 24, 0, 24, 0, 24, 0, 192, 0, 24, 0, 0, 24, 0, 24, 0, 24, 0, 24, 0, 0, 192, 0, 192, 0, 192, 0, 192, 0, 192, 0, 24, 0, 24, 0, 24, 0, 24, 0, 0, 192, 0, 192, 0, 0, 8, 0, 24, 0, 24, 0, 24, 0, 192, 0, 24, 0, 0, 0, 24, 0, 24, 0, 24, 0, 24, 0, 192, 0, 24, 0, 0, 24, 0, 24, 0, 24, 0, 24, 0, 0, 192, 0, 192, 0, 192, 0, 192, 0, 192, 0, 24, 0, 24, 0, 24, 0, 24, 0, 600, 0, 600, 0, 0, 0, 8, 0, 24, 0, 24, 0, 24, 0, 192, 0, 24, 0, 0, 8, 0, 24, 0, 24, 0, 24, 0, 192, 0, 24, 0, 0, 0, 8, 0, 24, 0, 24, 0, 24, 0, 192, 0, 24, 0, 0, 8, 0, 24, 0, 24, 0, 24, 0, 192, 0, 24, 0, 0, 0, 8, 0, 24, 0, 24, 0, 24, 0, 192, 0, 24, 0, 0, 8, 0, 24, 0, 24, 0, 24, 0, 192, 0, 24, 0, 0, 0, 8, 0, 24, 0, 24, 0, 24, 0, 192, 0, 24, 0, 0, 8, 0, 24, 0, 24, 0, 24, 0, 192, 0, 24, 0, 0, 0, 8, 0, 24, 0, 24, 0, 24, 0, 192, 0, 24, 0, 0, 8, 0, 24, 0, 24, 0, 24, 0, 192, 0, 24, 0, 0, 0, 8, 0, 24, 0, 24, 0, 24, 0, 192, 0, 24, 0, 0, 8, 0, 24, 0, 24, 0, 24, 0, 192, 0, 24, 0, 18701, 2460, 1100, 16000, 24, 24, 4, 24, 24, 240, 240, 240, 240, 240, 240, 240, 240, 24, 32, 32, 192, 24, 112206, 16000, 1]
def ln (k : Nat) : Nat := lnL.getD k 0
def ld (μ : Mm) (k : Nat) (i : Int32) : Option Int32 := if inb i (ln k) = true then some (μ.1 k (ix i)) else none
def ldJ (μ : Mm) (k : Nat) (i : Int32) : Option Int64 := if inb i (ln k) = true then some (μ.2.1 k (ix i)) else none
def st (μ : Mm) (k : Nat) (i v : Int32) : Option Mm := if inb i (ln k) = true then some (sI μ k (ix i) v) else none
def stJ (μ : Mm) (k : Nat) (i : Int32) (v : Int64) : Option Mm := if inb i (ln k) = true then some (sJ μ k (ix i) v) else none
def dv (x y : Int32) : Option Int32 := if y = 0 then none else some (x / y)
def rm (x y : Int32) : Option Int32 := if y = 0 then none else some (x - (x / y) * y)
def cp (μ : Mm) (ks : Nat) (sp : Int32) (kd : Nat) (dp n : Int32) : Option Mm := if ¬ sp < 0 ∧ ¬ dp < 0 ∧ ¬ n < 0 ∧ ix sp + ix n ≤ ln ks ∧ ix dp + ix n ≤ ln kd then some (cpI μ ks (ix sp) kd (ix dp) (ix n)) else none
def cpL (μ : Mm) (ks : Nat) (sp : Int32) (kd : Nat) (dp n : Int32) : Option Mm := if ¬ sp < 0 ∧ ¬ dp < 0 ∧ ¬ n < 0 ∧ ix sp + ix n ≤ ln ks ∧ ix dp + ix n ≤ ln kd then some (cpJ μ ks (ix sp) kd (ix dp) (ix n)) else none
def isB (v : Int32) : Option Int32 := if v = 0 ∨ v = 1 then some v else none
def pt (μ : Mm) (k j : Nat) (v : Int32) : Option Mm := some (sI μ k j v)
def pz (μ : Mm) (k j : Nat) (v : Int32) : Option Mm := if v = 0 ∨ v = 1 then some (sI μ k j v) else none
def nm {α β : Type} (e : α) (f : α → Option β) : Option β := f e
def lenS : List Nat := [4, 5, 5, 4, 5, 6, 4, 3, 4, 4, 5, 4, 7]
def bytS : List (List Int32) := [[98, 111, 111, 107], [119, 105, 100, 116, 104], [108, 105, 110, 101, 115], [112, 97, 103, 101], [115, 116, 121, 108, 101], [105, 110, 100, 101, 110, 116], [104, 97, 110, 103], [103, 97, 112], [100, 111, 116, 115], [103, 114, 105, 100], [114, 105, 103, 104, 116], [109, 97, 105, 110], [115, 101, 99, 116, 105, 111, 110]]
def chS (w : Nat) (i : Int32) : Option Int32 := if inb i (lenS.getD w 0) = true then some ((bytS.getD w []).getD (ix i) 0) else none
