def sh_X9_take (t : Nat) (a1 : Nat) (μ : Mm) : Option Mm :=
  (cpL μ (a1 + 1) (0 : Int32) (t + 1) (0 : Int32) (if (nI (ln (a1 + 1))) < (nI (ln (t + 1))) then (nI (ln (a1 + 1))) else (nI (ln (t + 1))))).bind fun μ1 =>
  some μ1
def sh_X9_at (t : Nat) (a1 : Int32) (μ : Mm) : Option Int64 :=
  if a1 < (0 : Int32) then
  some (0 : Int64)
  else
  if (nI (ln (t + 1))) ≤ a1 then
  some (0 : Int64)
  else
  (ldJ μ (t + 1) a1).bind fun v1 =>
  some v1
def sh_X5_at (t : Nat) (a1 : Int32) (μ : Mm) : Option Int32 :=
  if a1 < (0 : Int32) then
  some (0 : Int32)
  else
  if (nI (ln (t + 1))) ≤ a1 then
  some (0 : Int32)
  else
  (ld μ (t + 1) a1).bind fun v1 =>
  some v1
def sh_X5_take (t : Nat) (a1 : Nat) (μ : Mm) : Option Mm :=
  (cp μ (a1 + 1) (0 : Int32) (t + 1) (0 : Int32) (if (nI (ln (a1 + 1))) < (nI (ln (t + 1))) then (nI (ln (a1 + 1))) else (nI (ln (t + 1))))).bind fun μ1 =>
  some μ1
def sh_X5_add (t : Nat) (a1 : Int32) (a2 : Int32) (μ : Mm) : Option Mm :=
  if a1 < (0 : Int32) then
  some μ
  else
  if (nI (ln (t + 1))) ≤ a1 then
  some μ
  else
  (ld μ (t + 1) a1).bind fun v1 =>
  (st μ (t + 1) a1 (v1 + a2)).bind fun μ2 =>
  some μ2
def sh_X9_letterOf (a0 : Int64) (a2 : Int32) (μ : Mm) : Option Int32 :=
  some ((a0 >>> (((55 : Int32) - ((5 : Int32) * a2)).toInt64 &&& 63)).toInt32 &&& (31 : Int32))
def sh_X9_move (t : Nat) (a1 : Int32) (a2 : Int32) (a3 : Int32) (μ : Mm) : Option Mm :=
  if a3 ≤ (0 : Int32) then
  some μ
  else
  if a1 < (0 : Int32) then
  some μ
  else
  if a2 < (0 : Int32) then
  some μ
  else
  if ((nI (ln (t + 1))) - (if a1 < a2 then a2 else a1)) < a3 then
  some μ
  else
  (cpL μ (t + 1) a1 (t + 1) a2 a3).bind fun μ1 =>
  some μ1
def sh_X5_move (t : Nat) (a1 : Int32) (a2 : Int32) (a3 : Int32) (μ : Mm) : Option Mm :=
  if a3 ≤ (0 : Int32) then
  some μ
  else
  if a1 < (0 : Int32) then
  some μ
  else
  if a2 < (0 : Int32) then
  some μ
  else
  if ((nI (ln (t + 1))) - (if a1 < a2 then a2 else a1)) < a3 then
  some μ
  else
  (cp μ (t + 1) a1 (t + 1) a2 a3).bind fun μ1 =>
  some μ1
def sh_X9_put (t : Nat) (a1 : Int32) (a2 : Int64) (μ : Mm) : Option Mm :=
  if a1 < (0 : Int32) then
  some μ
  else
  if (nI (ln (t + 1))) ≤ a1 then
  some μ
  else
  (stJ μ (t + 1) a1 a2).bind fun μ1 =>
  some μ1
def sh_X11_signWidth (a0 : Int32) (μ : Mm) : Option Int32 :=
  if a0 = (32 : Int32) then
  some (1 : Int32)
  else
  if a0 = (46 : Int32) then
  some (1 : Int32)
  else
  if a0 = (49 : Int32) then
  some (1 : Int32)
  else
  if a0 = (102 : Int32) then
  some (1 : Int32)
  else
  if a0 = (105 : Int32) then
  some (1 : Int32)
  else
  if a0 = (106 : Int32) then
  some (1 : Int32)
  else
  if a0 = (108 : Int32) then
  some (1 : Int32)
  else
  if a0 = (109 : Int32) then
  some (3 : Int32)
  else
  if a0 = (114 : Int32) then
  some (1 : Int32)
  else
  if a0 = (116 : Int32) then
  some (1 : Int32)
  else
  if a0 = (119 : Int32) then
  some (3 : Int32)
  else
  some (2 : Int32)
def sh_X9_widthOf_4 (n : Nat) (a0 : Int64) (μ : Mm) : Nat → Int32 → Int32 → Option Int32
  | 0, _, _ => none
  | f + 1, x2, x3 => if (12 : Int32) ≤ x3 then
  some x2
  else
  (sh_X9_letterOf a0 x3 μ).bind fun r1 =>
  if r1 = (0 : Int32) then
  some x2
  else
  (sh_X9_letterOf a0 x3 μ).bind fun r2 =>
  (sh_X11_signWidth ((96 : Int32) + r2) μ).bind fun r3 =>
  nm ((x2 + r3)) fun v4 =>
  sh_X9_widthOf_4 n a0 μ f v4 (x3 + (1 : Int32))
def sh_X9_widthOf (n : Nat) (a0 : Int64) (μ : Mm) : Option Int32 :=
  sh_X9_widthOf_4 n a0 μ n (0 : Int32) (0 : Int32)
def sh_X5_put (t : Nat) (a1 : Int32) (a2 : Int32) (μ : Mm) : Option Mm :=
  if a1 < (0 : Int32) then
  some μ
  else
  if (nI (ln (t + 1))) ≤ a1 then
  some μ
  else
  (st μ (t + 1) a1 a2).bind fun μ1 =>
  some μ1
def sh_X8_length (t : Nat) (μ : Mm) : Option Int32 :=
  some (μ.1 t 1)
def sh_X8_at (t : Nat) (a1 : Int32) (μ : Mm) : Option Int32 :=
  if a1 < (0 : Int32) then
  some (0 : Int32)
  else
  if (μ.1 t 1) ≤ a1 then
  some (0 : Int32)
  else
  if (nI (ln (t + 1))) ≤ a1 then
  some (0 : Int32)
  else
  (ld μ (t + 1) a1).bind fun v1 =>
  some v1
def sh_X8_put (t : Nat) (a1 : Int32) (μ : Mm) : Option Mm :=
  if (μ.1 t 1) < (0 : Int32) then
  some μ
  else
  if (nI (ln (t + 1))) ≤ (μ.1 t 1) then
  some μ
  else
  (st μ (t + 1) (μ.1 t 1) (vp_nar .byte a1.toInt8.toInt32)).bind fun μ1 =>
  (pt μ1 t 1 ((μ1.1 t 1) + (1 : Int32))).bind fun μ2 =>
  some μ2
def sh_X8_cut (t : Nat) (a1 : Int32) (μ : Mm) : Option Mm :=
  (pt μ t 1 a1).bind fun μ1 =>
  some μ1
def sh_X8_putFour (t : Nat) (a1 : Int32) (μ : Mm) : Option Mm :=
  (sh_X8_put t (a1 >>> ((24 : Int32) &&& 31)) μ).bind fun r1 =>
  (sh_X8_put t (a1 >>> ((16 : Int32) &&& 31)) r1).bind fun r2 =>
  (sh_X8_put t (a1 >>> ((8 : Int32) &&& 31)) r2).bind fun r3 =>
  (sh_X8_put t a1 r3).bind fun r4 =>
  some r4
def sh_X8_putTimes_2 (n : Nat) (t : Nat) (a1 : Int32) (a2 : Int32) : Nat → Int32 → Mm → Option Mm
  | 0, _, _ => none
  | f + 1, x3, μ => if a2 ≤ x3 then
  some μ
  else
  (sh_X8_put t a1 μ).bind fun r1 =>
  sh_X8_putTimes_2 n t a1 a2 f (x3 + (1 : Int32)) r1
def sh_X8_putTimes (n : Nat) (t : Nat) (a1 : Int32) (a2 : Int32) (μ : Mm) : Option Mm :=
  sh_X8_putTimes_2 n t a1 a2 n (0 : Int32) μ
def sh_X8_putWord_2 (n : Nat) (t : Nat) (a1 : Int64) : Nat → Int32 → Mm → Option Mm
  | 0, _, _ => none
  | f + 1, x3, μ => if (12 : Int32) ≤ x3 then
  some μ
  else
  (sh_X9_letterOf a1 x3 μ).bind fun r1 =>
  if r1 = (0 : Int32) then
  some μ
  else
  (sh_X9_letterOf a1 x3 μ).bind fun r2 =>
  (sh_X8_put t ((96 : Int32) + r2) μ).bind fun r3 =>
  sh_X8_putWord_2 n t a1 f (x3 + (1 : Int32)) r3
def sh_X8_putWord (n : Nat) (t : Nat) (a1 : Int64) (μ : Mm) : Option Mm :=
  sh_X8_putWord_2 n t a1 n (0 : Int32) μ
def sh_X11_quotient (a0 : Int32) (a1 : Int32) (μ : Mm) : Option Int32 :=
  if a1 ≤ (0 : Int32) then
  some (0 : Int32)
  else
  (dv a0 a1).bind fun v1 =>
  some v1
def sh_X8_putArabic_26 (n : Nat) (t : Nat) (a1 : Int32) : Nat → Int32 → Mm → Option Mm
  | 0, _, _ => none
  | f + 1, x2, μ => if x2 ≤ (0 : Int32) then
  some μ
  else
  (sh_X11_quotient a1 x2 μ).bind fun r1 =>
  (rm r1 (10 : Int32)).bind fun v2 =>
  (sh_X8_put t ((48 : Int32) + v2) μ).bind fun r3 =>
  (dv x2 (10 : Int32)).bind fun v4 =>
  sh_X8_putArabic_26 n t a1 f v4 r3
def sh_X8_putArabic_2 (n : Nat) (t : Nat) (a1 : Int32) : Nat → Int32 → Mm → Option Mm
  | 0, _, _ => none
  | f + 1, x2, μ => if (1000000000 : Int32) ≤ x2 then
  sh_X8_putArabic_26 n t a1 n x2 μ
  else
  (sh_X11_quotient a1 x2 μ).bind fun r5 =>
  if r5 < (10 : Int32) then
  sh_X8_putArabic_26 n t a1 n x2 μ
  else
  nm ((x2 * (10 : Int32))) fun v6 =>
  sh_X8_putArabic_2 n t a1 f v6 μ
def sh_X8_putArabic (n : Nat) (t : Nat) (a1 : Int32) (μ : Mm) : Option Mm :=
  sh_X8_putArabic_2 n t a1 n (1 : Int32) μ
def sh_X8_putRomanFigure_53 (n : Nat) (t : Nat) (a1 : Int32) (a2 : Int32) (a3 : Int32) (a4 : Int32) : Nat → Int32 → Mm → Option Mm
  | 0, _, _ => none
  | f + 1, x5, μ => if x5 ≤ (0 : Int32) then
  some μ
  else
  (sh_X8_put t a2 μ).bind fun r2 =>
  sh_X8_putRomanFigure_53 n t a1 a2 a3 a4 f (x5 + (-1 : Int32)) r2
def sh_X8_putRomanFigure (n : Nat) (t : Nat) (a1 : Int32) (a2 : Int32) (a3 : Int32) (a4 : Int32) (μ : Mm) : Option Mm :=
  if a1 = (9 : Int32) then
  (sh_X8_put t a2 μ).bind fun r7 =>
  (sh_X8_put t a4 r7).bind fun r8 =>
  some r8
  else
  if a1 = (4 : Int32) then
  (sh_X8_put t a2 μ).bind fun r5 =>
  (sh_X8_put t a3 r5).bind fun r6 =>
  some r6
  else
  if a1 < (5 : Int32) then
  (rm a1 (5 : Int32)).bind fun v1 =>
  sh_X8_putRomanFigure_53 n t a1 a2 a3 a4 n v1 μ
  else
  (sh_X8_put t a3 μ).bind fun r3 =>
  (rm a1 (5 : Int32)).bind fun v4 =>
  sh_X8_putRomanFigure_53 n t a1 a2 a3 a4 n v4 r3
def sh_X8_putRoman (n : Nat) (t : Nat) (a1 : Int32) (μ : Mm) : Option Mm :=
  (dv a1 (1000 : Int32)).bind fun v1 =>
  (sh_X8_putTimes n t (109 : Int32) v1 μ).bind fun r2 =>
  (dv a1 (100 : Int32)).bind fun v3 =>
  (rm v3 (10 : Int32)).bind fun v4 =>
  (sh_X8_putRomanFigure n t v4 (99 : Int32) (100 : Int32) (109 : Int32) r2).bind fun r5 =>
  (dv a1 (10 : Int32)).bind fun v6 =>
  (rm v6 (10 : Int32)).bind fun v7 =>
  (sh_X8_putRomanFigure n t v7 (120 : Int32) (108 : Int32) (99 : Int32) r5).bind fun r8 =>
  (rm a1 (10 : Int32)).bind fun v9 =>
  (sh_X8_putRomanFigure n t v9 (105 : Int32) (118 : Int32) (120 : Int32) r8).bind fun r10 =>
  some r10
def sh_X8_wordBetween_15 (n : Nat) (t : Nat) (a1 : Int32) (a2 : Int32) (μ : Mm) : Nat → Int64 → Int32 → Option Int64
  | 0, _, _ => none
  | f + 1, x3, x5 => if a2 ≤ x5 then
  some x3
  else
  (sh_X8_at t x5 μ).bind fun r2 =>
  nm (((r2 - (97 : Int32)) + (1 : Int32)).toInt64) fun v3 =>
  if (lg_cmp v3 (1 : Int64)) < (0 : Int32) then
  some (0 : Int64)
  else
  if (lg_cmp v3 (26 : Int64)) ≤ (0 : Int32) then
  nm ((x3 ||| (v3 <<< (((55 : Int32) - ((5 : Int32) * (x5 - a1))).toInt64 &&& 63)))) fun v4 =>
  sh_X8_wordBetween_15 n t a1 a2 μ f v4 (x5 + (1 : Int32))
  else
  some (0 : Int64)
def sh_X8_wordBetween (n : Nat) (t : Nat) (a1 : Int32) (a2 : Int32) (μ : Mm) : Option Int64 :=
  if (a2 - a1) ≤ (12 : Int32) then
  nm ((0 : Int64)) fun v1 =>
  sh_X8_wordBetween_15 n t a1 a2 μ n v1 a1
  else
  some (0 : Int64)
def sh_X8_isLike_15 (n : Nat) (t : Nat) (a1 : Nat) (μ : Mm) : Nat → Int32 → Option Int32
  | 0, _ => none
  | f + 1, x2 => if (μ.1 t 1) ≤ x2 then
  some (1 : Int32)
  else
  (sh_X8_at t x2 μ).bind fun r1 =>
  (sh_X8_at a1 x2 μ).bind fun r2 =>
  if r1 = r2 then
  sh_X8_isLike_15 n t a1 μ f (x2 + (1 : Int32))
  else
  some (0 : Int32)
def sh_X8_isLike (n : Nat) (t : Nat) (a1 : Nat) (μ : Mm) : Option Int32 :=
  if (μ.1 t 1) = (μ.1 a1 1) then
  sh_X8_isLike_15 n t a1 μ n (0 : Int32)
  else
  some (0 : Int32)
def sh_X0_empty (t : Nat) (μ : Mm) : Option Mm :=
  (sh_X5_put (t + 1) (0 : Int32) (60 : Int32) μ).bind fun r1 =>
  (sh_X5_put (t + 1) (1 : Int32) (40 : Int32) r1).bind fun r2 =>
  (sh_X5_put (t + 1) (2 : Int32) (40 : Int32) r2).bind fun r3 =>
  (sh_X5_put (t + 1) (3 : Int32) (2 : Int32) r3).bind fun r4 =>
  (sh_X5_put (t + 1) (4 : Int32) (3 : Int32) r4).bind fun r5 =>
  (sh_X5_put (t + 1) (5 : Int32) (1 : Int32) r5).bind fun r6 =>
  (sh_X5_put (t + 1) (6 : Int32) (2 : Int32) r6).bind fun r7 =>
  (sh_X5_put (t + 1) (7 : Int32) (3 : Int32) r7).bind fun r8 =>
  (pz r8 t 1 (0 : Int32)).bind fun μ9 =>
  (pt μ9 t 2 (0 : Int32)).bind fun μ10 =>
  (pt μ10 t 3 (0 : Int32)).bind fun μ11 =>
  some μ11
def sh_X0_take (t : Nat) (a1 : Nat) (μ : Mm) : Option Mm :=
  (sh_X5_take (t + 1) (a1 + 1) μ).bind fun r1 =>
  (pz r1 t 1 (r1.1 a1 1)).bind fun μ2 =>
  (pt μ2 t 2 (μ2.1 a1 2)).bind fun μ3 =>
  (pt μ3 t 3 (μ3.1 a1 3)).bind fun μ4 =>
  (sh_X5_take (t + 3) (a1 + 3) μ4).bind fun r5 =>
  (sh_X5_take (t + 5) (a1 + 5) r5).bind fun r6 =>
  (sh_X5_take (t + 7) (a1 + 7) r6).bind fun r7 =>
  (sh_X9_take (t + 9) (a1 + 9) r7).bind fun r8 =>
  (sh_X5_take (t + 11) (a1 + 11) r8).bind fun r9 =>
  some r9
def sh_X0_partOf (t : Nat) (a1 : Int32) (μ : Mm) : Option Int32 :=
  if (μ.1 t 3) ≤ a1 then
  some (1 : Int32)
  else
  some (0 : Int32)
def sh_X0_partBegin (t : Nat) (a1 : Int32) (μ : Mm) : Option Int32 :=
  if a1 = (0 : Int32) then
  some (0 : Int32)
  else
  some (μ.1 t 3)
def sh_X0_partEnd (t : Nat) (a1 : Int32) (μ : Mm) : Option Int32 :=
  if a1 = (0 : Int32) then
  some (μ.1 t 3)
  else
  some (μ.1 t 2)
def sh_X0_partForNew (t : Nat) (a1 : Int32) (μ : Mm) : Option Int32 :=
  if a1 < (μ.1 t 3) then
  some (0 : Int32)
  else
  if (μ.1 t 3) = (μ.1 t 2) then
  some (0 : Int32)
  else
  some (1 : Int32)
def sh_X0_greatestLevel (t : Nat) (a1 : Int32) (a2 : Int32) (μ : Mm) : Option Int32 :=
  (sh_X0_partBegin t a1 μ).bind fun r1 =>
  if a2 = r1 then
  some (1 : Int32)
  else
  (sh_X5_at (t + 3) (a2 - (1 : Int32)) μ).bind fun r2 =>
  some (if (4 : Int32) < (r2 + (1 : Int32)) then (4 : Int32) else (r2 + (1 : Int32)))
def sh_X0_levelStands_29 (t : Nat) (a1 : Int32) (a2 : Int32) (a3 : Int32) (a4 : Int32) (μ : Mm) (s0 : Int32) : Option Int32 :=
  if s0 = (0 : Int32) then
  some (0 : Int32)
  else
  (sh_X0_greatestLevel t a1 a2 μ).bind fun r2 =>
  if r2 < a4 then
  some (0 : Int32)
  else
  some (1 : Int32)
def sh_X0_levelStands_24 (t : Nat) (a1 : Int32) (a2 : Int32) (a3 : Int32) (a4 : Int32) (μ : Mm) : Option Int32 :=
  sh_X0_levelStands_29 t a1 a2 a3 a4 μ (1 : Int32)
def sh_X0_levelStands (t : Nat) (a1 : Int32) (a2 : Int32) (a3 : Int32) (a4 : Int32) (μ : Mm) : Option Int32 :=
  (sh_X0_partEnd t a1 μ).bind fun r1 =>
  if r1 ≤ a3 then
  sh_X0_levelStands_24 t a1 a2 a3 a4 μ
  else
  (sh_X5_at (t + 3) a3 μ).bind fun r3 =>
  if (a4 + (1 : Int32)) < r3 then
  sh_X0_levelStands_29 t a1 a2 a3 a4 μ (0 : Int32)
  else
  sh_X0_levelStands_24 t a1 a2 a3 a4 μ
def sh_X0_entitle_12 (n : Nat) (t : Nat) (a1 : Int32) (a2 : Nat) (a3 : Int32) : Nat → Int32 → Mm → Option Mm
  | 0, _, _ => none
  | f + 1, x4, μ => if a3 ≤ x4 then
  some μ
  else
  (sh_X9_at a2 x4 μ).bind fun r2 =>
  (sh_X9_put (t + 9) ((a1 * (8 : Int32)) + x4) r2 μ).bind fun r3 =>
  sh_X0_entitle_12 n t a1 a2 a3 f (x4 + (1 : Int32)) r3
def sh_X0_entitle (n : Nat) (t : Nat) (a1 : Int32) (a2 : Nat) (a3 : Int32) (μ : Mm) : Option Mm :=
  (sh_X5_put (t + 7) a1 a3 μ).bind fun r1 =>
  sh_X0_entitle_12 n t a1 a2 a3 n (0 : Int32) r1
def sh_X0_moveSections (t : Nat) (a1 : Int32) (a2 : Int32) (a3 : Int32) (μ : Mm) : Option Mm :=
  (sh_X5_move (t + 3) a1 a2 a3 μ).bind fun r1 =>
  (sh_X5_move (t + 5) a1 a2 a3 r1).bind fun r2 =>
  (sh_X5_move (t + 7) a1 a2 a3 r2).bind fun r3 =>
  (sh_X5_move (t + 11) a1 a2 a3 r3).bind fun r4 =>
  (sh_X9_move (t + 9) (a1 * (8 : Int32)) (a2 * (8 : Int32)) (a3 * (8 : Int32)) r4).bind fun r5 =>
  some r5
def sh_X0_open (t : Nat) (a1 : Int32) (a2 : Int32) (μ : Mm) : Option Mm :=
  (sh_X0_moveSections t a1 (a1 + (1 : Int32)) ((μ.1 t 2) - a1) μ).bind fun r1 =>
  (sh_X5_put (t + 11) a1 (-1 : Int32) r1).bind fun r2 =>
  (pt r2 t 2 ((r2.1 t 2) + (1 : Int32))).bind fun μ3 =>
  if a2 = (0 : Int32) then
  (pt μ3 t 3 ((μ3.1 t 3) + (1 : Int32))).bind fun μ4 =>
  some μ4
  else
  some μ3
def sh_X0_cutBranch_44 (n : Nat) (t : Nat) (a1 : Int32) (x2 : Int32) (x3 : Int32) (μ : Mm) : Option (Int32 × Mm) :=
  (sh_X0_moveSections t x3 a1 ((μ.1 t 2) - x3) μ).bind fun r4 =>
  nm ((x3 - a1)) fun v5 =>
  (pt r4 t 2 ((r4.1 t 2) - v5)).bind fun μ6 =>
  if x2 = (0 : Int32) then
  (pt μ6 t 3 ((μ6.1 t 3) - v5)).bind fun μ7 =>
  some (v5, μ7)
  else
  some (v5, μ6)
def sh_X0_cutBranch_10 (n : Nat) (t : Nat) (a1 : Int32) : Nat → Int32 → Int32 → Mm → Option (Int32 × Mm)
  | 0, _, _, _ => none
  | f + 1, x2, x3, μ => (sh_X0_partEnd t x2 μ).bind fun r3 =>
  if r3 ≤ x3 then
  sh_X0_cutBranch_44 n t a1 x2 x3 μ
  else
  (sh_X5_at (t + 3) x3 μ).bind fun r8 =>
  (sh_X5_at (t + 3) a1 μ).bind fun r9 =>
  if r8 ≤ r9 then
  sh_X0_cutBranch_44 n t a1 x2 x3 μ
  else
  sh_X0_cutBranch_10 n t a1 f x2 (x3 + (1 : Int32)) μ
def sh_X0_cutBranch (n : Nat) (t : Nat) (a1 : Int32) (μ : Mm) : Option (Int32 × Mm) :=
  (sh_X0_partOf t a1 μ).bind fun r1 =>
  nm ((a1 + (1 : Int32))) fun v2 =>
  sh_X0_cutBranch_10 n t a1 n r1 v2 μ
def sh_X6_take (t : Nat) (a1 : Nat) (μ : Mm) : Option Mm :=
  (sh_X0_take (t + 1) (a1 + 1) μ).bind fun r1 =>
  (sh_X0_take (t + 14) (a1 + 14) r1).bind fun r2 =>
  (pz r2 t 2 (r2.1 a1 2)).bind fun μ3 =>
  some μ3
def sh_X6_keepProof_2 (n : Nat) (t : Nat) : Nat → Int32 → Mm → Option Mm
  | 0, _, _ => none
  | f + 1, x1, μ => if (μ.1 (t + 1) 2) ≤ x1 then
  (sh_X0_take (t + 14) (t + 1) μ).bind fun r1 =>
  (pz r1 t 2 (1 : Int32)).bind fun μ2 =>
  some μ2
  else
  (sh_X5_put (t + 12) x1 x1 μ).bind fun r3 =>
  sh_X6_keepProof_2 n t f (x1 + (1 : Int32)) r3
def sh_X6_keepProof (n : Nat) (t : Nat) (μ : Mm) : Option Mm :=
  sh_X6_keepProof_2 n t n (0 : Int32) μ
def sh_X2_findPlace_67 (n : Nat) (t : Nat) (a1 : Nat) (a2 : Int32) : Nat → Int32 → Int32 → Int32 → Mm → Option Mm
  | 0, _, _, _, _ => none
  | f + 1, x4, x5, x6, μ => if a2 ≤ x6 then
  (sh_X5_put (t + 1) a2 x4 μ).bind fun r4 =>
  (sh_X5_put (t + 3) a2 (0 : Int32) r4).bind fun r5 =>
  (sh_X5_add (t + 3) x4 (1 : Int32) r5).bind fun r6 =>
  (sh_X5_put (t + 5) a2 x5 r6).bind fun r7 =>
  some r7
  else
  (sh_X5_at (t + 1) x6 μ).bind fun r8 =>
  if r8 = x4 then
  sh_X2_findPlace_67 n t a1 a2 f x4 (x5 + (1 : Int32)) (x6 + (1 : Int32)) μ
  else
  sh_X2_findPlace_67 n t a1 a2 f x4 x5 (x6 + (1 : Int32)) μ
def sh_X2_findPlace_47 (n : Nat) (t : Nat) (a1 : Nat) (a2 : Int32) (x3 : Int32) (x4 : Int32) (μ : Mm) : Option Mm :=
  if x3 ≤ x4 then
  sh_X2_findPlace_67 n t a1 a2 n x4 (1 : Int32) x3 μ
  else
  sh_X2_findPlace_67 n t a1 a2 n (-1 : Int32) (1 : Int32) x3 μ
def sh_X2_findPlace_15 (n : Nat) (t : Nat) (a1 : Nat) (a2 : Int32) : Nat → Int32 → Int32 → Mm → Option Mm
  | 0, _, _, _ => none
  | f + 1, x3, x4, μ => if x4 < x3 then
  sh_X2_findPlace_47 n t a1 a2 x3 x4 μ
  else
  (sh_X5_at (a1 + 3) x4 μ).bind fun r9 =>
  (sh_X5_at (a1 + 3) a2 μ).bind fun r10 =>
  if r9 < r10 then
  sh_X2_findPlace_47 n t a1 a2 x3 x4 μ
  else
  sh_X2_findPlace_15 n t a1 a2 f x3 (x4 + (-1 : Int32)) μ
def sh_X2_findPlace (n : Nat) (t : Nat) (a1 : Nat) (a2 : Int32) (μ : Mm) : Option Mm :=
  (sh_X0_partOf a1 a2 μ).bind fun r1 =>
  (sh_X0_partBegin a1 r1 μ).bind fun r2 =>
  nm ((a2 - (1 : Int32))) fun v3 =>
  sh_X2_findPlace_15 n t a1 a2 n r2 v3 μ
def sh_X11_arabicWidth_4 (n : Nat) (a0 : Int32) (μ : Mm) : Nat → Int32 → Int32 → Option Int32
  | 0, _, _ => none
  | f + 1, x1, x2 => if x2 ≤ (0 : Int32) then
  some x1
  else
  (rm x2 (10 : Int32)).bind fun v1 =>
  (sh_X11_signWidth ((48 : Int32) + v1) μ).bind fun r2 =>
  nm ((x1 + r2)) fun v3 =>
  (dv x2 (10 : Int32)).bind fun v4 =>
  sh_X11_arabicWidth_4 n a0 μ f v3 v4
def sh_X11_arabicWidth (n : Nat) (a0 : Int32) (μ : Mm) : Option Int32 :=
  sh_X11_arabicWidth_4 n a0 μ n (0 : Int32) a0
def sh_X2_measureLabel_63 (n : Nat) (t : Nat) (a1 : Nat) (a2 : Int32) (x3 : Int32) (μ : Mm) : Option Mm :=
  (sh_X5_put (t + 7) a2 x3 μ).bind fun r2 =>
  some r2
def sh_X2_measureLabel_46 (n : Nat) (t : Nat) (a1 : Nat) (a2 : Int32) (s0 : Int32) (μ : Mm) : Option Mm :=
  (sh_X5_at (t + 5) a2 μ).bind fun r6 =>
  (sh_X11_arabicWidth n r6 μ).bind fun r7 =>
  nm ((s0 + r7)) fun v8 =>
  sh_X2_measureLabel_63 n t a1 a2 v8 μ
def sh_X2_measureLabel (n : Nat) (t : Nat) (a1 : Nat) (a2 : Int32) (μ : Mm) : Option Mm :=
  (sh_X0_partOf a1 a2 μ).bind fun r1 =>
  if r1 = (1 : Int32) then
  (sh_X5_at (t + 1) a2 μ).bind fun r3 =>
  if r3 = (-1 : Int32) then
  sh_X2_measureLabel_46 n t a1 a2 (0 : Int32) μ
  else
  (sh_X5_at (t + 7) r3 μ).bind fun r4 =>
  (sh_X11_signWidth (46 : Int32) μ).bind fun r5 =>
  sh_X2_measureLabel_46 n t a1 a2 (r4 + r5) μ
  else
  sh_X2_measureLabel_63 n t a1 a2 (0 : Int32) μ
def sh_X2_measureTitle_76 (n : Nat) (t : Nat) (a1 : Nat) (a2 : Int32) (k5 : (Int32 → Int32 → Mm → Option Mm)) (x3 : Int32) (x4 : Int32) (x5 : Int32) (x6 : Int32) (μ : Mm) : Option Mm :=
  (sh_X5_put (t + 9) x5 x6 μ).bind fun r6 =>
  if x4 = (0 : Int32) then
  nm ((x3 + (x6 + (0 : Int32)))) fun v9 =>
  k5 v9 (x4 + (1 : Int32)) r6
  else
  (sh_X11_signWidth (32 : Int32) r6).bind fun r7 =>
  nm ((x3 + (x6 + r7))) fun v8 =>
  k5 v8 (x4 + (1 : Int32)) r6
def sh_X2_measureTitle_5 (n : Nat) (t : Nat) (a1 : Nat) (a2 : Int32) : Nat → Int32 → Int32 → Mm → Option Mm
  | 0, _, _, _ => none
  | f + 1, x3, x4, μ => (sh_X5_at (a1 + 7) a2 μ).bind fun r1 =>
  if r1 ≤ x4 then
  (sh_X5_put (t + 11) a2 x3 μ).bind fun r2 =>
  some r2
  else
  nm (((a2 * (8 : Int32)) + x4)) fun v3 =>
  (sh_X9_at (a1 + 9) v3 μ).bind fun r4 =>
  (sh_X9_widthOf n r4 μ).bind fun r5 =>
  if x4 = (0 : Int32) then
  (sh_X5_at (t + 7) a2 μ).bind fun r10 =>
  if r10 ≤ (0 : Int32) then
  sh_X2_measureTitle_76 n t a1 a2 (fun (x3 : Int32) (x4 : Int32) (μ : Mm) => sh_X2_measureTitle_5 n t a1 a2 f x3 x4 μ) x3 x4 v3 r5 μ
  else
  (sh_X5_at (t + 7) a2 μ).bind fun r11 =>
  (sh_X11_signWidth (32 : Int32) μ).bind fun r12 =>
  nm ((r5 + (r11 + r12))) fun v13 =>
  sh_X2_measureTitle_76 n t a1 a2 (fun (x3 : Int32) (x4 : Int32) (μ : Mm) => sh_X2_measureTitle_5 n t a1 a2 f x3 x4 μ) x3 x4 v3 v13 μ
  else
  sh_X2_measureTitle_76 n t a1 a2 (fun (x3 : Int32) (x4 : Int32) (μ : Mm) => sh_X2_measureTitle_5 n t a1 a2 f x3 x4 μ) x3 x4 v3 r5 μ
def sh_X2_measureTitle (n : Nat) (t : Nat) (a1 : Nat) (a2 : Int32) (μ : Mm) : Option Mm :=
  sh_X2_measureTitle_5 n t a1 a2 n (0 : Int32) (0 : Int32) μ
def sh_X2_measure_2 (n : Nat) (t : Nat) (a1 : Nat) : Nat → Int32 → Mm → Option Mm
  | 0, _, _ => none
  | f + 1, x2, μ => if (μ.1 a1 2) ≤ x2 then
  some μ
  else
  (sh_X2_findPlace n t a1 x2 μ).bind fun r1 =>
  (sh_X2_measureLabel n t a1 x2 r1).bind fun r2 =>
  (sh_X2_measureTitle n t a1 x2 r2).bind fun r3 =>
  sh_X2_measure_2 n t a1 f (x2 + (1 : Int32)) r3
def sh_X2_measure (n : Nat) (t : Nat) (a1 : Nat) (μ : Mm) : Option Mm :=
  sh_X2_measure_2 n t a1 n (0 : Int32) μ
def sh_X2_ordinalAt_13 (n : Nat) (t : Nat) (a1 : Nat) (a2 : Int32) (a3 : Int32) (μ : Mm) : Nat → Int32 → Int32 → Option Int32
  | 0, _, _ => none
  | f + 1, x4, x5 => if x5 ≤ a3 then
  (sh_X5_at (t + 5) x4 μ).bind fun r2 =>
  some r2
  else
  (sh_X5_at (t + 1) x4 μ).bind fun r3 =>
  sh_X2_ordinalAt_13 n t a1 a2 a3 μ f r3 (x5 + (-1 : Int32))
def sh_X2_ordinalAt (n : Nat) (t : Nat) (a1 : Nat) (a2 : Int32) (a3 : Int32) (μ : Mm) : Option Int32 :=
  (sh_X5_at (a1 + 3) a2 μ).bind fun r1 =>
  sh_X2_ordinalAt_13 n t a1 a2 a3 μ n a2 r1
def sh_X11_quotientUp (a0 : Int32) (a1 : Int32) (μ : Mm) : Option Int32 :=
  if a1 ≤ (0 : Int32) then
  some (0 : Int32)
  else
  (dv ((a0 + a1) - (1 : Int32)) a1).bind fun v1 =>
  some v1
def sh_X3_pagesBeforeChapter_15 (a0 : Int32) (a1 : Int32) (a2 : Int32) (μ : Mm) (s0 : Int32) : Option Int32 :=
  if a2 = (0 : Int32) then
  some a0
  else
  if s0 = (0 : Int32) then
  some a0
  else
  some (a0 + (1 : Int32))
def sh_X3_pagesBeforeChapter (a0 : Int32) (a1 : Int32) (a2 : Int32) (μ : Mm) : Option Int32 :=
  (rm ((a1 + a0) + (1 : Int32)) (2 : Int32)).bind fun v1 =>
  if v1 = (0 : Int32) then
  sh_X3_pagesBeforeChapter_15 a0 a1 a2 μ (1 : Int32)
  else
  sh_X3_pagesBeforeChapter_15 a0 a1 a2 μ (0 : Int32)
def sh_X3_layPart_156 (n : Nat) (t : Nat) (a1 : Nat) (a2 : Int32) (a3 : Int32) (k20 : (Int32 → Int32 → Int32 → Mm → Option (Int32 × Mm))) (x4 : Int32) (x6 : Int32) (s0 : Int32) (s1 : Int32) (μ : Mm) : Option (Int32 × Mm) :=
  (sh_X5_at (a1 + 5) x6 μ).bind fun r11 =>
  nm ((s0 + (s1 + r11))) fun v12 =>
  k20 x4 v12 (x6 + (1 : Int32)) μ
def sh_X3_layPart_95 (n : Nat) (t : Nat) (a1 : Nat) (a2 : Int32) (a3 : Int32) (k20 : (Int32 → Int32 → Int32 → Mm → Option (Int32 × Mm))) (x4 : Int32) (x5 : Int32) (x6 : Int32) (μ : Mm) : Option (Int32 × Mm) :=
  (sh_X11_quotient x5 x4 μ).bind fun r7 =>
  (sh_X5_put (t + 1) x6 ((a3 + r7) + (1 : Int32)) μ).bind fun r8 =>
  (sh_X5_put (t + 5) x6 (x5 - (x4 * r7)) r8).bind fun r9 =>
  (sh_X5_at (a1 + 3) x6 r9).bind fun r10 =>
  if r10 = (1 : Int32) then
  sh_X3_layPart_156 n t a1 a2 a3 k20 x4 x6 x5 (3 : Int32) r9
  else
  sh_X3_layPart_156 n t a1 a2 a3 k20 x4 x6 x5 (1 : Int32) r9
def sh_X3_layPart_20 (n : Nat) (t : Nat) (a1 : Nat) (a2 : Int32) (a3 : Int32) : Nat → Int32 → Int32 → Int32 → Mm → Option (Int32 × Mm)
  | 0, _, _, _, _ => none
  | f + 1, x4, x5, x6, μ => (sh_X0_partEnd a1 a2 μ).bind fun r3 =>
  if r3 ≤ x6 then
  (sh_X11_quotientUp x5 x4 μ).bind fun r4 =>
  some (r4, μ)
  else
  (sh_X5_at (a1 + 3) x6 μ).bind fun r5 =>
  if r5 = (1 : Int32) then
  (sh_X11_quotientUp x5 x4 μ).bind fun r15 =>
  (sh_X3_pagesBeforeChapter r15 a3 (μ.1 a1 1) μ).bind fun r16 =>
  nm ((x4 * r16)) fun v17 =>
  sh_X3_layPart_95 n t a1 a2 a3 (fun (x4 : Int32) (x5 : Int32) (x6 : Int32) (μ : Mm) => sh_X3_layPart_20 n t a1 a2 a3 f x4 x5 x6 μ) x4 v17 x6 μ
  else
  (sh_X11_quotientUp x5 x4 μ).bind fun r6 =>
  if (2 : Int32) ≤ ((x4 * r6) - x5) then
  sh_X3_layPart_95 n t a1 a2 a3 (fun (x4 : Int32) (x5 : Int32) (x6 : Int32) (μ : Mm) => sh_X3_layPart_20 n t a1 a2 a3 f x4 x5 x6 μ) x4 x5 x6 μ
  else
  (sh_X11_quotientUp x5 x4 μ).bind fun r13 =>
  nm ((x4 * r13)) fun v14 =>
  sh_X3_layPart_95 n t a1 a2 a3 (fun (x4 : Int32) (x5 : Int32) (x6 : Int32) (μ : Mm) => sh_X3_layPart_20 n t a1 a2 a3 f x4 x5 x6 μ) x4 v14 x6 μ
def sh_X3_layPart (n : Nat) (t : Nat) (a1 : Nat) (a2 : Int32) (a3 : Int32) (μ : Mm) : Option (Int32 × Mm) :=
  (sh_X5_at (a1 + 1) (2 : Int32) μ).bind fun r1 =>
  (sh_X0_partBegin a1 a2 μ).bind fun r2 =>
  sh_X3_layPart_20 n t a1 a2 a3 n r1 (0 : Int32) r2 μ
def sh_X11_romanFigureWidth (a0 : Int32) (a1 : Int32) (a2 : Int32) (a3 : Int32) (μ : Mm) : Option Int32 :=
  if a0 = (9 : Int32) then
  some (a1 + a3)
  else
  if a0 = (4 : Int32) then
  some (a1 + a2)
  else
  if a0 < (5 : Int32) then
  (rm a0 (5 : Int32)).bind fun v1 =>
  some ((0 : Int32) + (v1 * a1))
  else
  (rm a0 (5 : Int32)).bind fun v2 =>
  some (a2 + (v2 * a1))
def sh_X11_romanWidth (a0 : Int32) (μ : Mm) : Option Int32 :=
  (dv a0 (100 : Int32)).bind fun v1 =>
  (rm v1 (10 : Int32)).bind fun v2 =>
  (sh_X11_signWidth (99 : Int32) μ).bind fun r3 =>
  (sh_X11_signWidth (100 : Int32) μ).bind fun r4 =>
  (sh_X11_signWidth (109 : Int32) μ).bind fun r5 =>
  (sh_X11_romanFigureWidth v2 r3 r4 r5 μ).bind fun r6 =>
  (dv a0 (10 : Int32)).bind fun v7 =>
  (rm v7 (10 : Int32)).bind fun v8 =>
  (sh_X11_signWidth (120 : Int32) μ).bind fun r9 =>
  (sh_X11_signWidth (108 : Int32) μ).bind fun r10 =>
  (sh_X11_signWidth (99 : Int32) μ).bind fun r11 =>
  (sh_X11_romanFigureWidth v8 r9 r10 r11 μ).bind fun r12 =>
  (rm a0 (10 : Int32)).bind fun v13 =>
  (sh_X11_signWidth (105 : Int32) μ).bind fun r14 =>
  (sh_X11_signWidth (118 : Int32) μ).bind fun r15 =>
  (sh_X11_signWidth (120 : Int32) μ).bind fun r16 =>
  (sh_X11_romanFigureWidth v13 r14 r15 r16 μ).bind fun r17 =>
  (dv a0 (1000 : Int32)).bind fun v18 =>
  (sh_X11_signWidth (109 : Int32) μ).bind fun r19 =>
  some ((((v18 * r19) + r6) + r12) + r17)
def sh_X3_lay_129 (n : Nat) (t : Nat) (a1 : Nat) (a2 : Int32) (k70 : (Int32 → Int32 → Mm → Option Mm)) (x4 : Int32) (x6 : Int32) (x7 : Int32) (x8 : Int32) (s1 : Int32) (s2 : Int32) (μ : Mm) : Option Mm :=
  (sh_X5_put (t + 3) s1 s2 μ).bind fun r11 =>
  if x8 = (0 : Int32) then
  (sh_X11_arabicWidth n x7 r11).bind fun r12 =>
  (sh_X5_put (t + 7) x6 r12 r11).bind fun r13 =>
  k70 x4 (x6 + (1 : Int32)) r13
  else
  (sh_X11_romanWidth x7 r11).bind fun r14 =>
  (sh_X5_put (t + 7) x6 r14 r11).bind fun r15 =>
  k70 x4 (x6 + (1 : Int32)) r15
def sh_X3_lay_104 (n : Nat) (t : Nat) (a1 : Nat) (a2 : Int32) (k70 : (Int32 → Int32 → Mm → Option Mm)) (x4 : Int32) (x6 : Int32) (x7 : Int32) (s0 : Int32) (μ : Mm) : Option Mm :=
  if s0 = (0 : Int32) then
  sh_X3_lay_129 n t a1 a2 k70 x4 x6 x7 s0 x6 ((x4 + x7) - (1 : Int32)) μ
  else
  sh_X3_lay_129 n t a1 a2 k70 x4 x6 x7 s0 x6 x7 μ
def sh_X3_lay_70 (n : Nat) (t : Nat) (a1 : Nat) (a2 : Int32) : Nat → Int32 → Int32 → Mm → Option Mm
  | 0, _, _, _ => none
  | f + 1, x4, x6, μ => if (μ.1 a1 2) ≤ x6 then
  some μ
  else
  (sh_X5_at (t + 1) x6 μ).bind fun r9 =>
  (sh_X0_partOf a1 x6 μ).bind fun r10 =>
  if r10 = (0 : Int32) then
  sh_X3_lay_104 n t a1 a2 (fun (x4 : Int32) (x6 : Int32) (μ : Mm) => sh_X3_lay_70 n t a1 a2 f x4 x6 μ) x4 x6 r9 (1 : Int32) μ
  else
  sh_X3_lay_104 n t a1 a2 (fun (x4 : Int32) (x6 : Int32) (μ : Mm) => sh_X3_lay_70 n t a1 a2 f x4 x6 μ) x4 x6 r9 (0 : Int32) μ
def sh_X3_lay_44 (n : Nat) (t : Nat) (a1 : Nat) (a2 : Int32) (x3 : Int32) (x4 : Int32) (x5 : Int32) (s1 : Int32) (μ : Mm) : Option Mm :=
  (pt μ t 4 s1).bind fun μ7 =>
  if x5 ≤ (0 : Int32) then
  (pt μ7 t 5 x3).bind fun μ8 =>
  sh_X3_lay_70 n t a1 a2 n x4 (0 : Int32) μ8
  else
  (pt μ7 t 5 ((x4 + x5) - (1 : Int32))).bind fun μ16 =>
  sh_X3_lay_70 n t a1 a2 n x4 (0 : Int32) μ16
def sh_X3_lay (n : Nat) (t : Nat) (a1 : Nat) (a2 : Int32) (μ : Mm) : Option Mm :=
  (sh_X3_layPart n t a1 (0 : Int32) a2 μ).bind fun r1 =>
  nm ((a2 + r1.1)) fun v2 =>
  (sh_X3_pagesBeforeChapter v2 (0 : Int32) (r1.2.1 a1 1) r1.2).bind fun r3 =>
  nm (((1 : Int32) + r3)) fun v4 =>
  (sh_X3_layPart n t a1 (1 : Int32) (0 : Int32) r1.2).bind fun r5 =>
  nm (r5.1) fun v6 =>
  if v6 ≤ (0 : Int32) then
  sh_X3_lay_44 n t a1 a2 v2 v4 v6 (0 : Int32) r5.2
  else
  sh_X3_lay_44 n t a1 a2 v2 v4 v6 v4 r5.2
def sh_X3_hasNumbersOf_2 (n : Nat) (t : Nat) (a1 : Nat) (a2 : Int32) (μ : Mm) : Nat → Int32 → Option Int32
  | 0, _ => none
  | f + 1, x3 => if a2 ≤ x3 then
  some (1 : Int32)
  else
  (sh_X5_at (t + 1) x3 μ).bind fun r1 =>
  (sh_X5_at (a1 + 1) x3 μ).bind fun r2 =>
  if r1 = r2 then
  sh_X3_hasNumbersOf_2 n t a1 a2 μ f (x3 + (1 : Int32))
  else
  some (0 : Int32)
def sh_X3_hasNumbersOf (n : Nat) (t : Nat) (a1 : Nat) (a2 : Int32) (μ : Mm) : Option Int32 :=
  sh_X3_hasNumbersOf_2 n t a1 a2 μ n (0 : Int32)
def sh_X3_isFirstOnPage (t : Nat) (a1 : Int32) (μ : Mm) : Option Int32 :=
  if a1 = (0 : Int32) then
  some (1 : Int32)
  else
  (sh_X5_at (t + 3) (a1 - (1 : Int32)) μ).bind fun r1 =>
  (sh_X5_at (t + 3) a1 μ).bind fun r2 =>
  if r1 = r2 then
  some (0 : Int32)
  else
  some (1 : Int32)
def sh_X3_beginners_5 (n : Nat) (t : Nat) (a1 : Int32) (a2 : Int32) (μ : Mm) : Nat → Int32 → Int32 → Option Int32
  | 0, _, _ => none
  | f + 1, x3, x4 => if a2 ≤ x4 then
  some x3
  else
  (sh_X5_at (t + 3) x4 μ).bind fun r1 =>
  (sh_X5_at (t + 3) a1 μ).bind fun r2 =>
  if r1 = r2 then
  sh_X3_beginners_5 n t a1 a2 μ f (x3 + (1 : Int32)) (x4 + (1 : Int32))
  else
  sh_X3_beginners_5 n t a1 a2 μ f x3 (x4 + (1 : Int32))
def sh_X3_beginners (n : Nat) (t : Nat) (a1 : Int32) (a2 : Int32) (μ : Mm) : Option Int32 :=
  sh_X3_beginners_5 n t a1 a2 μ n (0 : Int32) (0 : Int32)
def sh_X7_firstStart (a0 : Nat) (a1 : Int32) (μ : Mm) : Option Int32 :=
  (sh_X5_at (a0 + 1) (3 : Int32) μ).bind fun r1 =>
  (sh_X5_at (a0 + 3) a1 μ).bind fun r2 =>
  some (r1 * (r2 - (1 : Int32)))
def sh_X7_openLine (t : Nat) (a1 : Int32) (a2 : Int32) (a3 : Int32) (a4 : Int32) (μ : Mm) : Option Mm :=
  (sh_X5_put (t + 1) (μ.1 t 2) a1 μ).bind fun r1 =>
  (sh_X5_put (t + 3) (r1.1 t 2) a2 r1).bind fun r2 =>
  (sh_X5_put (t + 5) (r2.1 t 2) (a2 + a4) r2).bind fun r3 =>
  (sh_X5_put (t + 7) (r3.1 t 2) (1 : Int32) r3).bind fun r4 =>
  (sh_X5_put (t + 9) (r4.1 t 2) a3 r4).bind fun r5 =>
  (pt r5 t 2 ((r5.1 t 2) + (1 : Int32))).bind fun μ6 =>
  some μ6
def sh_X7_layTokens_10 (n : Nat) (t : Nat) (a1 : Nat) (a2 : Nat) (a3 : Int32) : Nat → Int32 → Int32 → Mm → Option Mm
  | 0, _, _, _ => none
  | f + 1, x4, x5, μ => (sh_X5_at (a1 + 7) a3 μ).bind fun r2 =>
  if r2 ≤ x5 then
  some μ
  else
  (sh_X5_at (a2 + 9) ((a3 * (8 : Int32)) + x5) μ).bind fun r3 =>
  nm (((μ.1 t 2) - (1 : Int32))) fun v4 =>
  (sh_X5_at (t + 5) v4 μ).bind fun r5 =>
  (sh_X11_signWidth (32 : Int32) μ).bind fun r6 =>
  nm (((r5 + r6) + r3)) fun v7 =>
  if x5 = (0 : Int32) then
  (sh_X7_openLine t a3 x4 x5 r3 μ).bind fun r12 =>
  sh_X7_layTokens_10 n t a1 a2 a3 f x4 (x5 + (1 : Int32)) r12
  else
  if (μ.1 t 1) < v7 then
  (sh_X5_at (a1 + 1) (4 : Int32) μ).bind fun r8 =>
  (sh_X7_openLine t a3 (x4 + r8) x5 r3 μ).bind fun r9 =>
  sh_X7_layTokens_10 n t a1 a2 a3 f x4 (x5 + (1 : Int32)) r9
  else
  (sh_X5_put (t + 5) v4 v7 μ).bind fun r10 =>
  (sh_X5_add (t + 7) v4 (1 : Int32) r10).bind fun r11 =>
  sh_X7_layTokens_10 n t a1 a2 a3 f x4 (x5 + (1 : Int32)) r11
def sh_X7_layTokens (n : Nat) (t : Nat) (a1 : Nat) (a2 : Nat) (a3 : Int32) (μ : Mm) : Option Mm :=
  (sh_X7_firstStart a1 a3 μ).bind fun r1 =>
  sh_X7_layTokens_10 n t a1 a2 a3 n r1 (0 : Int32) μ
def sh_X7_layDots_94 (t : Nat) (a1 : Nat) (a2 : Int32) (a3 : Int32) (x5 : Int32) (x6 : Int32) (x7 : Int32) (x8 : Int32) (s1 : Int32) (s2 : Int32) (μ : Mm) : Option Mm :=
  (sh_X5_put (t + 15) s1 s2 μ).bind fun r8 =>
  if x8 = (0 : Int32) then
  (sh_X11_quotient (x7 - x6) x5 r8).bind fun r9 =>
  (sh_X5_put (t + 17) a2 (r9 + (1 : Int32)) r8).bind fun r10 =>
  some r10
  else
  (sh_X5_put (t + 17) a2 (0 : Int32) r8).bind fun r11 =>
  some r11
def sh_X7_layDots_76 (t : Nat) (a1 : Nat) (a2 : Int32) (a3 : Int32) (x5 : Int32) (x6 : Int32) (x7 : Int32) (s0 : Int32) (μ : Mm) : Option Mm :=
  if s0 = (0 : Int32) then
  sh_X7_layDots_94 t a1 a2 a3 x5 x6 x7 s0 a2 x6 μ
  else
  sh_X7_layDots_94 t a1 a2 a3 x5 x6 x7 s0 a2 (-1 : Int32) μ
def sh_X7_layDots (t : Nat) (a1 : Nat) (a2 : Int32) (a3 : Int32) (μ : Mm) : Option Mm :=
  (sh_X5_at (a1 + 1) (5 : Int32) μ).bind fun r1 =>
  (sh_X5_at (a1 + 1) (7 : Int32) μ).bind fun r2 =>
  (sh_X5_at (t + 5) ((μ.1 t 2) - (1 : Int32)) μ).bind fun r3 =>
  (sh_X11_quotientUp (r3 + r1) r2 μ).bind fun r4 =>
  nm ((r4 * r2)) fun v5 =>
  (sh_X5_at (a1 + 1) (0 : Int32) μ).bind fun r6 =>
  nm ((((r6 - a3) - r1) - (1 : Int32))) fun v7 =>
  if v5 ≤ v7 then
  sh_X7_layDots_76 t a1 a2 a3 r2 v5 v7 (0 : Int32) μ
  else
  sh_X7_layDots_76 t a1 a2 a3 r2 v5 v7 (1 : Int32) μ
def sh_X7_breakLastToken (t : Nat) (a1 : Nat) (a2 : Nat) (a3 : Int32) (μ : Mm) : Option Mm :=
  (sh_X5_at (a1 + 7) a3 μ).bind fun r1 =>
  nm ((r1 - (1 : Int32))) fun v2 =>
  (sh_X5_at (a2 + 9) ((a3 * (8 : Int32)) + v2) μ).bind fun r3 =>
  (sh_X11_signWidth (32 : Int32) μ).bind fun r4 =>
  (sh_X5_add (t + 5) ((μ.1 t 2) - (1 : Int32)) ((-r3) - r4) μ).bind fun r5 =>
  (sh_X5_add (t + 7) ((r5.1 t 2) - (1 : Int32)) (-1 : Int32) r5).bind fun r6 =>
  (sh_X7_firstStart a1 a3 r6).bind fun r7 =>
  (sh_X5_at (a1 + 1) (4 : Int32) r6).bind fun r8 =>
  (sh_X7_openLine t a3 (r7 + r8) v2 r3 r6).bind fun r9 =>
  some r9
def sh_X7_lay_185 (n : Nat) (t : Nat) (a1 : Nat) (a2 : Nat) (a3 : Nat) (k77 : (Int32 → Mm → Option Mm)) (x4 : Int32) (μ : Mm) : Option Mm :=
  (sh_X5_at (t + 11) x4 μ).bind fun r12 =>
  (sh_X5_put (t + 13) x4 ((μ.1 t 2) - r12) μ).bind fun r13 =>
  k77 (x4 + (1 : Int32)) r13
def sh_X7_lay_77 (n : Nat) (t : Nat) (a1 : Nat) (a2 : Nat) (a3 : Nat) : Nat → Int32 → Mm → Option Mm
  | 0, _, _ => none
  | f + 1, x4, μ => if (μ.1 a1 2) ≤ x4 then
  some μ
  else
  (sh_X5_put (t + 11) x4 (μ.1 t 2) μ).bind fun r6 =>
  (sh_X7_layTokens n t a1 a2 x4 r6).bind fun r7 =>
  (sh_X5_at (a3 + 7) x4 r7).bind fun r8 =>
  (sh_X7_layDots t a1 x4 r8 r7).bind fun r9 =>
  (sh_X5_at (t + 17) x4 r9).bind fun r10 =>
  (sh_X5_at (a1 + 1) (6 : Int32) r9).bind fun r11 =>
  if r11 ≤ r10 then
  sh_X7_lay_185 n t a1 a2 a3 (fun (x4 : Int32) (μ : Mm) => sh_X7_lay_77 n t a1 a2 a3 f x4 μ) x4 r9
  else
  (sh_X5_at (t + 7) ((r9.1 t 2) - (1 : Int32)) r9).bind fun r14 =>
  if r14 ≤ (1 : Int32) then
  sh_X7_lay_185 n t a1 a2 a3 (fun (x4 : Int32) (μ : Mm) => sh_X7_lay_77 n t a1 a2 a3 f x4 μ) x4 r9
  else
  (sh_X7_breakLastToken t a1 a2 x4 r9).bind fun r15 =>
  (sh_X5_at (a3 + 7) x4 r15).bind fun r16 =>
  (sh_X7_layDots t a1 x4 r16 r15).bind fun r17 =>
  sh_X7_lay_185 n t a1 a2 a3 (fun (x4 : Int32) (μ : Mm) => sh_X7_lay_77 n t a1 a2 a3 f x4 μ) x4 r17
def sh_X7_lay_8 (n : Nat) (t : Nat) (a1 : Nat) (a2 : Nat) (a3 : Nat) : Nat → Int32 → Mm → Option Mm
  | 0, _, _ => none
  | f + 1, x4, μ => if (μ.1 a1 2) ≤ x4 then
  (sh_X5_at (a1 + 1) (0 : Int32) μ).bind fun r2 =>
  (sh_X5_at (a1 + 1) (5 : Int32) μ).bind fun r3 =>
  (pt μ t 1 ((r2 - (μ.1 t 0)) - r3)).bind fun μ4 =>
  (pt μ4 t 2 (0 : Int32)).bind fun μ5 =>
  sh_X7_lay_77 n t a1 a2 a3 n (0 : Int32) μ5
  else
  (sh_X5_at (a3 + 7) x4 μ).bind fun r18 =>
  (pt μ t 0 (if (μ.1 t 0) < r18 then r18 else (μ.1 t 0))).bind fun μ19 =>
  sh_X7_lay_8 n t a1 a2 a3 f (x4 + (1 : Int32)) μ19
def sh_X7_lay (n : Nat) (t : Nat) (a1 : Nat) (a2 : Nat) (a3 : Nat) (μ : Mm) : Option Mm :=
  (pt μ t 0 (0 : Int32)).bind fun μ1 =>
  sh_X7_lay_8 n t a1 a2 a3 n (0 : Int32) μ1
def sh_X7_hasDotAt (t : Nat) (a1 : Int32) (a2 : Int32) (a3 : Int32) (μ : Mm) : Option Int32 :=
  (sh_X5_at (t + 15) a1 μ).bind fun r1 =>
  nm ((a2 - r1)) fun v2 =>
  (sh_X11_quotient v2 a3 μ).bind fun r3 =>
  if v2 < (0 : Int32) then
  some (0 : Int32)
  else
  (sh_X5_at (t + 17) a1 μ).bind fun r4 =>
  if r4 ≤ r3 then
  some (0 : Int32)
  else
  if (r3 * a3) = v2 then
  some (1 : Int32)
  else
  some (0 : Int32)
def sh_X7_lineBehind (t : Nat) (a1 : Int32) (μ : Mm) : Option Int32 :=
  (sh_X5_at (t + 11) a1 μ).bind fun r1 =>
  (sh_X5_at (t + 13) a1 μ).bind fun r2 =>
  some (r1 + r2)
def sh_X7_isLastLine (t : Nat) (a1 : Int32) (μ : Mm) : Option Int32 :=
  (sh_X5_at (t + 1) a1 μ).bind fun r1 =>
  (sh_X7_lineBehind t r1 μ).bind fun r2 =>
  if a1 = (r2 - (1 : Int32)) then
  some (1 : Int32)
  else
  some (0 : Int32)
def sh_X7_isBeyondLimit (t : Nat) (a1 : Int32) (μ : Mm) : Option Int32 :=
  (sh_X5_at (t + 5) a1 μ).bind fun r1 =>
  if r1 ≤ (μ.1 t 1) then
  some (0 : Int32)
  else
  some (1 : Int32)
def sh_X7_linesBeyondLimit_4 (n : Nat) (t : Nat) (μ : Mm) : Nat → Int32 → Int32 → Option Int32
  | 0, _, _ => none
  | f + 1, x1, x2 => if (μ.1 t 2) ≤ x2 then
  some x1
  else
  (sh_X7_isBeyondLimit t x2 μ).bind fun r1 =>
  if r1 = (0 : Int32) then
  sh_X7_linesBeyondLimit_4 n t μ f x1 (x2 + (1 : Int32))
  else
  sh_X7_linesBeyondLimit_4 n t μ f (x1 + (1 : Int32)) (x2 + (1 : Int32))
def sh_X7_linesBeyondLimit (n : Nat) (t : Nat) (μ : Mm) : Option Int32 :=
  sh_X7_linesBeyondLimit_4 n t μ n (0 : Int32) (0 : Int32)
def sh_X1_lay_21 (n : Nat) (t : Nat) (a1 : Nat) : Nat → Int32 → Int32 → Mm → Option Mm
  | 0, _, _, _ => none
  | f + 1, x2, x3, μ => if (8 : Int32) ≤ x3 then
  (pt μ t 3 x2).bind fun μ3 =>
  (sh_X3_lay n (t + 14) a1 (μ3.1 t 3) μ3).bind fun r4 =>
  (sh_X7_lay n (t + 23) a1 (t + 1) (t + 14) r4).bind fun r5 =>
  some r5
  else
  (sh_X3_lay n (t + 14) a1 (μ.1 t 3) μ).bind fun r6 =>
  (sh_X7_lay n (t + 23) a1 (t + 1) (t + 14) r6).bind fun r7 =>
  (pt r7 t 4 ((r7.1 t 4) + (if (1 : Int32) < (r7.1 a1 2) then (1 : Int32) else (r7.1 a1 2)))).bind fun μ8 =>
  (sh_X5_at (a1 + 1) (1 : Int32) μ8).bind fun r9 =>
  (sh_X11_quotientUp (μ8.1 (t + 23) 2) r9 μ8).bind fun r10 =>
  if r10 = (μ8.1 t 3) then
  some μ8
  else
  nm ((if x2 < r10 then r10 else x2)) fun v11 =>
  (pt μ8 t 3 r10).bind fun μ12 =>
  sh_X1_lay_21 n t a1 f v11 (x3 + (1 : Int32)) μ12
def sh_X1_lay (n : Nat) (t : Nat) (a1 : Nat) (μ : Mm) : Option Mm :=
  (pt μ t 4 (0 : Int32)).bind fun μ1 =>
  (pt μ1 t 3 (if (1 : Int32) < (μ1.1 a1 2) then (1 : Int32) else (μ1.1 a1 2))).bind fun μ2 =>
  sh_X1_lay_21 n t a1 n (0 : Int32) (0 : Int32) μ2
def sh_X1_layAnew (n : Nat) (t : Nat) (a1 : Nat) (μ : Mm) : Option Mm :=
  (sh_X2_measure n (t + 1) a1 μ).bind fun r1 =>
  (sh_X1_lay n t a1 r1).bind fun r2 =>
  some r2
def sh_X1_endsMainEntry (t : Nat) (a1 : Nat) (a2 : Int32) (μ : Mm) : Option Int32 :=
  (sh_X7_isLastLine (t + 23) a2 μ).bind fun r1 =>
  if r1 = (0 : Int32) then
  some (0 : Int32)
  else
  (sh_X5_at (t + 24) a2 μ).bind fun r2 =>
  (sh_X0_partOf a1 r2 μ).bind fun r3 =>
  if r3 = (1 : Int32) then
  some (1 : Int32)
  else
  some (0 : Int32)
def sh_X1_unitsOf_96 (n : Nat) (a0 : Int32) (a1 : Int32) (μ : Mm) (k7 : (Int32 → Int32 → Int32 → Option Int32)) (x2 : Int32) (x3 : Int32) (x4 : Int32) (x6 : Int32) : Option Int32 :=
  nm ((x3 + x6)) fun v3 =>
  (dv x4 (10 : Int32)).bind fun v4 =>
  k7 x2 v3 v4
def sh_X1_unitsOf_85 (n : Nat) (a0 : Int32) (a1 : Int32) (μ : Mm) (k7 : (Int32 → Int32 → Int32 → Option Int32)) (x2 : Int32) (x3 : Int32) (x4 : Int32) (x6 : Int32) : Option Int32 :=
  nm ((x2 ||| ((((1 : Int32) <<< (x6 &&& 31)) - (1 : Int32)) <<< (x3 &&& 31)))) fun v5 =>
  sh_X1_unitsOf_96 n a0 a1 μ k7 v5 x3 x4 x6
def sh_X1_unitsOf_66 (n : Nat) (a0 : Int32) (a1 : Int32) (μ : Mm) (k7 : (Int32 → Int32 → Int32 → Option Int32)) (x2 : Int32) (x3 : Int32) (x4 : Int32) (x6 : Int32) (x7 : Int32) (s0 : Int32) : Option Int32 :=
  if a1 = (0 : Int32) then
  if s0 = (0 : Int32) then
  sh_X1_unitsOf_96 n a0 a1 μ k7 x2 x3 x4 x6
  else
  sh_X1_unitsOf_85 n a0 a1 μ k7 x2 x3 x4 x6
  else
  if x7 = (0 : Int32) then
  sh_X1_unitsOf_96 n a0 a1 μ k7 x2 x3 x4 x6
  else
  sh_X1_unitsOf_85 n a0 a1 μ k7 x2 x3 x4 x6
def sh_X1_unitsOf_65 (n : Nat) (a0 : Int32) (a1 : Int32) (μ : Mm) (k7 : (Int32 → Int32 → Int32 → Option Int32)) (x2 : Int32) (x3 : Int32) (x4 : Int32) (x6 : Int32) (x7 : Int32) : Option Int32 :=
  sh_X1_unitsOf_66 n a0 a1 μ k7 x2 x3 x4 x6 x7 (0 : Int32)
def sh_X1_unitsOf_48 (n : Nat) (a0 : Int32) (a1 : Int32) (μ : Mm) (k7 : (Int32 → Int32 → Int32 → Option Int32)) (x2 : Int32) (x3 : Int32) (x4 : Int32) (x5 : Int32) (x6 : Int32) (s0 : Int32) : Option Int32 :=
  if x5 < (3 : Int32) then
  sh_X1_unitsOf_65 n a0 a1 μ k7 x2 x3 x4 x6 s0
  else
  if s0 = (0 : Int32) then
  sh_X1_unitsOf_66 n a0 a1 μ k7 x2 x3 x4 x6 s0 (1 : Int32)
  else
  sh_X1_unitsOf_65 n a0 a1 μ k7 x2 x3 x4 x6 s0
def sh_X1_unitsOf_43 (n : Nat) (a0 : Int32) (a1 : Int32) (μ : Mm) (k7 : (Int32 → Int32 → Int32 → Option Int32)) (x2 : Int32) (x3 : Int32) (x4 : Int32) (x5 : Int32) (x6 : Int32) : Option Int32 :=
  sh_X1_unitsOf_48 n a0 a1 μ k7 x2 x3 x4 x5 x6 (1 : Int32)
def sh_X1_unitsOf_7 (n : Nat) (a0 : Int32) (a1 : Int32) (μ : Mm) : Nat → Int32 → Int32 → Int32 → Option Int32
  | 0, _, _, _ => none
  | f + 1, x2, x3, x4 => if x4 ≤ (0 : Int32) then
  some x2
  else
  (rm x4 (10 : Int32)).bind fun v1 =>
  (sh_X11_signWidth ((48 : Int32) + v1) μ).bind fun r2 =>
  if v1 = (6 : Int32) then
  sh_X1_unitsOf_43 n a0 a1 μ (fun (x2 : Int32) (x3 : Int32) (x4 : Int32) => sh_X1_unitsOf_7 n a0 a1 μ f x2 x3 x4) x2 x3 x4 v1 r2
  else
  if v1 = (8 : Int32) then
  sh_X1_unitsOf_43 n a0 a1 μ (fun (x2 : Int32) (x3 : Int32) (x4 : Int32) => sh_X1_unitsOf_7 n a0 a1 μ f x2 x3 x4) x2 x3 x4 v1 r2
  else
  sh_X1_unitsOf_48 n a0 a1 μ (fun (x2 : Int32) (x3 : Int32) (x4 : Int32) => sh_X1_unitsOf_7 n a0 a1 μ f x2 x3 x4) x2 x3 x4 v1 r2 (0 : Int32)
def sh_X1_unitsOf (n : Nat) (a0 : Int32) (a1 : Int32) (μ : Mm) : Option Int32 :=
  sh_X1_unitsOf_7 n a0 a1 μ n (0 : Int32) (0 : Int32) a0
def sh_X1_touchesNext (n : Nat) (t : Nat) (a1 : Nat) (a2 : Int32) (μ : Mm) : Option Int32 :=
  nm ((a2 + (1 : Int32))) fun v1 =>
  (sh_X5_at (a1 + 1) (1 : Int32) μ).bind fun r2 =>
  if (μ.1 (t + 23) 2) ≤ v1 then
  some (0 : Int32)
  else
  (sh_X11_quotient a2 r2 μ).bind fun r3 =>
  (sh_X11_quotient v1 r2 μ).bind fun r4 =>
  if r3 = r4 then
  (sh_X1_endsMainEntry t a1 a2 μ).bind fun r5 =>
  if r5 = (0 : Int32) then
  some (0 : Int32)
  else
  (sh_X1_endsMainEntry t a1 v1 μ).bind fun r6 =>
  if r6 = (0 : Int32) then
  some (0 : Int32)
  else
  (sh_X5_at (t + 24) a2 μ).bind fun r7 =>
  (sh_X5_at (t + 15) r7 μ).bind fun r8 =>
  (sh_X5_at (t + 24) v1 μ).bind fun r9 =>
  (sh_X5_at (t + 15) r9 μ).bind fun r10 =>
  (sh_X1_unitsOf n r8 (0 : Int32) μ).bind fun r11 =>
  (sh_X1_unitsOf n r10 (1 : Int32) μ).bind fun r12 =>
  if (r11 &&& r12) = (0 : Int32) then
  some (0 : Int32)
  else
  some (1 : Int32)
  else
  some (0 : Int32)
def sh_X1_typeLabel_28 (n : Nat) (t : Nat) (a1 : Nat) (a2 : Nat) (a3 : Int32) (k3 : (Int32 → Mm → Option Mm)) (x4 : Int32) (μ : Mm) : Option Mm :=
  (sh_X2_ordinalAt n (t + 1) a2 a3 x4 μ).bind fun r3 =>
  (sh_X8_putArabic n a1 r3 μ).bind fun r4 =>
  k3 (x4 + (1 : Int32)) r4
def sh_X1_typeLabel_3 (n : Nat) (t : Nat) (a1 : Nat) (a2 : Nat) (a3 : Int32) : Nat → Int32 → Mm → Option Mm
  | 0, _, _ => none
  | f + 1, x4, μ => (sh_X5_at (a2 + 3) a3 μ).bind fun r1 =>
  if r1 < x4 then
  (sh_X8_put a1 (32 : Int32) μ).bind fun r2 =>
  some r2
  else
  if x4 ≤ (1 : Int32) then
  sh_X1_typeLabel_28 n t a1 a2 a3 (fun (x4 : Int32) (μ : Mm) => sh_X1_typeLabel_3 n t a1 a2 a3 f x4 μ) x4 μ
  else
  (sh_X8_put a1 (46 : Int32) μ).bind fun r5 =>
  sh_X1_typeLabel_28 n t a1 a2 a3 (fun (x4 : Int32) (μ : Mm) => sh_X1_typeLabel_3 n t a1 a2 a3 f x4 μ) x4 r5
def sh_X1_typeLabel (n : Nat) (t : Nat) (a1 : Nat) (a2 : Nat) (a3 : Int32) (μ : Mm) : Option Mm :=
  sh_X1_typeLabel_3 n t a1 a2 a3 n (1 : Int32) μ
def sh_X1_typeLine_102 (n : Nat) (t : Nat) (a1 : Nat) (a2 : Nat) (a3 : Int32) (k47 : (Int32 → Int32 → Int32 → Mm → Option Mm)) (x4 : Int32) (x5 : Int32) (x6 : Int32) (μ : Mm) : Option Mm :=
  (sh_X9_at (a2 + 9) ((x4 * (8 : Int32)) + x6) μ).bind fun r19 =>
  (sh_X8_putWord n a1 r19 μ).bind fun r20 =>
  k47 x4 x5 (x6 + (1 : Int32)) r20
def sh_X1_typeLine_79 (n : Nat) (t : Nat) (a1 : Nat) (a2 : Nat) (a3 : Int32) (k47 : (Int32 → Int32 → Int32 → Mm → Option Mm)) (x4 : Int32) (x5 : Int32) (x6 : Int32) (μ : Mm) : Option Mm :=
  if x6 = (0 : Int32) then
  (sh_X0_partOf a2 x4 μ).bind fun r21 =>
  if r21 = (1 : Int32) then
  (sh_X1_typeLabel n t a1 a2 x4 μ).bind fun r22 =>
  sh_X1_typeLine_102 n t a1 a2 a3 k47 x4 x5 x6 r22
  else
  sh_X1_typeLine_102 n t a1 a2 a3 k47 x4 x5 x6 μ
  else
  sh_X1_typeLine_102 n t a1 a2 a3 k47 x4 x5 x6 μ
def sh_X1_typeLine_47 (n : Nat) (t : Nat) (a1 : Nat) (a2 : Nat) (a3 : Int32) : Nat → Int32 → Int32 → Int32 → Mm → Option Mm
  | 0, _, _, _, _ => none
  | f + 1, x4, x5, x6, μ => (sh_X5_at (t + 30) a3 μ).bind fun r5 =>
  if (x5 + r5) ≤ x6 then
  (sh_X7_isLastLine (t + 23) a3 μ).bind fun r6 =>
  if r6 = (0 : Int32) then
  (sh_X8_put a1 (10 : Int32) μ).bind fun r7 =>
  some r7
  else
  (sh_X8_put a1 (32 : Int32) μ).bind fun r8 =>
  (sh_X5_at (t + 40) x4 r8).bind fun r9 =>
  (sh_X8_putTimes n a1 (46 : Int32) r9 r8).bind fun r10 =>
  (sh_X8_put a1 (32 : Int32) r10).bind fun r11 =>
  (sh_X0_partOf a2 x4 r11).bind fun r12 =>
  if r12 = (0 : Int32) then
  (sh_X5_at (t + 15) x4 r11).bind fun r16 =>
  (sh_X8_putRoman n a1 r16 r11).bind fun r17 =>
  (sh_X8_put a1 (10 : Int32) r17).bind fun r18 =>
  some r18
  else
  (sh_X5_at (t + 15) x4 r11).bind fun r13 =>
  (sh_X8_putArabic n a1 r13 r11).bind fun r14 =>
  (sh_X8_put a1 (10 : Int32) r14).bind fun r15 =>
  some r15
  else
  if x6 ≤ x5 then
  sh_X1_typeLine_79 n t a1 a2 a3 (fun (x4 : Int32) (x5 : Int32) (x6 : Int32) (μ : Mm) => sh_X1_typeLine_47 n t a1 a2 a3 f x4 x5 x6 μ) x4 x5 x6 μ
  else
  (sh_X8_put a1 (32 : Int32) μ).bind fun r23 =>
  sh_X1_typeLine_79 n t a1 a2 a3 (fun (x4 : Int32) (x5 : Int32) (x6 : Int32) (μ : Mm) => sh_X1_typeLine_47 n t a1 a2 a3 f x4 x5 x6 μ) x4 x5 x6 r23
def sh_X1_typeLine (n : Nat) (t : Nat) (a1 : Nat) (a2 : Nat) (a3 : Int32) (μ : Mm) : Option Mm :=
  (sh_X5_at (t + 24) a3 μ).bind fun r1 =>
  (sh_X5_at (t + 32) a3 μ).bind fun r2 =>
  (sh_X5_at (t + 26) a3 μ).bind fun r3 =>
  (sh_X8_putTimes n a1 (32 : Int32) r3 μ).bind fun r4 =>
  sh_X1_typeLine_47 n t a1 a2 a3 n r1 r2 r2 r4
def sh_X1_typeLines_8 (n : Nat) (t : Nat) (a1 : Nat) (a2 : Nat) (a3 : Int32) (a4 : Int32) : Nat → Int32 → Mm → Option Mm
  | 0, _, _ => none
  | f + 1, x5, μ => if a4 ≤ x5 then
  some μ
  else
  (sh_X1_typeLine n t a1 a2 x5 μ).bind fun r2 =>
  sh_X1_typeLines_8 n t a1 a2 a3 a4 f (x5 + (1 : Int32)) r2
def sh_X1_typeLines (n : Nat) (t : Nat) (a1 : Nat) (a2 : Nat) (a3 : Int32) (a4 : Int32) (μ : Mm) : Option Mm :=
  (sh_X8_cut a1 (0 : Int32) μ).bind fun r1 =>
  sh_X1_typeLines_8 n t a1 a2 a3 a4 n a3 r1
def sh_X4_kindOf_28 (a0 : Int32) (μ : Mm) : Option Int32 :=
  if a0 = (32 : Int32) then
  some (4 : Int32)
  else
  if a0 = (10 : Int32) then
  some (4 : Int32)
  else
  some (3 : Int32)
def sh_X4_kindOf_14 (a0 : Int32) (μ : Mm) : Option Int32 :=
  if a0 < (48 : Int32) then
  sh_X4_kindOf_28 a0 μ
  else
  if (57 : Int32) < a0 then
  sh_X4_kindOf_28 a0 μ
  else
  some (2 : Int32)
def sh_X4_kindOf (a0 : Int32) (μ : Mm) : Option Int32 :=
  if a0 < (97 : Int32) then
  sh_X4_kindOf_14 a0 μ
  else
  if (122 : Int32) < a0 then
  sh_X4_kindOf_14 a0 μ
  else
  some (1 : Int32)
def sh_X4_advance_196 (n : Nat) (k127 : (Int32 → Mm → Option Mm)) (x1 : Int32) (s1 : Int32) (μ : Mm) : Option Mm :=
  (pt μ 5 8 s1).bind fun μ14 =>
  (pt μ14 5 7 ((μ14.1 5 7) + (1 : Int32))).bind fun μ15 =>
  k127 x1 μ15
def sh_X4_advance_127 (n : Nat) : Nat → Int32 → Mm → Option Mm
  | 0, _, _ => none
  | f + 1, x1, μ => if x1 ≤ (μ.1 5 7) then
  some μ
  else
  (sh_X8_at (μ.2.2 1) (μ.1 5 7) μ).bind fun r12 =>
  (sh_X4_kindOf r12 μ).bind fun r13 =>
  if r13 = (μ.1 5 5) then
  if (μ.1 5 5) = (2 : Int32) then
  (sh_X8_at (μ.2.2 1) (μ.1 5 7) μ).bind fun r17 =>
  sh_X4_advance_196 n (fun (x1 : Int32) (μ : Mm) => sh_X4_advance_127 n f x1 μ) x1 (if (100000 : Int32) < ((((μ.1 5 8) * (10 : Int32)) + r17) - (48 : Int32)) then (100000 : Int32) else ((((μ.1 5 8) * (10 : Int32)) + r17) - (48 : Int32))) μ
  else
  sh_X4_advance_196 n (fun (x1 : Int32) (μ : Mm) => sh_X4_advance_127 n f x1 μ) x1 (0 : Int32) μ
  else
  some μ
def sh_X4_advance_113 (n : Nat) (s0 : Int32) (μ : Mm) : Option Mm :=
  (pt μ 5 7 (μ.1 5 6)).bind fun μ9 =>
  (pt μ9 5 8 (0 : Int32)).bind fun μ10 =>
  sh_X4_advance_127 n n s0 μ10
def sh_X4_advance_86 (n : Nat) (s1 : Int32) (μ : Mm) : Option Mm :=
  (pt μ 5 5 s1).bind fun μ6 =>
  if (μ6.1 5 5) = (3 : Int32) then
  sh_X4_advance_113 n ((μ6.1 5 6) + (1 : Int32)) μ6
  else
  (sh_X8_length (μ6.2.2 1) μ6).bind fun r8 =>
  sh_X4_advance_113 n r8 μ6
def sh_X4_advance_53 (n : Nat) (μ : Mm) : Option Mm :=
  (sh_X8_length (μ.2.2 1) μ).bind fun r5 =>
  if r5 ≤ (μ.1 5 6) then
  sh_X4_advance_86 n (0 : Int32) μ
  else
  (sh_X8_at (μ.2.2 1) (μ.1 5 6) μ).bind fun r19 =>
  (sh_X4_kindOf r19 μ).bind fun r20 =>
  sh_X4_advance_86 n r20 μ
def sh_X4_advance_8 (n : Nat) : Nat → Mm → Option Mm
  | 0, _ => none
  | f + 1, μ => (sh_X8_length (μ.2.2 1) μ).bind fun r3 =>
  if r3 ≤ (μ.1 5 6) then
  sh_X4_advance_53 n μ
  else
  (sh_X8_at (μ.2.2 1) (μ.1 5 6) μ).bind fun r22 =>
  (sh_X4_kindOf r22 μ).bind fun r23 =>
  if r23 = (4 : Int32) then
  (pt μ 5 6 ((μ.1 5 6) + (1 : Int32))).bind fun μ24 =>
  sh_X4_advance_8 n f  μ24
  else
  sh_X4_advance_53 n μ
def sh_X4_advance (n : Nat) (μ : Mm) : Option Mm :=
  (pt μ 5 6 (μ.1 5 7)).bind fun μ1 =>
  sh_X4_advance_8 n n μ1
def sh_X4_start (n : Nat) (a1 : Nat) (μ : Mm) : Option Mm :=
  (some (sR μ 1 a1)).bind fun μ1 =>
  (pt μ1 5 0 (0 : Int32)).bind fun μ2 =>
  (pt μ2 5 1 (-1 : Int32)).bind fun μ3 =>
  (pt μ3 5 7 (0 : Int32)).bind fun μ4 =>
  (sh_X4_advance n  μ4).bind fun r5 =>
  some r5
def sh_X4_isAt_28 (n : Nat) (a1 : Nat) (μ : Mm) : Nat → Int32 → Option Int32
  | 0, _ => none
  | f + 1, x2 => if (nI (lenS.getD a1 0)) ≤ x2 then
  some (1 : Int32)
  else
  (sh_X8_at (μ.2.2 1) ((μ.1 5 6) + x2) μ).bind fun r4 =>
  (chS a1 x2).bind fun v5 =>
  if r4 = v5 then
  sh_X4_isAt_28 n a1 μ f (x2 + (1 : Int32))
  else
  some (0 : Int32)
def sh_X4_isAt (n : Nat) (a1 : Nat) (μ : Mm) : Option Int32 :=
  if (μ.1 5 5) = (1 : Int32) then
  if ((μ.1 5 7) - (μ.1 5 6)) = (nI (lenS.getD a1 0)) then
  sh_X4_isAt_28 n a1 μ n (0 : Int32)
  else
  some (0 : Int32)
  else
  some (0 : Int32)
def sh_X4_fail (a1 : Int32) (μ : Mm) : Option (Int32 × Mm) :=
  (pt μ 5 0 a1).bind fun μ1 =>
  (pt μ1 5 1 (μ1.1 5 6)).bind fun μ2 =>
  some ((0 : Int32), μ2)
def sh_X4_number (n : Nat) (a1 : Nat) (a2 : Int32) (a3 : Int32) (a4 : Nat) (a5 : Int32) (μ : Mm) : Option (Int32 × Mm) :=
  (sh_X4_isAt n a1 μ).bind fun r1 =>
  if r1 = (0 : Int32) then
  (sh_X4_fail (1 : Int32) μ).bind fun r11 =>
  (isB r11.1).bind fun v12 =>
  some (v12, r11.2)
  else
  (sh_X4_advance n  μ).bind fun r2 =>
  if (r2.1 5 5) = (2 : Int32) then
  if (r2.1 5 8) < a2 then
  (sh_X4_fail (2 : Int32) r2).bind fun r3 =>
  (isB r3.1).bind fun v4 =>
  some (v4, r3.2)
  else
  if (r2.1 5 8) ≤ a3 then
  (sh_X5_put a4 a5 (r2.1 5 8) r2).bind fun r5 =>
  (sh_X4_advance n  r5).bind fun r6 =>
  some ((1 : Int32), r6)
  else
  (sh_X4_fail (2 : Int32) r2).bind fun r7 =>
  (isB r7.1).bind fun v8 =>
  some (v8, r7.2)
  else
  (sh_X4_fail (1 : Int32) r2).bind fun r9 =>
  (isB r9.1).bind fun v10 =>
  some (v10, r9.2)
def sh_X4_semicolon (n : Nat) (μ : Mm) : Option (Int32 × Mm) :=
  if (μ.1 5 5) = (3 : Int32) then
  (sh_X8_at (μ.2.2 1) (μ.1 5 6) μ).bind fun r4 =>
  if r4 = (59 : Int32) then
  (sh_X4_advance n  μ).bind fun r5 =>
  some ((1 : Int32), r5)
  else
  (sh_X4_fail (1 : Int32) μ).bind fun r6 =>
  (isB r6.1).bind fun v7 =>
  some (v7, r6.2)
  else
  (sh_X4_fail (1 : Int32) μ).bind fun r1 =>
  (isB r1.1).bind fun v2 =>
  some (v2, r1.2)
def sh_X4_bookStatement (n : Nat) (a1 : Nat) (μ : Mm) : Option (Int32 × Mm) :=
  (sh_X4_isAt n 0 μ).bind fun r1 =>
  if r1 = (0 : Int32) then
  (sh_X4_fail (1 : Int32) μ).bind fun r7 =>
  (isB r7.1).bind fun v8 =>
  some (v8, r7.2)
  else
  (sh_X4_advance n  μ).bind fun r2 =>
  (sh_X4_number n 1 (20 : Int32) (120 : Int32) (a1 + 1) (0 : Int32) r2).bind fun r3 =>
  if r3.1 = (0 : Int32) then
  some ((0 : Int32), r3.2)
  else
  (sh_X4_number n 2 (2 : Int32) (60 : Int32) (a1 + 1) (1 : Int32) r3.2).bind fun r4 =>
  if r4.1 = (0 : Int32) then
  some ((0 : Int32), r4.2)
  else
  (sh_X4_number n 3 (5 : Int32) (99 : Int32) (a1 + 1) (2 : Int32) r4.2).bind fun r5 =>
  if r5.1 = (0 : Int32) then
  some ((0 : Int32), r5.2)
  else
  (sh_X4_semicolon n  r5.2).bind fun r6 =>
  if r6.1 = (0 : Int32) then
  some ((0 : Int32), r6.2)
  else
  some ((1 : Int32), r6.2)
def sh_X4_styleStatement (n : Nat) (a1 : Nat) (μ : Mm) : Option (Int32 × Mm) :=
  if (μ.1 5 9) = (0 : Int32) then
  (pz μ 5 9 (1 : Int32)).bind fun μ1 =>
  (sh_X4_advance n  μ1).bind fun r2 =>
  (sh_X4_number n 5 (0 : Int32) (9 : Int32) (a1 + 1) (3 : Int32) r2).bind fun r3 =>
  if r3.1 = (0 : Int32) then
  some ((0 : Int32), r3.2)
  else
  (sh_X4_number n 6 (0 : Int32) (9 : Int32) (a1 + 1) (4 : Int32) r3.2).bind fun r4 =>
  if r4.1 = (0 : Int32) then
  some ((0 : Int32), r4.2)
  else
  (sh_X4_number n 7 (0 : Int32) (9 : Int32) (a1 + 1) (5 : Int32) r4.2).bind fun r5 =>
  if r5.1 = (0 : Int32) then
  some ((0 : Int32), r5.2)
  else
  (sh_X4_number n 8 (0 : Int32) (9 : Int32) (a1 + 1) (6 : Int32) r5.2).bind fun r6 =>
  if r6.1 = (0 : Int32) then
  some ((0 : Int32), r6.2)
  else
  (sh_X4_number n 9 (1 : Int32) (9 : Int32) (a1 + 1) (7 : Int32) r6.2).bind fun r7 =>
  if r7.1 = (0 : Int32) then
  some ((0 : Int32), r7.2)
  else
  (sh_X4_semicolon n  r7.2).bind fun r8 =>
  if r8.1 = (0 : Int32) then
  some ((0 : Int32), r8.2)
  else
  some ((1 : Int32), r8.2)
  else
  (sh_X4_fail (3 : Int32) μ).bind fun r9 =>
  (isB r9.1).bind fun v10 =>
  some (v10, r9.2)
def sh_X4_rightStatement (n : Nat) (a1 : Nat) (μ : Mm) : Option (Int32 × Mm) :=
  if (μ.1 5 10) = (0 : Int32) then
  (pz μ 5 10 (1 : Int32)).bind fun μ1 =>
  (pz μ1 a1 1 (1 : Int32)).bind fun μ2 =>
  (sh_X4_advance n  μ2).bind fun r3 =>
  (sh_X4_semicolon n  r3).bind fun r4 =>
  (isB r4.1).bind fun v5 =>
  some (v5, r4.2)
  else
  (sh_X4_fail (3 : Int32) μ).bind fun r6 =>
  (isB r6.1).bind fun v7 =>
  some (v7, r6.2)
def sh_X4_mainStatement (n : Nat) (μ : Mm) : Option (Int32 × Mm) :=
  if (μ.1 5 11) = (0 : Int32) then
  (pz μ 5 11 (1 : Int32)).bind fun μ1 =>
  (sh_X4_advance n  μ1).bind fun r2 =>
  (sh_X4_semicolon n  r2).bind fun r3 =>
  (isB r3.1).bind fun v4 =>
  some (v4, r3.2)
  else
  (sh_X4_fail (3 : Int32) μ).bind fun r5 =>
  (isB r5.1).bind fun v6 =>
  some (v6, r5.2)
def sh_X4_titleOf_102 (n : Nat) (μ : Mm) : Option (Int32 × Mm) :=
  if (0 : Int32) < (μ.1 5 3) then
  some ((1 : Int32), μ)
  else
  (sh_X4_fail (1 : Int32) μ).bind fun r2 =>
  if r2.1 = (0 : Int32) then
  some ((0 : Int32), r2.2)
  else
  some ((1 : Int32), r2.2)
def sh_X4_titleOf_7 (n : Nat) : Nat → Int32 → Mm → Option (Int32 × Mm)
  | 0, _, _ => none
  | f + 1, x1, μ => if (8 : Int32) < x1 then
  sh_X4_titleOf_102 n μ
  else
  if (μ.1 5 5) = (1 : Int32) then
  if ((μ.1 5 7) - (μ.1 5 6)) ≤ (12 : Int32) then
  if (μ.1 5 3) < (8 : Int32) then
  (sh_X8_wordBetween n (μ.2.2 1) (μ.1 5 6) (μ.1 5 7) μ).bind fun r4 =>
  (sh_X9_put 6 (μ.1 5 3) r4 μ).bind fun r5 =>
  (pt r5 5 3 ((r5.1 5 3) + (1 : Int32))).bind fun μ6 =>
  (sh_X4_advance n  μ6).bind fun r7 =>
  sh_X4_titleOf_7 n f (x1 + (1 : Int32)) r7
  else
  (sh_X4_fail (4 : Int32) μ).bind fun r8 =>
  (isB r8.1).bind fun v9 =>
  some (v9, r8.2)
  else
  (sh_X4_fail (1 : Int32) μ).bind fun r10 =>
  (isB r10.1).bind fun v11 =>
  some (v11, r10.2)
  else
  sh_X4_titleOf_102 n μ
def sh_X4_titleOf (n : Nat) (μ : Mm) : Option (Int32 × Mm) :=
  (pt μ 5 3 (0 : Int32)).bind fun μ1 =>
  sh_X4_titleOf_7 n n (0 : Int32) μ1
def sh_X4_sectionStatement_84 (n : Nat) (a1 : Nat) (x2 : Int32) (x3 : Int32) (s0 : Int32) (μ : Mm) : Option (Int32 × Mm) :=
  if s0 = (0 : Int32) then
  some ((0 : Int32), μ)
  else
  (sh_X0_open a1 x2 x3 μ).bind fun r4 =>
  (sh_X0_entitle n a1 x2 6 (r4.1 5 3) r4).bind fun r5 =>
  (sh_X4_semicolon n  r5).bind fun r6 =>
  (isB r6.1).bind fun v7 =>
  some (v7, r6.2)
def sh_X4_sectionStatement_83 (n : Nat) (a1 : Nat) (x2 : Int32) (x3 : Int32) (μ : Mm) : Option (Int32 × Mm) :=
  sh_X4_sectionStatement_84 n a1 x2 x3 (0 : Int32) μ
def sh_X4_sectionStatement_32 (n : Nat) (a1 : Nat) (x2 : Int32) (s0 : Int32) (μ : Mm) : Option (Int32 × Mm) :=
  (sh_X0_greatestLevel a1 s0 x2 μ).bind fun r2 =>
  (sh_X4_number n 12 (1 : Int32) r2 (a1 + 3) x2 μ).bind fun r3 =>
  if r3.1 = (0 : Int32) then
  sh_X4_sectionStatement_83 n a1 x2 s0 r3.2
  else
  (sh_X4_number n 2 (0 : Int32) (500 : Int32) (a1 + 5) x2 r3.2).bind fun r8 =>
  if r8.1 = (0 : Int32) then
  sh_X4_sectionStatement_83 n a1 x2 s0 r8.2
  else
  (sh_X4_titleOf n  r8.2).bind fun r9 =>
  if r9.1 = (0 : Int32) then
  sh_X4_sectionStatement_83 n a1 x2 s0 r9.2
  else
  sh_X4_sectionStatement_84 n a1 x2 s0 (1 : Int32) r9.2
def sh_X4_sectionStatement (n : Nat) (a1 : Nat) (μ : Mm) : Option (Int32 × Mm) :=
  if (μ.1 a1 2) < (24 : Int32) then
  nm ((μ.1 a1 2)) fun v1 =>
  if (μ.1 5 11) = (0 : Int32) then
  sh_X4_sectionStatement_32 n a1 v1 (0 : Int32) μ
  else
  sh_X4_sectionStatement_32 n a1 v1 (1 : Int32) μ
  else
  (sh_X4_fail (4 : Int32) μ).bind fun r10 =>
  (isB r10.1).bind fun v11 =>
  some (v11, r10.2)
def sh_X4_statement (n : Nat) (a1 : Nat) (μ : Mm) : Option (Int32 × Mm) :=
  (sh_X4_isAt n 4 μ).bind fun r1 =>
  if r1 = (0 : Int32) then
  (sh_X4_isAt n 10 μ).bind fun r2 =>
  if r2 = (0 : Int32) then
  (sh_X4_isAt n 11 μ).bind fun r3 =>
  if r3 = (0 : Int32) then
  (sh_X4_isAt n 12 μ).bind fun r4 =>
  if r4 = (0 : Int32) then
  (sh_X4_fail (1 : Int32) μ).bind fun r5 =>
  (isB r5.1).bind fun v6 =>
  some (v6, r5.2)
  else
  (sh_X4_sectionStatement n a1 μ).bind fun r7 =>
  (isB r7.1).bind fun v8 =>
  some (v8, r7.2)
  else
  (sh_X4_mainStatement n  μ).bind fun r9 =>
  (isB r9.1).bind fun v10 =>
  some (v10, r9.2)
  else
  (sh_X4_rightStatement n a1 μ).bind fun r11 =>
  (isB r11.1).bind fun v12 =>
  some (v12, r11.2)
  else
  (sh_X4_styleStatement n a1 μ).bind fun r13 =>
  (isB r13.1).bind fun v14 =>
  some (v14, r13.2)
def sh_X4_readBook_36 (n : Nat) (a1 : Nat) (a2 : Nat) : Nat → Int32 → Mm → Option (Int32 × Mm)
  | 0, _, _ => none
  | f + 1, x3, μ => (sh_X8_length a1 μ).bind fun r7 =>
  if r7 ≤ x3 then
  some ((1 : Int32), μ)
  else
  if (μ.1 5 5) = (0 : Int32) then
  some ((1 : Int32), μ)
  else
  (sh_X4_statement n a2 μ).bind fun r8 =>
  if r8.1 = (0 : Int32) then
  some ((0 : Int32), r8.2)
  else
  sh_X4_readBook_36 n a1 a2 f (x3 + (1 : Int32)) r8.2
def sh_X4_readBook (n : Nat) (a1 : Nat) (a2 : Nat) (μ : Mm) : Option (Int32 × Mm) :=
  (sh_X0_empty a2 μ).bind fun r1 =>
  (pz r1 5 9 (0 : Int32)).bind fun μ2 =>
  (pz μ2 5 10 (0 : Int32)).bind fun μ3 =>
  (pz μ3 5 11 (0 : Int32)).bind fun μ4 =>
  (sh_X4_start n a1 μ4).bind fun r5 =>
  (sh_X4_bookStatement n a2 r5).bind fun r6 =>
  if r6.1 = (0 : Int32) then
  some ((0 : Int32), r6.2)
  else
  sh_X4_readBook_36 n a1 a2 n (0 : Int32) r6.2
def sh_X4_readTitle (n : Nat) (a1 : Nat) (μ : Mm) : Option (Int32 × Mm) :=
  (sh_X4_start n a1 μ).bind fun r1 =>
  (sh_X4_titleOf n  r1).bind fun r2 =>
  if r2.1 = (0 : Int32) then
  some ((0 : Int32), r2.2)
  else
  if (r2.2.1 5 5) = (0 : Int32) then
  some ((1 : Int32), r2.2)
  else
  some ((0 : Int32), r2.2)
def sh_X10_note_125 (n : Nat) (a1 : Int64) (a3 : Int32) (x4 : Int32) (μ : Mm) : Option Mm :=
  (sh_X5_at 83 x4 μ).bind fun r6 =>
  (sh_X5_put 83 x4 (r6 ||| a3) μ).bind fun r7 =>
  some r7
def sh_X10_note_55 (n : Nat) (a1 : Int64) (a3 : Int32) (x4 : Int32) (μ : Mm) : Option Mm :=
  (sh_X9_move 81 x4 (x4 + (1 : Int32)) ((μ.1 80 2) - x4) μ).bind fun r1 =>
  (sh_X5_move 83 x4 (x4 + (1 : Int32)) ((r1.1 80 2) - x4) r1).bind fun r2 =>
  (sh_X9_put 81 x4 a1 r2).bind fun r3 =>
  (sh_X5_put 83 x4 (0 : Int32) r3).bind fun r4 =>
  (pt r4 80 2 ((r4.1 80 2) + (1 : Int32))).bind fun μ5 =>
  sh_X10_note_125 n a1 a3 x4 μ5
def sh_X10_note_32 (n : Nat) (a1 : Int64) (a3 : Int32) (x4 : Int32) (μ : Mm) : Option Mm :=
  if x4 = (μ.1 80 2) then
  sh_X10_note_55 n a1 a3 x4 μ
  else
  (sh_X9_at 81 x4 μ).bind fun r8 =>
  if (lg_cmp r8 a1) = (0 : Int32) then
  sh_X10_note_125 n a1 a3 x4 μ
  else
  sh_X10_note_55 n a1 a3 x4 μ
def sh_X10_note_3 (n : Nat) (a1 : Int64) (a3 : Int32) : Nat → Int32 → Mm → Option Mm
  | 0, _, _ => none
  | f + 1, x4, μ => if (μ.1 80 2) ≤ x4 then
  sh_X10_note_32 n a1 a3 x4 μ
  else
  (sh_X9_at 81 x4 μ).bind fun r9 =>
  if (0 : Int32) ≤ (lg_cmp r9 a1) then
  sh_X10_note_32 n a1 a3 x4 μ
  else
  sh_X10_note_3 n a1 a3 f (x4 + (1 : Int32)) μ
def sh_X10_note (n : Nat) (a1 : Int64) (a3 : Int32) (μ : Mm) : Option Mm :=
  sh_X10_note_3 n a1 a3 n (0 : Int32) μ
def sh_X10_gather_17 (n : Nat) (a1 : Nat) (k7 : (Int32 → Mm → Option Mm)) : Nat → Int32 → Int32 → Mm → Option Mm
  | 0, _, _, _ => none
  | f + 1, x2, x3, μ => (sh_X5_at (a1 + 7) x2 μ).bind fun r2 =>
  if r2 ≤ x3 then
  k7 (x2 + (1 : Int32)) μ
  else
  (sh_X9_at (a1 + 9) ((x2 * (8 : Int32)) + x3) μ).bind fun r3 =>
  (sh_X10_note n r3 ((1 : Int32) <<< (x2 &&& 31)) μ).bind fun r4 =>
  sh_X10_gather_17 n a1 k7 f x2 (x3 + (1 : Int32)) r4
def sh_X10_gather_7 (n : Nat) (a1 : Nat) : Nat → Int32 → Mm → Option Mm
  | 0, _, _ => none
  | f + 1, x2, μ => if (μ.1 a1 2) ≤ x2 then
  some μ
  else
  sh_X10_gather_17 n a1 (fun (x2 : Int32) (μ : Mm) => sh_X10_gather_7 n a1 f x2 μ) n x2 (0 : Int32) μ
def sh_X10_gather (n : Nat) (a1 : Nat) (μ : Mm) : Option Mm :=
  (pt μ 80 2 (0 : Int32)).bind fun μ1 =>
  sh_X10_gather_7 n a1 n (0 : Int32) μ1
def sh_X10_indexOf_2 (n : Nat) (a1 : Int64) (μ : Mm) : Nat → Int32 → Option Int32
  | 0, _ => none
  | f + 1, x3 => if (μ.1 80 2) ≤ x3 then
  some (-1 : Int32)
  else
  (sh_X9_at 81 x3 μ).bind fun r1 =>
  if (lg_cmp r1 a1) = (0 : Int32) then
  some x3
  else
  sh_X10_indexOf_2 n a1 μ f (x3 + (1 : Int32))
def sh_X10_indexOf (n : Nat) (a1 : Int64) (μ : Mm) : Option Int32 :=
  sh_X10_indexOf_2 n a1 μ n (0 : Int32)
def sh_X12_thrown (μ : Mm) : Option Int32 :=
  some (μ.1 306 0)
def sh_X12_in (a0 : Int64) (a2 : Int64) (a4 : Int64) (μ : Mm) : Option Int32 :=
  if (lg_cmp a0 a2) < (0 : Int32) then
  some (0 : Int32)
  else
  if (0 : Int32) < (lg_cmp a0 a4) then
  some (0 : Int32)
  else
  some (1 : Int32)
def sh_X12_passes3_26 (a1 : Int32) (a2 : Int32) (a3 : Int32) (s1 : Int32) (μ : Mm) : Option (Int32 × Mm) :=
  (pt μ 306 0 s1).bind fun μ1 =>
  if (μ1.1 306 0) = (0 : Int32) then
  some ((1 : Int32), μ1)
  else
  some ((0 : Int32), μ1)
def sh_X12_passes3 (a1 : Int32) (a2 : Int32) (a3 : Int32) (μ : Mm) : Option (Int32 × Mm) :=
  if a1 = (0 : Int32) then
  sh_X12_passes3_26 a1 a2 a3 (1 : Int32) μ
  else
  if a2 = (0 : Int32) then
  sh_X12_passes3_26 a1 a2 a3 (2 : Int32) μ
  else
  if a3 = (0 : Int32) then
  sh_X12_passes3_26 a1 a2 a3 (3 : Int32) μ
  else
  sh_X12_passes3_26 a1 a2 a3 (0 : Int32) μ
def sh_X12_passes2 (a1 : Int32) (a2 : Int32) (μ : Mm) : Option (Int32 × Mm) :=
  (sh_X12_passes3 a1 a2 (1 : Int32) μ).bind fun r1 =>
  (isB r1.1).bind fun v2 =>
  some (v2, r1.2)
def sh_X12_passes (a1 : Int32) (μ : Mm) : Option (Int32 × Mm) :=
  (sh_X12_passes3 a1 (1 : Int32) (1 : Int32) μ).bind fun r1 =>
  (isB r1.1).bind fun v2 =>
  some (v2, r1.2)
def sh_X12_begin (a0 : Nat) (μ : Mm) : Option Mm :=
  (st μ a0 (3 : Int32) (2 : Int32)).bind fun μ1 =>
  (st μ1 a0 (4 : Int32) (3 : Int32)).bind fun μ2 =>
  (st μ2 a0 (5 : Int32) (1 : Int32)).bind fun μ3 =>
  (st μ3 a0 (6 : Int32) (2 : Int32)).bind fun μ4 =>
  (st μ4 a0 (7 : Int32) (3 : Int32)).bind fun μ5 =>
  some μ5
def sh_X12_of (a1 : Int32) (a2 : Int32) (μ : Mm) : Option Int32 :=
  (ld μ (μ.2.2 0) (((12 : Int32) + ((102 : Int32) * a1)) + a2)).bind fun v2 =>
  some v2
def sh_X12_set (a1 : Int32) (a2 : Int32) (a3 : Int32) (μ : Mm) : Option Mm :=
  (st μ (μ.2.2 0) (((12 : Int32) + ((102 : Int32) * a1)) + a2) a3).bind fun μ2 =>
  some μ2
def sh_X12_isSection (a1 : Int32) (μ : Mm) : Option Int32 :=
  (ld μ (μ.2.2 0) (9 : Int32)).bind fun v2 =>
  (sh_X12_in a1.toInt64 (0 : Int64) ((v2 - (1 : Int32)).toInt64) μ).bind fun r3 =>
  (isB r3).bind fun v4 =>
  some v4
def sh_X12_letterOf (a1 : Int32) (a2 : Int32) (a3 : Int32) (μ : Mm) : Option Int32 :=
  (sh_X12_of a1 (((6 : Int32) + ((12 : Int32) * a2)) + a3) μ).bind fun r1 =>
  some r1
def sh_X12_appendFour_3 (n : Nat) (a1 : Int32) : Nat → Int32 → Mm → Option Mm
  | 0, _, _ => none
  | f + 1, x2, μ => if x2 < (0 : Int32) then
  some μ
  else
  (st μ 309 (μ.1 306 5) (vp_nar .byte ((a1 >>> (x2 &&& 31)).toInt8.toInt32))).bind fun μ1 =>
  (pt μ1 306 5 ((μ1.1 306 5) + (1 : Int32))).bind fun μ2 =>
  sh_X12_appendFour_3 n a1 f (x2 + (-8 : Int32)) μ2
def sh_X12_appendFour (n : Nat) (a1 : Int32) (μ : Mm) : Option Mm :=
  sh_X12_appendFour_3 n a1 n (24 : Int32) μ
def sh_X12_append_19 (n : Nat) (a1 : Int32) (a2 : Int32) (a3 : Int32) (a4 : Int32) (a5 : Int32) (s1 : Int32) (μ : Mm) : Option (Int32 × Mm) :=
  (sh_X12_passes s1 μ).bind fun r1 =>
  if r1.1 = (0 : Int32) then
  some ((0 : Int32), r1.2)
  else
  (sh_X12_appendFour n a1 r1.2).bind fun r2 =>
  (sh_X12_appendFour n a2 r2).bind fun r3 =>
  (sh_X12_appendFour n a3 r3).bind fun r4 =>
  (sh_X12_appendFour n a4 r4).bind fun r5 =>
  (sh_X12_appendFour n a5 r5).bind fun r6 =>
  some ((r6.1 306 5), r6)
def sh_X12_append (n : Nat) (a1 : Int32) (a2 : Int32) (a3 : Int32) (a4 : Int32) (a5 : Int32) (μ : Mm) : Option (Int32 × Mm) :=
  if (1100 : Int32) < ((μ.1 306 5) + (20 : Int32)) then
  sh_X12_append_19 n a1 a2 a3 a4 a5 (0 : Int32) μ
  else
  sh_X12_append_19 n a1 a2 a3 a4 a5 (1 : Int32) μ
def sh_X12_truncate (a1 : Int32) (μ : Mm) : Option Mm :=
  (sh_X12_in a1.toInt64 (0 : Int64) ((μ.1 306 5).toInt64) μ).bind fun r1 =>
  (sh_X12_passes r1 μ).bind fun r2 =>
  if r2.1 = (0 : Int32) then
  some r2.2
  else
  (pt r2.2 306 5 a1).bind fun μ3 =>
  some μ3
def sh_X12_good (μ : Mm) : Option Int32 :=
  if (μ.1 306 11) = (0 : Int32) then
  some (1 : Int32)
  else
  some (0 : Int32)
def sh_X12_errs (a1 : Int32) (μ : Mm) : Option Mm :=
  (sh_X12_good  μ).bind fun r1 =>
  if r1 = (0 : Int32) then
  some μ
  else
  (pt μ 306 11 a1).bind fun μ2 =>
  (pt μ2 306 12 (μ2.1 306 8)).bind fun μ3 =>
  some μ3
def sh_X12_byteAt (a1 : Int32) (μ : Mm) : Option Int32 :=
  if (μ.1 306 6) ≤ a1 then
  some (-1 : Int32)
  else
  (ld μ 309 a1).bind fun v1 =>
  some (v1 &&& (255 : Int32))
def sh_X12_scan_144 (n : Nat) : Nat → Mm → Option Mm
  | 0, _ => none
  | f + 1, μ => (sh_X12_byteAt (μ.1 306 7) μ).bind fun r12 =>
  (sh_X12_in r12.toInt64 (48 : Int64) (57 : Int64) μ).bind fun r13 =>
  if r13 = (0 : Int32) then
  (pt μ 306 9 (2 : Int32)).bind fun μ14 =>
  some μ14
  else
  (sh_X12_byteAt (μ.1 306 7) μ).bind fun r15 =>
  (pt μ 306 10 (if ((((10 : Int32) * (μ.1 306 10)) + r15) - (48 : Int32)) < (99999 : Int32) then ((((10 : Int32) * (μ.1 306 10)) + r15) - (48 : Int32)) else (99999 : Int32))).bind fun μ16 =>
  (pt μ16 306 7 ((μ16.1 306 7) + (1 : Int32))).bind fun μ17 =>
  sh_X12_scan_144 n f  μ17
def sh_X12_scan_83 (n : Nat) : Nat → Mm → Option Mm
  | 0, _ => none
  | f + 1, μ => (sh_X12_byteAt (μ.1 306 7) μ).bind fun r18 =>
  (sh_X12_in r18.toInt64 (97 : Int64) (122 : Int64) μ).bind fun r19 =>
  if r19 = (0 : Int32) then
  (pt μ 306 9 (1 : Int32)).bind fun μ20 =>
  some μ20
  else
  (pt μ 306 7 ((μ.1 306 7) + (1 : Int32))).bind fun μ21 =>
  sh_X12_scan_83 n f  μ21
def sh_X12_scan_0 (n : Nat) : Nat → Mm → Option Mm
  | 0, _ => none
  | f + 1, μ => (sh_X12_byteAt (μ.1 306 7) μ).bind fun r1 =>
  if r1 = (32 : Int32) then
  (pt μ 306 7 ((μ.1 306 7) + (1 : Int32))).bind fun μ2 =>
  sh_X12_scan_0 n f  μ2
  else
  (sh_X12_byteAt (μ.1 306 7) μ).bind fun r3 =>
  if r3 = (10 : Int32) then
  (pt μ 306 7 ((μ.1 306 7) + (1 : Int32))).bind fun μ23 =>
  sh_X12_scan_0 n f  μ23
  else
  (pt μ 306 8 (μ.1 306 7)).bind fun μ4 =>
  (sh_X12_byteAt (μ4.1 306 7) μ4).bind fun r5 =>
  if r5 = (-1 : Int32) then
  (pt μ4 306 9 (0 : Int32)).bind fun μ22 =>
  some μ22
  else
  (sh_X12_in r5.toInt64 (97 : Int64) (122 : Int64) μ4).bind fun r6 =>
  if r6 = (0 : Int32) then
  (sh_X12_in r5.toInt64 (48 : Int64) (57 : Int64) μ4).bind fun r7 =>
  if r7 = (0 : Int32) then
  (pt μ4 306 9 (3 : Int32)).bind fun μ8 =>
  (pt μ8 306 10 r5).bind fun μ9 =>
  (pt μ9 306 7 ((μ9.1 306 7) + (1 : Int32))).bind fun μ10 =>
  some μ10
  else
  (pt μ4 306 10 (0 : Int32)).bind fun μ11 =>
  sh_X12_scan_144 n n μ11
  else
  sh_X12_scan_83 n n μ4
def sh_X12_scan (n : Nat) (μ : Mm) : Option Mm :=
  sh_X12_scan_0 n n μ
def sh_X12_goOn (n : Nat) (μ : Mm) : Option Mm :=
  (sh_X12_good  μ).bind fun r1 =>
  if r1 = (0 : Int32) then
  some μ
  else
  (sh_X12_scan n  μ).bind fun r2 =>
  some r2
def sh_X12_isText_39 (n : Nat) (a1 : Nat) (μ : Mm) : Nat → Int32 → Int32 → Option Int32
  | 0, _, _ => none
  | f + 1, x2, x3 => if (nI (lenS.getD a1 0)) ≤ x3 then
  (isB x2).bind fun v3 =>
  some v3
  else
  if x2 = (0 : Int32) then
  (isB x2).bind fun v4 =>
  some v4
  else
  (ld μ 309 ((μ.1 306 8) + x3)).bind fun v5 =>
  (chS a1 x3).bind fun v6 =>
  if v5 = v6 then
  sh_X12_isText_39 n a1 μ f (1 : Int32) (x3 + (1 : Int32))
  else
  sh_X12_isText_39 n a1 μ f (0 : Int32) (x3 + (1 : Int32))
def sh_X12_isText (n : Nat) (a1 : Nat) (μ : Mm) : Option Int32 :=
  (sh_X12_good  μ).bind fun r1 =>
  if r1 = (0 : Int32) then
  sh_X12_isText_39 n a1 μ n (0 : Int32) (0 : Int32)
  else
  if (μ.1 306 9) = (1 : Int32) then
  if ((μ.1 306 7) - (μ.1 306 8)) = (nI (lenS.getD a1 0)) then
  sh_X12_isText_39 n a1 μ n (1 : Int32) (0 : Int32)
  else
  sh_X12_isText_39 n a1 μ n (0 : Int32) (0 : Int32)
  else
  sh_X12_isText_39 n a1 μ n (0 : Int32) (0 : Int32)
def sh_X12_word (n : Nat) (a1 : Nat) (μ : Mm) : Option Mm :=
  (sh_X12_isText n a1 μ).bind fun r1 =>
  if r1 = (0 : Int32) then
  (sh_X12_errs (1 : Int32) μ).bind fun r3 =>
  (sh_X12_goOn n  r3).bind fun r4 =>
  some r4
  else
  (sh_X12_goOn n  μ).bind fun r2 =>
  some r2
def sh_X12_number_62 (n : Nat) (a1 : Int32) (a2 : Int32) (s0 : Int32) (μ : Mm) : Option (Int32 × Mm) :=
  (sh_X12_goOn n  μ).bind fun r4 =>
  some (s0, r4)
def sh_X12_number_47 (n : Nat) (a1 : Int32) (a2 : Int32) (μ : Mm) : Option (Int32 × Mm) :=
  (sh_X12_good  μ).bind fun r3 =>
  if r3 = (0 : Int32) then
  sh_X12_number_62 n a1 a2 a1 μ
  else
  sh_X12_number_62 n a1 a2 (μ.1 306 10) μ
def sh_X12_number_20 (n : Nat) (a1 : Int32) (a2 : Int32) (μ : Mm) : Option (Int32 × Mm) :=
  (sh_X12_good  μ).bind fun r2 =>
  if r2 = (0 : Int32) then
  sh_X12_number_47 n a1 a2 μ
  else
  (sh_X12_in ((μ.1 306 10).toInt64) a1.toInt64 a2.toInt64 μ).bind fun r5 =>
  if r5 = (0 : Int32) then
  (sh_X12_errs (2 : Int32) μ).bind fun r6 =>
  sh_X12_number_47 n a1 a2 r6
  else
  sh_X12_number_47 n a1 a2 μ
def sh_X12_number (n : Nat) (a1 : Int32) (a2 : Int32) (μ : Mm) : Option (Int32 × Mm) :=
  (sh_X12_good  μ).bind fun r1 =>
  if r1 = (0 : Int32) then
  sh_X12_number_20 n a1 a2 μ
  else
  if (μ.1 306 9) = (2 : Int32) then
  sh_X12_number_20 n a1 a2 μ
  else
  (sh_X12_errs (1 : Int32) μ).bind fun r7 =>
  sh_X12_number_20 n a1 a2 r7
def sh_X12_numberBehind (n : Nat) (a1 : Nat) (a2 : Int32) (a3 : Int32) (μ : Mm) : Option (Int32 × Mm) :=
  (sh_X12_word n a1 μ).bind fun r1 =>
  (sh_X12_number n a2 a3 r1).bind fun r2 =>
  some (r2.1, r2.2)
def sh_X12_semicolon_24 (n : Nat) (μ : Mm) : Option Mm :=
  (sh_X12_errs (1 : Int32) μ).bind fun r3 =>
  (sh_X12_goOn n  r3).bind fun r4 =>
  some r4
def sh_X12_semicolon (n : Nat) (μ : Mm) : Option Mm :=
  (sh_X12_good  μ).bind fun r1 =>
  if r1 = (0 : Int32) then
  (sh_X12_goOn n  μ).bind fun r2 =>
  some r2
  else
  if (μ.1 306 9) = (3 : Int32) then
  if (μ.1 306 10) = (59 : Int32) then
  (sh_X12_goOn n  μ).bind fun r5 =>
  some r5
  else
  sh_X12_semicolon_24 n μ
  else
  sh_X12_semicolon_24 n μ
def sh_X12_keepWord_9 (n : Nat) (a1 : Int32) : Nat → Int32 → Int32 → Mm → Option Mm
  | 0, _, _, _ => none
  | f + 1, x2, x3, μ => if (12 : Int32) ≤ x3 then
  (sh_X12_set a1 (3 : Int32) (x2 + (1 : Int32)) μ).bind fun r2 =>
  some r2
  else
  if ((μ.1 306 7) - (μ.1 306 8)) ≤ x3 then
  (sh_X12_set a1 (((6 : Int32) + ((12 : Int32) * x2)) + x3) (0 : Int32) μ).bind fun r3 =>
  sh_X12_keepWord_9 n a1 f x2 (x3 + (1 : Int32)) r3
  else
  (ld μ 309 ((μ.1 306 8) + x3)).bind fun v4 =>
  (sh_X12_set a1 (((6 : Int32) + ((12 : Int32) * x2)) + x3) v4 μ).bind fun r5 =>
  sh_X12_keepWord_9 n a1 f x2 (x3 + (1 : Int32)) r5
def sh_X12_keepWord (n : Nat) (a1 : Int32) (μ : Mm) : Option Mm :=
  (sh_X12_of a1 (3 : Int32) μ).bind fun r1 =>
  sh_X12_keepWord_9 n a1 n r1 (0 : Int32) μ
def sh_X12_parseTitle_76 (n : Nat) (a1 : Int32) (k7 : (Mm → Option Mm)) (μ : Mm) : Option Mm :=
  (sh_X12_goOn n  μ).bind fun r5 =>
  (sh_X12_good  r5).bind fun r6 =>
  if r6 = (0 : Int32) then
  some r5
  else
  if (r5.1 306 9) = (1 : Int32) then
  k7  r5
  else
  some r5
def sh_X12_parseTitle_64 (n : Nat) (a1 : Int32) (k7 : (Mm → Option Mm)) (μ : Mm) : Option Mm :=
  (sh_X12_good  μ).bind fun r4 =>
  if r4 = (0 : Int32) then
  sh_X12_parseTitle_76 n a1 k7 μ
  else
  (sh_X12_keepWord n a1 μ).bind fun r7 =>
  sh_X12_parseTitle_76 n a1 k7 r7
def sh_X12_parseTitle_41 (n : Nat) (a1 : Int32) (k7 : (Mm → Option Mm)) (μ : Mm) : Option Mm :=
  (sh_X12_good  μ).bind fun r3 =>
  if r3 = (0 : Int32) then
  sh_X12_parseTitle_64 n a1 k7 μ
  else
  (sh_X12_of a1 (3 : Int32) μ).bind fun r8 =>
  if r8 = (8 : Int32) then
  (sh_X12_errs (4 : Int32) μ).bind fun r9 =>
  sh_X12_parseTitle_64 n a1 k7 r9
  else
  sh_X12_parseTitle_64 n a1 k7 μ
def sh_X12_parseTitle_36 (n : Nat) (a1 : Int32) (k7 : (Mm → Option Mm)) (μ : Mm) : Option Mm :=
  (sh_X12_errs (1 : Int32) μ).bind fun r10 =>
  sh_X12_parseTitle_41 n a1 k7 r10
def sh_X12_parseTitle_7 (n : Nat) (a1 : Int32) : Nat → Mm → Option Mm
  | 0, _ => none
  | f + 1, μ => (sh_X12_good  μ).bind fun r2 =>
  if r2 = (0 : Int32) then
  sh_X12_parseTitle_41 n a1 (fun (μ : Mm) => sh_X12_parseTitle_7 n a1 f μ) μ
  else
  if (μ.1 306 9) = (1 : Int32) then
  if ((μ.1 306 7) - (μ.1 306 8)) ≤ (12 : Int32) then
  sh_X12_parseTitle_41 n a1 (fun (μ : Mm) => sh_X12_parseTitle_7 n a1 f μ) μ
  else
  sh_X12_parseTitle_36 n a1 (fun (μ : Mm) => sh_X12_parseTitle_7 n a1 f μ) μ
  else
  sh_X12_parseTitle_36 n a1 (fun (μ : Mm) => sh_X12_parseTitle_7 n a1 f μ) μ
def sh_X12_parseTitle (n : Nat) (a1 : Int32) (μ : Mm) : Option Mm :=
  (sh_X12_set a1 (3 : Int32) (0 : Int32) μ).bind fun r1 =>
  sh_X12_parseTitle_7 n a1 n r1
def sh_X12_levelBehind (a1 : Int32) (a2 : Int32) (μ : Mm) : Option Int32 :=
  if a1 < (0 : Int32) then
  some (1 : Int32)
  else
  (sh_X12_of a1 (2 : Int32) μ).bind fun r1 =>
  if r1 = a2 then
  (sh_X12_of a1 (0 : Int32) μ).bind fun r2 =>
  some (if (r2 + (1 : Int32)) < (4 : Int32) then (r2 + (1 : Int32)) else (4 : Int32))
  else
  some (1 : Int32)
def sh_X12_parseSection_43 (n : Nat) (x1 : Int32) (s0 : Int32) (μ : Mm) : Option Mm :=
  (sh_X12_set x1 (2 : Int32) s0 μ).bind fun r5 =>
  (sh_X12_levelBehind (x1 - (1 : Int32)) s0 r5).bind fun r6 =>
  (sh_X12_number n (1 : Int32) r6 r5).bind fun r7 =>
  (sh_X12_set x1 (0 : Int32) r7.1 r7.2).bind fun r8 =>
  (sh_X12_numberBehind n 2 (0 : Int32) (500 : Int32) r8).bind fun r9 =>
  (sh_X12_set x1 (1 : Int32) r9.1 r9.2).bind fun r10 =>
  (sh_X12_parseTitle n x1 r10).bind fun r11 =>
  (sh_X12_set x1 (4 : Int32) (-1 : Int32) r11).bind fun r12 =>
  (ld r12 (r12.2.2 0) (9 : Int32)).bind fun v14 =>
  (st r12 (r12.2.2 0) (9 : Int32) (v14 + (1 : Int32))).bind fun μ15 =>
  some μ15
def sh_X12_parseSection_19 (n : Nat) (x1 : Int32) (μ : Mm) : Option Mm :=
  (sh_X12_goOn n  μ).bind fun r3 =>
  (sh_X12_good  r3).bind fun r4 =>
  if r4 = (0 : Int32) then
  some r3
  else
  if (r3.1 306 13) = (0 : Int32) then
  sh_X12_parseSection_43 n x1 (0 : Int32) r3
  else
  sh_X12_parseSection_43 n x1 (1 : Int32) r3
def sh_X12_parseSection (n : Nat) (μ : Mm) : Option Mm :=
  (ld μ (μ.2.2 0) (9 : Int32)).bind fun v2 =>
  if v2 = (24 : Int32) then
  (sh_X12_errs (4 : Int32) μ).bind fun r16 =>
  sh_X12_parseSection_19 n v2 r16
  else
  sh_X12_parseSection_19 n v2 μ
def sh_X12_parseStyle_12 (n : Nat) (μ : Mm) : Option Mm :=
  (pz μ 306 14 (1 : Int32)).bind fun μ1 =>
  (sh_X12_goOn n  μ1).bind fun r2 =>
  (sh_X12_numberBehind n 5 (0 : Int32) (9 : Int32) r2).bind fun r4 =>
  (st r4.2 (r2.2.2 0) (3 : Int32) r4.1).bind fun μ5 =>
  (sh_X12_numberBehind n 6 (0 : Int32) (9 : Int32) μ5).bind fun r7 =>
  (st r7.2 (μ5.2.2 0) (4 : Int32) r7.1).bind fun μ8 =>
  (sh_X12_numberBehind n 7 (0 : Int32) (9 : Int32) μ8).bind fun r10 =>
  (st r10.2 (μ8.2.2 0) (5 : Int32) r10.1).bind fun μ11 =>
  (sh_X12_numberBehind n 8 (0 : Int32) (9 : Int32) μ11).bind fun r13 =>
  (st r13.2 (μ11.2.2 0) (6 : Int32) r13.1).bind fun μ14 =>
  (sh_X12_numberBehind n 9 (1 : Int32) (9 : Int32) μ14).bind fun r16 =>
  (st r16.2 (μ14.2.2 0) (7 : Int32) r16.1).bind fun μ17 =>
  some μ17
def sh_X12_parseStyle (n : Nat) (μ : Mm) : Option Mm :=
  if (μ.1 306 14) = (0 : Int32) then
  sh_X12_parseStyle_12 n μ
  else
  (sh_X12_errs (3 : Int32) μ).bind fun r18 =>
  sh_X12_parseStyle_12 n r18
def sh_X12_parseOnce_63 (n : Nat) (a1 : Int32) (s1 : Int32) (μ : Mm) : Option Mm :=
  (pz μ 306 13 s1).bind fun μ2 =>
  if a1 = (0 : Int32) then
  (sh_X12_goOn n  μ2).bind fun r3 =>
  some r3
  else
  (st μ2 (μ2.2.2 0) (8 : Int32) (1 : Int32)).bind fun μ5 =>
  (sh_X12_goOn n  μ5).bind fun r6 =>
  some r6
def sh_X12_parseOnce_58 (n : Nat) (a1 : Int32) (μ : Mm) : Option Mm :=
  sh_X12_parseOnce_63 n a1 (1 : Int32) μ
def sh_X12_parseOnce_43 (n : Nat) (a1 : Int32) (s1 : Int32) (μ : Mm) : Option Mm :=
  (pz μ 306 15 s1).bind fun μ1 =>
  if (μ1.1 306 13) = (0 : Int32) then
  if a1 = (0 : Int32) then
  sh_X12_parseOnce_58 n a1 μ1
  else
  sh_X12_parseOnce_63 n a1 (0 : Int32) μ1
  else
  sh_X12_parseOnce_58 n a1 μ1
def sh_X12_parseOnce_38 (n : Nat) (a1 : Int32) (μ : Mm) : Option Mm :=
  sh_X12_parseOnce_43 n a1 (1 : Int32) μ
def sh_X12_parseOnce_26 (n : Nat) (a1 : Int32) (μ : Mm) : Option Mm :=
  if (μ.1 306 15) = (0 : Int32) then
  if a1 = (0 : Int32) then
  sh_X12_parseOnce_43 n a1 (0 : Int32) μ
  else
  sh_X12_parseOnce_38 n a1 μ
  else
  sh_X12_parseOnce_38 n a1 μ
def sh_X12_parseOnce_21 (n : Nat) (a1 : Int32) (μ : Mm) : Option Mm :=
  (sh_X12_errs (3 : Int32) μ).bind fun r7 =>
  sh_X12_parseOnce_26 n a1 r7
def sh_X12_parseOnce (n : Nat) (a1 : Int32) (μ : Mm) : Option Mm :=
  if a1 = (0 : Int32) then
  if (μ.1 306 13) = (0 : Int32) then
  sh_X12_parseOnce_26 n a1 μ
  else
  sh_X12_parseOnce_21 n a1 μ
  else
  if (μ.1 306 15) = (0 : Int32) then
  sh_X12_parseOnce_26 n a1 μ
  else
  sh_X12_parseOnce_21 n a1 μ
def sh_X12_parseStatement (n : Nat) (μ : Mm) : Option Mm :=
  (sh_X12_isText n 4 μ).bind fun r1 =>
  if r1 = (0 : Int32) then
  (sh_X12_isText n 10 μ).bind fun r2 =>
  if r2 = (0 : Int32) then
  (sh_X12_isText n 11 μ).bind fun r3 =>
  if r3 = (0 : Int32) then
  (sh_X12_isText n 12 μ).bind fun r4 =>
  if r4 = (0 : Int32) then
  (sh_X12_errs (1 : Int32) μ).bind fun r5 =>
  (sh_X12_semicolon n  r5).bind fun r6 =>
  some r6
  else
  (sh_X12_parseSection n  μ).bind fun r7 =>
  (sh_X12_semicolon n  r7).bind fun r8 =>
  some r8
  else
  (sh_X12_parseOnce n (0 : Int32) μ).bind fun r9 =>
  (sh_X12_semicolon n  r9).bind fun r10 =>
  some r10
  else
  (sh_X12_parseOnce n (1 : Int32) μ).bind fun r11 =>
  (sh_X12_semicolon n  r11).bind fun r12 =>
  some r12
  else
  (sh_X12_parseStyle n  μ).bind fun r13 =>
  (sh_X12_semicolon n  r13).bind fun r14 =>
  some r14
def sh_X12_remember_53 (n : Nat) : Nat → Int32 → Mm → Option Mm
  | 0, _, _ => none
  | f + 1, x1, μ => if (18701 : Int32) ≤ x1 then
  (pt μ 306 47 ((μ.1 306 47) + (1 : Int32))).bind fun μ1 =>
  some μ1
  else
  (ld μ 307 x1).bind fun v2 =>
  (st μ 329 (((18701 : Int32) * (μ.1 306 47)) + x1) v2).bind fun μ3 =>
  sh_X12_remember_53 n f (x1 + (1 : Int32)) μ3
def sh_X12_remember_13 (n : Nat) : Nat → Int32 → Mm → Option Mm
  | 0, _, _ => none
  | f + 1, x1, μ => if (112206 : Int32) ≤ x1 then
  (pt μ 306 47 ((μ.1 306 47) - (1 : Int32))).bind fun μ4 =>
  sh_X12_remember_53 n n (0 : Int32) μ4
  else
  (ld μ 329 x1).bind fun v5 =>
  (st μ 329 (x1 - (18701 : Int32)) v5).bind fun μ6 =>
  sh_X12_remember_13 n f (x1 + (1 : Int32)) μ6
def sh_X12_remember (n : Nat) (μ : Mm) : Option Mm :=
  if (μ.1 306 47) = (6 : Int32) then
  sh_X12_remember_13 n n (18701 : Int32) μ
  else
  sh_X12_remember_53 n n (0 : Int32) μ
def sh_X12_load_191 (n : Nat) : Nat → Int32 → Mm → Option (Int32 × Mm)
  | 0, _, _ => none
  | f + 1, x1, μ => if (2460 : Int32) ≤ x1 then
  (ld μ 307 (9 : Int32)).bind fun v28 =>
  some (v28, μ)
  else
  (ld μ 308 x1).bind fun v29 =>
  (st μ 307 x1 v29).bind fun μ30 =>
  sh_X12_load_191 n f (x1 + (1 : Int32)) μ30
def sh_X12_load_167 (n : Nat) (μ : Mm) : Option (Int32 × Mm) :=
  (some (sR μ 0 307)).bind fun μ25 =>
  (sh_X12_good  μ25).bind fun r26 =>
  if r26 = (0 : Int32) then
  some ((-4 : Int32), μ25)
  else
  (sh_X12_remember n  μ25).bind fun r27 =>
  sh_X12_load_191 n n (0 : Int32) r27
def sh_X12_load_146 (n : Nat) : Nat → Mm → Option (Int32 × Mm)
  | 0, _ => none
  | f + 1, μ => (sh_X12_good  μ).bind fun r24 =>
  if r24 = (0 : Int32) then
  sh_X12_load_167 n μ
  else
  if (μ.1 306 9) = (0 : Int32) then
  sh_X12_load_167 n μ
  else
  (sh_X12_parseStatement n  μ).bind fun r31 =>
  sh_X12_load_146 n f  r31
def sh_X12_load_50 (n : Nat) : Nat → Int32 → Mm → Option (Int32 × Mm)
  | 0, _, _ => none
  | f + 1, x1, μ => if (2460 : Int32) ≤ x1 then
  (sh_X12_begin 308 μ).bind fun r10 =>
  (some (sR r10 0 308)).bind fun μ11 =>
  (sh_X12_scan n  μ11).bind fun r12 =>
  (sh_X12_word n 0 r12).bind fun r13 =>
  (sh_X12_numberBehind n 1 (20 : Int32) (120 : Int32) r13).bind fun r15 =>
  (st r15.2 (r13.2.2 0) (0 : Int32) r15.1).bind fun μ16 =>
  (sh_X12_numberBehind n 2 (2 : Int32) (60 : Int32) μ16).bind fun r18 =>
  (st r18.2 (μ16.2.2 0) (1 : Int32) r18.1).bind fun μ19 =>
  (sh_X12_numberBehind n 3 (5 : Int32) (99 : Int32) μ19).bind fun r21 =>
  (st r21.2 (μ19.2.2 0) (2 : Int32) r21.1).bind fun μ22 =>
  (sh_X12_semicolon n  μ22).bind fun r23 =>
  sh_X12_load_146 n n r23
  else
  (st μ 308 x1 (0 : Int32)).bind fun μ32 =>
  sh_X12_load_50 n f (x1 + (1 : Int32)) μ32
def sh_X12_load (n : Nat) (μ : Mm) : Option (Int32 × Mm) :=
  (pt μ 306 0 (0 : Int32)).bind fun μ1 =>
  (pt μ1 306 6 (μ1.1 306 5)).bind fun μ2 =>
  (pt μ2 306 5 (0 : Int32)).bind fun μ3 =>
  (pt μ3 306 7 (0 : Int32)).bind fun μ4 =>
  (pt μ4 306 11 (0 : Int32)).bind fun μ5 =>
  (pt μ5 306 12 (-1 : Int32)).bind fun μ6 =>
  (pz μ6 306 13 (0 : Int32)).bind fun μ7 =>
  (pz μ7 306 14 (0 : Int32)).bind fun μ8 =>
  (pz μ8 306 15 (0 : Int32)).bind fun μ9 =>
  sh_X12_load_50 n n (0 : Int32) μ9
def sh_X12_errorCode (μ : Mm) : Option (Int32 × Mm) :=
  (pt μ 306 0 (0 : Int32)).bind fun μ1 =>
  some ((μ1.1 306 11), μ1)
def sh_X12_errorPosition (μ : Mm) : Option (Int32 × Mm) :=
  (pt μ 306 0 (0 : Int32)).bind fun μ1 =>
  some ((μ1.1 306 12), μ1)
def sh_X12_put (a1 : Int32) (μ : Mm) : Option Mm :=
  (st μ 310 (μ.1 306 17) (vp_nar .byte a1.toInt8.toInt32)).bind fun μ1 =>
  (pt μ1 306 17 ((μ1.1 306 17) + (1 : Int32))).bind fun μ2 =>
  some μ2
def sh_X12_putNumber_20 (n : Nat) (a1 : Int32) : Nat → Int32 → Mm → Option Mm
  | 0, _, _ => none
  | f + 1, x3, μ => if x3 ≤ (0 : Int32) then
  some μ
  else
  (dv a1 x3).bind fun v2 =>
  (rm v2 (10 : Int32)).bind fun v3 =>
  (sh_X12_put ((48 : Int32) + v3) μ).bind fun r4 =>
  (dv x3 (10 : Int32)).bind fun v5 =>
  sh_X12_putNumber_20 n a1 f v5 r4
def sh_X12_putNumber_2 (n : Nat) (a1 : Int32) : Nat → Int32 → Mm → Option Mm
  | 0, _, _ => none
  | f + 1, x2, μ => (dv a1 x2).bind fun v1 =>
  if v1 < (10 : Int32) then
  sh_X12_putNumber_20 n a1 n x2 μ
  else
  nm ((x2 * (10 : Int32))) fun v6 =>
  sh_X12_putNumber_2 n a1 f v6 μ
def sh_X12_putNumber (n : Nat) (a1 : Int32) (μ : Mm) : Option Mm :=
  sh_X12_putNumber_2 n a1 n (1 : Int32) μ
def sh_X12_putWord_2 (n : Nat) (a1 : Int32) (a2 : Int32) : Nat → Int32 → Mm → Option Mm
  | 0, _, _ => none
  | f + 1, x3, μ => if (12 : Int32) ≤ x3 then
  some μ
  else
  (sh_X12_letterOf a1 a2 x3 μ).bind fun r1 =>
  if r1 = (0 : Int32) then
  some μ
  else
  (sh_X12_letterOf a1 a2 x3 μ).bind fun r2 =>
  (sh_X12_put r2 μ).bind fun r3 =>
  sh_X12_putWord_2 n a1 a2 f (x3 + (1 : Int32)) r3
def sh_X12_putWord (n : Nat) (a1 : Int32) (a2 : Int32) (μ : Mm) : Option Mm :=
  sh_X12_putWord_2 n a1 a2 n (0 : Int32) μ
def sh_X12_putRomanFigure_67 (n : Nat) (a1 : Int32) (a2 : Int32) (a3 : Int32) (a4 : Int32) : Nat → Int32 → Int32 → Mm → Option Mm
  | 0, _, _, _ => none
  | f + 1, x5, x6, μ => if x5 ≤ x6 then
  some μ
  else
  (sh_X12_put a2 μ).bind fun r2 =>
  sh_X12_putRomanFigure_67 n a1 a2 a3 a4 f x5 (x6 + (1 : Int32)) r2
def sh_X12_putRomanFigure_44 (n : Nat) (a1 : Int32) (a2 : Int32) (a3 : Int32) (a4 : Int32) (μ : Mm) : Option Mm :=
  if a1 = (4 : Int32) then
  sh_X12_putRomanFigure_67 n a1 a2 a3 a4 n (0 : Int32) (0 : Int32) μ
  else
  if a1 = (9 : Int32) then
  sh_X12_putRomanFigure_67 n a1 a2 a3 a4 n (0 : Int32) (0 : Int32) μ
  else
  (rm a1 (5 : Int32)).bind fun v3 =>
  sh_X12_putRomanFigure_67 n a1 a2 a3 a4 n v3 (0 : Int32) μ
def sh_X12_putRomanFigure_28 (n : Nat) (a1 : Int32) (a2 : Int32) (a3 : Int32) (a4 : Int32) (μ : Mm) : Option Mm :=
  if a1 < (4 : Int32) then
  sh_X12_putRomanFigure_44 n a1 a2 a3 a4 μ
  else
  if (8 : Int32) < a1 then
  sh_X12_putRomanFigure_44 n a1 a2 a3 a4 μ
  else
  (sh_X12_put a3 μ).bind fun r4 =>
  sh_X12_putRomanFigure_44 n a1 a2 a3 a4 r4
def sh_X12_putRomanFigure_16 (n : Nat) (a1 : Int32) (a2 : Int32) (a3 : Int32) (a4 : Int32) (μ : Mm) : Option Mm :=
  if a1 = (9 : Int32) then
  (sh_X12_put a4 μ).bind fun r5 =>
  sh_X12_putRomanFigure_28 n a1 a2 a3 a4 r5
  else
  sh_X12_putRomanFigure_28 n a1 a2 a3 a4 μ
def sh_X12_putRomanFigure_11 (n : Nat) (a1 : Int32) (a2 : Int32) (a3 : Int32) (a4 : Int32) (μ : Mm) : Option Mm :=
  (sh_X12_put a2 μ).bind fun r1 =>
  sh_X12_putRomanFigure_16 n a1 a2 a3 a4 r1
def sh_X12_putRomanFigure (n : Nat) (a1 : Int32) (a2 : Int32) (a3 : Int32) (a4 : Int32) (μ : Mm) : Option Mm :=
  if a1 = (4 : Int32) then
  sh_X12_putRomanFigure_11 n a1 a2 a3 a4 μ
  else
  if a1 = (9 : Int32) then
  sh_X12_putRomanFigure_11 n a1 a2 a3 a4 μ
  else
  sh_X12_putRomanFigure_16 n a1 a2 a3 a4 μ
def sh_X12_putRoman_2 (n : Nat) (a1 : Int32) : Nat → Int32 → Mm → Option Mm
  | 0, _, _ => none
  | f + 1, x2, μ => (dv a1 (1000 : Int32)).bind fun v1 =>
  if v1 ≤ x2 then
  (dv a1 (100 : Int32)).bind fun v2 =>
  (rm v2 (10 : Int32)).bind fun v3 =>
  (sh_X12_putRomanFigure n v3 (99 : Int32) (100 : Int32) (109 : Int32) μ).bind fun r4 =>
  (dv a1 (10 : Int32)).bind fun v5 =>
  (rm v5 (10 : Int32)).bind fun v6 =>
  (sh_X12_putRomanFigure n v6 (120 : Int32) (108 : Int32) (99 : Int32) r4).bind fun r7 =>
  (rm a1 (10 : Int32)).bind fun v8 =>
  (sh_X12_putRomanFigure n v8 (105 : Int32) (118 : Int32) (120 : Int32) r7).bind fun r9 =>
  some r9
  else
  (sh_X12_put (109 : Int32) μ).bind fun r10 =>
  sh_X12_putRoman_2 n a1 f (x2 + (1 : Int32)) r10
def sh_X12_putRoman (n : Nat) (a1 : Int32) (μ : Mm) : Option Mm :=
  sh_X12_putRoman_2 n a1 n (0 : Int32) μ
def sh_X12_widthOf (a0 : Int32) (μ : Mm) : Option Int32 :=
  if a0 = (102 : Int32) then
  some (1 : Int32)
  else
  if a0 = (105 : Int32) then
  some (1 : Int32)
  else
  if a0 = (106 : Int32) then
  some (1 : Int32)
  else
  if a0 = (108 : Int32) then
  some (1 : Int32)
  else
  if a0 = (114 : Int32) then
  some (1 : Int32)
  else
  if a0 = (116 : Int32) then
  some (1 : Int32)
  else
  if a0 = (49 : Int32) then
  some (1 : Int32)
  else
  if a0 = (46 : Int32) then
  some (1 : Int32)
  else
  if a0 = (32 : Int32) then
  some (1 : Int32)
  else
  if a0 = (109 : Int32) then
  some (3 : Int32)
  else
  if a0 = (119 : Int32) then
  some (3 : Int32)
  else
  some (2 : Int32)
def sh_X12_textWidth_4 (n : Nat) (a1 : Int32) (μ : Mm) : Nat → Int32 → Int32 → Option Int32
  | 0, _, _ => none
  | f + 1, x2, x3 => if (μ.1 306 17) ≤ x3 then
  some x2
  else
  (ld μ 310 x3).bind fun v1 =>
  (sh_X12_widthOf v1 μ).bind fun r2 =>
  nm ((x2 + r2)) fun v3 =>
  sh_X12_textWidth_4 n a1 μ f v3 (x3 + (1 : Int32))
def sh_X12_textWidth (n : Nat) (a1 : Int32) (μ : Mm) : Option Int32 :=
  sh_X12_textWidth_4 n a1 μ n (0 : Int32) a1
def sh_X12_parentOf_4 (n : Nat) (a1 : Int32) (μ : Mm) : Nat → Int32 → Option Int32
  | 0, _ => none
  | f + 1, x2 => if x2 < (0 : Int32) then
  some (-1 : Int32)
  else
  (sh_X12_of x2 (2 : Int32) μ).bind fun r2 =>
  (sh_X12_of a1 (2 : Int32) μ).bind fun r3 =>
  if r2 = r3 then
  (sh_X12_of x2 (0 : Int32) μ).bind fun r4 =>
  (sh_X12_of a1 (0 : Int32) μ).bind fun r5 =>
  if r5 ≤ r4 then
  sh_X12_parentOf_4 n a1 μ f (x2 + (-1 : Int32))
  else
  some x2
  else
  some (-1 : Int32)
def sh_X12_parentOf (n : Nat) (a1 : Int32) (μ : Mm) : Option Int32 :=
  nm ((a1 - (1 : Int32))) fun v1 =>
  sh_X12_parentOf_4 n a1 μ n v1
def sh_X12_layLabels_33 (n : Nat) (k2 : (Int32 → Mm → Option Mm)) : Nat → Int32 → Int32 → Mm → Option Mm
  | 0, _, _, _ => none
  | f + 1, x1, x2, μ => if x1 ≤ x2 then
  k2 (x1 + (1 : Int32)) μ
  else
  (ld μ 312 x1).bind fun v6 =>
  (sh_X12_of x2 (2 : Int32) μ).bind fun r7 =>
  (sh_X12_of x1 (2 : Int32) μ).bind fun r8 =>
  if r7 = r8 then
  (ld μ 311 x2).bind fun v10 =>
  (ld μ 311 x1).bind fun v11 =>
  if v10 = v11 then
  (st μ 312 x1 (v6 + (1 : Int32))).bind fun μ13 =>
  sh_X12_layLabels_33 n k2 f x1 (x2 + (1 : Int32)) μ13
  else
  (st μ 312 x1 (v6 + (0 : Int32))).bind fun μ12 =>
  sh_X12_layLabels_33 n k2 f x1 (x2 + (1 : Int32)) μ12
  else
  (st μ 312 x1 (v6 + (0 : Int32))).bind fun μ9 =>
  sh_X12_layLabels_33 n k2 f x1 (x2 + (1 : Int32)) μ9
def sh_X12_layLabels_2 (n : Nat) : Nat → Int32 → Mm → Option Mm
  | 0, _, _ => none
  | f + 1, x1, μ => (ld μ (μ.2.2 0) (9 : Int32)).bind fun v2 =>
  if v2 ≤ x1 then
  some μ
  else
  (sh_X12_parentOf n x1 μ).bind fun r3 =>
  (st μ 311 x1 r3).bind fun μ4 =>
  (st μ4 312 x1 (1 : Int32)).bind fun μ5 =>
  sh_X12_layLabels_33 n (fun (x1 : Int32) (μ : Mm) => sh_X12_layLabels_2 n f x1 μ) n x1 (0 : Int32) μ5
def sh_X12_layLabels (n : Nat) (μ : Mm) : Option Mm :=
  sh_X12_layLabels_2 n n (0 : Int32) μ
def sh_X12_putLabel_38 (n : Nat) (a1 : Int32) : Nat → Int32 → Mm → Option Mm
  | 0, _, _ => none
  | f + 1, x3, μ => if x3 < (0 : Int32) then
  some μ
  else
  (ld μ 313 x3).bind fun v2 =>
  (sh_X12_putNumber n v2 μ).bind fun r3 =>
  if x3 ≤ (0 : Int32) then
  sh_X12_putLabel_38 n a1 f (x3 + (-1 : Int32)) r3
  else
  (sh_X12_put (46 : Int32) r3).bind fun r4 =>
  sh_X12_putLabel_38 n a1 f (x3 + (-1 : Int32)) r4
def sh_X12_putLabel_4 (n : Nat) (a1 : Int32) : Nat → Int32 → Int32 → Mm → Option Mm
  | 0, _, _, _ => none
  | f + 1, x2, x3, μ => if x3 = (-1 : Int32) then
  nm ((x2 - (1 : Int32))) fun v1 =>
  sh_X12_putLabel_38 n a1 n v1 μ
  else
  (ld μ 312 x3).bind fun v5 =>
  (st μ 313 x2 v5).bind fun μ6 =>
  (ld μ6 311 x3).bind fun v7 =>
  sh_X12_putLabel_4 n a1 f (x2 + (1 : Int32)) v7 μ6
def sh_X12_putLabel (n : Nat) (a1 : Int32) (μ : Mm) : Option Mm :=
  sh_X12_putLabel_4 n a1 n (0 : Int32) a1 μ
def sh_X12_putToken_25 (n : Nat) (a1 : Int32) (a2 : Int32) (μ : Mm) : Option Mm :=
  (sh_X12_putWord n a1 a2 μ).bind fun r1 =>
  some r1
def sh_X12_putToken (n : Nat) (a1 : Int32) (a2 : Int32) (μ : Mm) : Option Mm :=
  if a2 = (0 : Int32) then
  (sh_X12_of a1 (2 : Int32) μ).bind fun r2 =>
  if r2 = (1 : Int32) then
  (sh_X12_putLabel n a1 μ).bind fun r3 =>
  (sh_X12_put (32 : Int32) r3).bind fun r4 =>
  sh_X12_putToken_25 n a1 a2 r4
  else
  sh_X12_putToken_25 n a1 a2 μ
  else
  sh_X12_putToken_25 n a1 a2 μ
def sh_X12_tokenWidth (n : Nat) (a1 : Int32) (a2 : Int32) (μ : Mm) : Option (Int32 × Mm) :=
  (pt μ 306 17 (0 : Int32)).bind fun μ1 =>
  (sh_X12_putToken n a1 a2 μ1).bind fun r2 =>
  (sh_X12_textWidth n (0 : Int32) r2).bind fun r3 =>
  some (r3, r2)
def sh_X12_flow_129 (a1 : Int32) (x3 : Int32) (s0 : Int32) (s1 : Int32) (μ : Mm) : Option Mm :=
  (sh_X12_of a1 (1 : Int32) μ).bind fun r6 =>
  nm (((s0 + s1) + r6)) fun v7 =>
  (dv (v7 - (1 : Int32)) x3).bind fun v8 =>
  (pt μ 306 25 ((μ.1 306 25) + v8)).bind fun μ9 =>
  (dv (v7 - (1 : Int32)) x3).bind fun v10 =>
  (pt μ9 306 26 (v7 - (v10 * x3))).bind fun μ11 =>
  some μ11
def sh_X12_flow_96 (a1 : Int32) (x2 : Int32) (x3 : Int32) (μ : Mm) : Option Mm :=
  (st μ 314 a1 (μ.1 306 25)).bind fun μ4 =>
  (st μ4 315 a1 (μ4.1 306 26)).bind fun μ5 =>
  if x2 = (0 : Int32) then
  sh_X12_flow_129 a1 x3 (μ5.1 306 26) (1 : Int32) μ5
  else
  sh_X12_flow_129 a1 x3 (μ5.1 306 26) (3 : Int32) μ5
def sh_X12_flow_62 (a1 : Int32) (x2 : Int32) (x3 : Int32) (μ : Mm) : Option Mm :=
  if x2 = (0 : Int32) then
  sh_X12_flow_96 a1 x2 x3 μ
  else
  (ld μ (μ.2.2 0) (8 : Int32)).bind fun v13 =>
  if v13 = (1 : Int32) then
  (rm (μ.1 306 25) (2 : Int32)).bind fun v14 =>
  if v14 = (0 : Int32) then
  (pt μ 306 25 ((μ.1 306 25) + (1 : Int32))).bind fun μ15 =>
  sh_X12_flow_96 a1 x2 x3 μ15
  else
  sh_X12_flow_96 a1 x2 x3 μ
  else
  sh_X12_flow_96 a1 x2 x3 μ
def sh_X12_flow_47 (a1 : Int32) (x2 : Int32) (x3 : Int32) (μ : Mm) : Option Mm :=
  (pt μ 306 25 ((μ.1 306 25) + (1 : Int32))).bind fun μ16 =>
  (pt μ16 306 26 (0 : Int32)).bind fun μ17 =>
  sh_X12_flow_62 a1 x2 x3 μ17
def sh_X12_flow_15 (a1 : Int32) (s0 : Int32) (μ : Mm) : Option Mm :=
  (ld μ (μ.2.2 0) (2 : Int32)).bind fun v3 =>
  if s0 = (0 : Int32) then
  if (2 : Int32) ≤ (v3 - (μ.1 306 26)) then
  sh_X12_flow_62 a1 s0 v3 μ
  else
  sh_X12_flow_47 a1 s0 v3 μ
  else
  if (μ.1 306 26) ≤ (0 : Int32) then
  sh_X12_flow_62 a1 s0 v3 μ
  else
  sh_X12_flow_47 a1 s0 v3 μ
def sh_X12_flow (a1 : Int32) (μ : Mm) : Option Mm :=
  (sh_X12_of a1 (0 : Int32) μ).bind fun r1 =>
  if r1 = (1 : Int32) then
  sh_X12_flow_15 a1 (1 : Int32) μ
  else
  sh_X12_flow_15 a1 (0 : Int32) μ
def sh_X12_flowPart_15 (n : Nat) (a1 : Int32) (a2 : Int32) : Nat → Int32 → Int32 → Mm → Option (Int32 × Mm)
  | 0, _, _, _ => none
  | f + 1, x3, x4, μ => (ld μ (μ.2.2 0) (9 : Int32)).bind fun v4 =>
  if v4 ≤ x4 then
  if x3 = (0 : Int32) then
  some (a2, μ)
  else
  some (((μ.1 306 25) + (1 : Int32)), μ)
  else
  (sh_X12_of x4 (2 : Int32) μ).bind fun r5 =>
  if r5 = a1 then
  (sh_X12_flow x4 μ).bind fun r6 =>
  sh_X12_flowPart_15 n a1 a2 f (1 : Int32) (x4 + (1 : Int32)) r6
  else
  sh_X12_flowPart_15 n a1 a2 f x3 (x4 + (1 : Int32)) μ
def sh_X12_flowPart (n : Nat) (a1 : Int32) (a2 : Int32) (μ : Mm) : Option (Int32 × Mm) :=
  (pt μ 306 25 a2).bind fun μ1 =>
  (pt μ1 306 26 (0 : Int32)).bind fun μ2 =>
  sh_X12_flowPart_15 n a1 a2 n (0 : Int32) (0 : Int32) μ2
def sh_X12_layPages_60 (n : Nat) (a1 : Int32) (x3 : Int32) (s1 : Int32) (μ : Mm) : Option Mm :=
  (pt μ 306 23 s1).bind fun μ9 =>
  (pt μ9 306 24 (((μ9.1 306 23) + x3) - (1 : Int32))).bind fun μ10 =>
  some μ10
def sh_X12_layPages_59 (n : Nat) (a1 : Int32) (x2 : Int32) (x3 : Int32) (μ : Mm) : Option Mm :=
  sh_X12_layPages_60 n a1 x3 x2 μ
def sh_X12_layPages (n : Nat) (a1 : Int32) (μ : Mm) : Option Mm :=
  (sh_X12_flowPart n (0 : Int32) (a1 + (1 : Int32)) μ).bind fun r1 =>
  nm (r1.1) fun v2 =>
  (pt r1.2 306 24 (v2 - (1 : Int32))).bind fun μ3 =>
  (pt μ3 306 23 (0 : Int32)).bind fun μ4 =>
  (sh_X12_flowPart n (1 : Int32) (1 : Int32) μ4).bind fun r5 =>
  nm ((r5.1 - (1 : Int32))) fun v6 =>
  if v6 = (0 : Int32) then
  some r5.2
  else
  (ld r5.2 (r5.2.2.2 0) (8 : Int32)).bind fun v8 =>
  if v8 = (1 : Int32) then
  (rm v2 (2 : Int32)).bind fun v11 =>
  if v11 = (0 : Int32) then
  sh_X12_layPages_60 n a1 v6 (v2 + (1 : Int32)) r5.2
  else
  sh_X12_layPages_59 n a1 v2 v6 r5.2
  else
  sh_X12_layPages_59 n a1 v2 v6 r5.2
def sh_X12_bookPageOf (a1 : Int32) (μ : Mm) : Option Int32 :=
  (sh_X12_of a1 (2 : Int32) μ).bind fun r1 =>
  if r1 = (0 : Int32) then
  (ld μ 314 a1).bind fun v3 =>
  some v3
  else
  (ld μ 314 a1).bind fun v2 =>
  some (((μ.1 306 23) + v2) - (1 : Int32))
def sh_X12_putPrinted (n : Nat) (a1 : Int32) (μ : Mm) : Option Mm :=
  (sh_X12_of a1 (2 : Int32) μ).bind fun r1 =>
  if r1 = (0 : Int32) then
  (ld μ 314 a1).bind fun v4 =>
  (sh_X12_putRoman n v4 μ).bind fun r5 =>
  some r5
  else
  (ld μ 314 a1).bind fun v2 =>
  (sh_X12_putNumber n v2 μ).bind fun r3 =>
  some r3
def sh_X12_printedWidth (n : Nat) (a1 : Int32) (μ : Mm) : Option (Int32 × Mm) :=
  (pt μ 306 17 (0 : Int32)).bind fun μ1 =>
  (sh_X12_putPrinted n a1 μ1).bind fun r2 =>
  (sh_X12_textWidth n (0 : Int32) r2).bind fun r3 =>
  some (r3, r2)
def sh_X12_beginLine (a1 : Int32) (a2 : Int32) (a3 : Int32) (a4 : Int32) (μ : Mm) : Option Mm :=
  (st μ 316 (μ.1 306 36) a1).bind fun μ1 =>
  (st μ1 317 (μ1.1 306 36) a3).bind fun μ2 =>
  (st μ2 318 (μ2.1 306 36) a2).bind fun μ3 =>
  (st μ3 319 (μ3.1 306 36) (1 : Int32)).bind fun μ4 =>
  (st μ4 320 (μ4.1 306 36) (a3 + a4)).bind fun μ5 =>
  (st μ5 321 (μ5.1 306 36) (vp_nar .boolean (0 : Int32))).bind fun μ6 =>
  (st μ6 322 (μ6.1 306 36) (0 : Int32)).bind fun μ7 =>
  (st μ7 323 (μ7.1 306 36) (-1 : Int32)).bind fun μ8 =>
  (pt μ8 306 36 ((μ8.1 306 36) + (1 : Int32))).bind fun μ9 =>
  some μ9
def sh_X12_layDots_87 (n : Nat) (a1 : Int32) : Nat → Int32 → Int32 → Int32 → Mm → Option Mm
  | 0, _, _, _, _ => none
  | f + 1, x3, x4, x5, μ => if x4 < (x5 + (1 : Int32)) then
  some μ
  else
  (ld μ 322 a1).bind fun v17 =>
  (st μ 322 a1 (v17 + (1 : Int32))).bind fun μ18 =>
  nm ((x5 + x3)) fun v19 =>
  sh_X12_layDots_87 n a1 f x3 x4 v19 μ18
def sh_X12_layDots (n : Nat) (a1 : Int32) (μ : Mm) : Option Mm :=
  (ld μ 316 a1).bind fun v1 =>
  (ld μ (μ.2.2 0) (7 : Int32)).bind fun v3 =>
  (ld μ (μ.2.2 0) (0 : Int32)).bind fun v5 =>
  (sh_X12_printedWidth n v1 μ).bind fun r6 =>
  (ld r6.2 (r6.2.2.2 0) (5 : Int32)).bind fun v8 =>
  nm (((v5 - r6.1) - v8)) fun v9 =>
  (ld r6.2 320 a1).bind fun v10 =>
  (ld r6.2 (r6.2.2.2 0) (5 : Int32)).bind fun v12 =>
  (dv (((v10 + v12) + v3) - (1 : Int32)) v3).bind fun v13 =>
  nm ((v13 * v3)) fun v14 =>
  (st r6.2 322 a1 (0 : Int32)).bind fun μ15 =>
  if v9 < (v14 + (1 : Int32)) then
  (st μ15 323 a1 (-1 : Int32)).bind fun μ16 =>
  sh_X12_layDots_87 n a1 n v3 v9 v14 μ16
  else
  (st μ15 323 a1 v14).bind fun μ20 =>
  sh_X12_layDots_87 n a1 n v3 v9 v14 μ20
def sh_X12_layEntry_257 (n : Nat) (a1 : Int32) (μ : Mm) : Option Mm :=
  (st μ 321 ((μ.1 306 36) - (1 : Int32)) (vp_nar .boolean (1 : Int32))).bind fun μ12 =>
  some μ12
def sh_X12_layEntry_41 (n : Nat) (a1 : Int32) : Nat → Int32 → Int32 → Mm → Option Mm
  | 0, _, _, _ => none
  | f + 1, x2, x3, μ => (sh_X12_of a1 (3 : Int32) μ).bind fun r8 =>
  if r8 ≤ x3 then
  nm (((μ.1 306 36) - (1 : Int32))) fun v9 =>
  (sh_X12_layDots n v9 μ).bind fun r10 =>
  (ld r10 319 v9).bind fun v11 =>
  if v11 ≤ (1 : Int32) then
  sh_X12_layEntry_257 n a1 r10
  else
  (ld r10 322 v9).bind fun v13 =>
  (ld r10 (r10.2.2 0) (6 : Int32)).bind fun v15 =>
  if v15 ≤ v13 then
  sh_X12_layEntry_257 n a1 r10
  else
  (sh_X12_of a1 (3 : Int32) r10).bind fun r16 =>
  nm ((r16 - (1 : Int32))) fun v17 =>
  (sh_X12_tokenWidth n a1 v17 r10).bind fun r18 =>
  nm (r18.1) fun v19 =>
  (ld r18.2 319 v9).bind fun v20 =>
  (st r18.2 319 v9 (v20 - (1 : Int32))).bind fun μ21 =>
  (ld μ21 320 v9).bind fun v22 =>
  (st μ21 320 v9 (v22 - ((1 : Int32) + v19))).bind fun μ23 =>
  (st μ23 322 v9 (0 : Int32)).bind fun μ24 =>
  (st μ24 323 v9 (-1 : Int32)).bind fun μ25 =>
  (ld μ25 (μ25.2.2 0) (4 : Int32)).bind fun v27 =>
  (sh_X12_beginLine a1 v17 (x2 + v27) v19 μ25).bind fun r28 =>
  (sh_X12_layDots n ((r28.1 306 36) - (1 : Int32)) r28).bind fun r29 =>
  sh_X12_layEntry_257 n a1 r29
  else
  (sh_X12_tokenWidth n a1 x3 μ).bind fun r30 =>
  nm (r30.1) fun v31 =>
  nm (((r30.2.1 306 36) - (1 : Int32))) fun v32 =>
  (ld r30.2 320 v32).bind fun v33 =>
  if (r30.2.1 306 38) < ((v33 + (1 : Int32)) + v31) then
  (ld r30.2 (r30.2.2.2 0) (4 : Int32)).bind fun v35 =>
  (sh_X12_beginLine a1 x3 (x2 + v35) v31 r30.2).bind fun r36 =>
  sh_X12_layEntry_41 n a1 f x2 (x3 + (1 : Int32)) r36
  else
  (ld r30.2 319 v32).bind fun v37 =>
  (st r30.2 319 v32 (v37 + (1 : Int32))).bind fun μ38 =>
  (ld μ38 320 v32).bind fun v39 =>
  (st μ38 320 v32 (v39 + ((1 : Int32) + v31))).bind fun μ40 =>
  sh_X12_layEntry_41 n a1 f x2 (x3 + (1 : Int32)) μ40
def sh_X12_layEntry (n : Nat) (a1 : Int32) (μ : Mm) : Option Mm :=
  (st μ 324 a1 (μ.1 306 36)).bind fun μ1 =>
  (ld μ1 (μ1.2.2 0) (3 : Int32)).bind fun v3 =>
  (sh_X12_of a1 (0 : Int32) μ1).bind fun r4 =>
  nm ((v3 * (r4 - (1 : Int32)))) fun v5 =>
  (sh_X12_tokenWidth n a1 (0 : Int32) μ1).bind fun r6 =>
  (sh_X12_beginLine a1 (0 : Int32) v5 r6.1 r6.2).bind fun r7 =>
  sh_X12_layEntry_41 n a1 n v5 (1 : Int32) r7
def sh_X12_layWith_74 (n : Nat) (a1 : Int32) : Nat → Int32 → Mm → Option (Int32 × Mm)
  | 0, _, _ => none
  | f + 1, x2, μ => (ld μ (μ.2.2 0) (9 : Int32)).bind fun v12 =>
  if v12 ≤ x2 then
  (ld μ (μ.2.2 0) (1 : Int32)).bind fun v14 =>
  (ld μ (μ.2.2 0) (1 : Int32)).bind fun v16 =>
  (dv (((μ.1 306 36) + v14) - (1 : Int32)) v16).bind fun v17 =>
  some (v17, μ)
  else
  (sh_X12_layEntry n x2 μ).bind fun r18 =>
  sh_X12_layWith_74 n a1 f (x2 + (1 : Int32)) r18
def sh_X12_layWith_12 (n : Nat) (a1 : Int32) : Nat → Int32 → Mm → Option (Int32 × Mm)
  | 0, _, _ => none
  | f + 1, x2, μ => (ld μ (μ.2.2 0) (9 : Int32)).bind fun v4 =>
  if v4 ≤ x2 then
  (ld μ (μ.2.2 0) (0 : Int32)).bind fun v6 =>
  (ld μ (μ.2.2 0) (5 : Int32)).bind fun v8 =>
  (pt μ 306 38 ((v6 - (μ.1 306 37)) - v8)).bind fun μ9 =>
  (pt μ9 306 36 (0 : Int32)).bind fun μ10 =>
  sh_X12_layWith_74 n a1 n (0 : Int32) μ10
  else
  (sh_X12_printedWidth n x2 μ).bind fun r19 =>
  (pt r19.2 306 37 (if (μ.1 306 37) < r19.1 then r19.1 else (μ.1 306 37))).bind fun μ20 =>
  sh_X12_layWith_12 n a1 f (x2 + (1 : Int32)) μ20
def sh_X12_layWith (n : Nat) (a1 : Int32) (μ : Mm) : Option (Int32 × Mm) :=
  (sh_X12_layPages n a1 μ).bind fun r1 =>
  (pt r1 306 37 (0 : Int32)).bind fun μ2 =>
  sh_X12_layWith_12 n a1 n (0 : Int32) μ2
def sh_X12_lay_101 (n : Nat) (x1 : Int32) (x2 : Int32) (μ : Mm) : Option Mm :=
  if x2 = (μ.1 306 39) then
  some μ
  else
  (pt μ 306 39 x1).bind fun μ7 =>
  (sh_X12_layWith n (μ7.1 306 39) μ7).bind fun r8 =>
  nm (r8.1) fun v9 =>
  some r8.2
def sh_X12_lay_70 (n : Nat) (k40 : (Int32 → Int32 → Mm → Option Mm)) (x1 : Int32) (s1 : Int32) (μ : Mm) : Option Mm :=
  (pt μ 306 39 s1).bind fun μ10 =>
  (pt μ10 306 40 ((μ10.1 306 40) + (1 : Int32))).bind fun μ11 =>
  (sh_X12_layWith n (μ11.1 306 39) μ11).bind fun r12 =>
  nm (r12.1) fun v13 =>
  nm ((if x1 < v13 then v13 else x1)) fun v14 =>
  k40 v14 v13 r12.2
def sh_X12_lay_40 (n : Nat) : Nat → Int32 → Int32 → Mm → Option Mm
  | 0, _, _, _ => none
  | f + 1, x1, x2, μ => if (8 : Int32) ≤ (μ.1 306 40) then
  sh_X12_lay_101 n x1 x2 μ
  else
  if x2 = (μ.1 306 39) then
  sh_X12_lay_101 n x1 x2 μ
  else
  if (μ.1 306 40) = (0 : Int32) then
  sh_X12_lay_70 n (fun (x1 : Int32) (x2 : Int32) (μ : Mm) => sh_X12_lay_40 n f x1 x2 μ) x1 (1 : Int32) μ
  else
  sh_X12_lay_70 n (fun (x1 : Int32) (x2 : Int32) (μ : Mm) => sh_X12_lay_40 n f x1 x2 μ) x1 x2 μ
def sh_X12_lay (n : Nat) (μ : Mm) : Option Mm :=
  (sh_X12_layLabels n  μ).bind fun r1 =>
  (pt r1 306 40 (0 : Int32)).bind fun μ2 =>
  (pt μ2 306 39 (0 : Int32)).bind fun μ3 =>
  (ld μ3 (μ3.2.2 0) (9 : Int32)).bind fun v5 =>
  if v5 = (0 : Int32) then
  (sh_X12_layWith n (0 : Int32) μ3).bind fun r15 =>
  some r15.2
  else
  (pt μ3 306 39 (1 : Int32)).bind fun μ6 =>
  sh_X12_lay_40 n n (0 : Int32) (0 : Int32) μ6
def sh_X12_count_26 (n : Nat) (a1 : Int32) : Nat → Int32 → Int32 → Mm → Option (Int32 × Mm)
  | 0, _, _, _ => none
  | f + 1, x2, x3, μ => (ld μ 307 (9 : Int32)).bind fun v4 =>
  if v4 ≤ x3 then
  if a1 = (0 : Int32) then
  (ld μ 307 (9 : Int32)).bind fun v5 =>
  some (v5, μ)
  else
  if a1 = (1 : Int32) then
  some (x2, μ)
  else
  if a1 = (2 : Int32) then
  some ((μ.1 306 36), μ)
  else
  if a1 = (3 : Int32) then
  some ((μ.1 306 39), μ)
  else
  if a1 = (4 : Int32) then
  some ((μ.1 306 24), μ)
  else
  if a1 = (5 : Int32) then
  some ((μ.1 306 23), μ)
  else
  if a1 = (6 : Int32) then
  some ((μ.1 306 37), μ)
  else
  some ((μ.1 306 38), μ)
  else
  (sh_X12_of x3 (2 : Int32) μ).bind fun r6 =>
  if r6 = (0 : Int32) then
  nm ((x2 + (1 : Int32))) fun v8 =>
  sh_X12_count_26 n a1 f v8 (x3 + (1 : Int32)) μ
  else
  nm ((x2 + (0 : Int32))) fun v7 =>
  sh_X12_count_26 n a1 f v7 (x3 + (1 : Int32)) μ
def sh_X12_count (n : Nat) (a1 : Int32) (μ : Mm) : Option (Int32 × Mm) :=
  (sh_X12_in a1.toInt64 (0 : Int64) (7 : Int64) μ).bind fun r1 =>
  (sh_X12_passes r1 μ).bind fun r2 =>
  if r2.1 = (0 : Int32) then
  some ((0 : Int32), r2.2)
  else
  (sh_X12_lay n  r2.2).bind fun r3 =>
  sh_X12_count_26 n a1 n (0 : Int32) (0 : Int32) r3
def sh_X12_setting (a1 : Int32) (μ : Mm) : Option (Int32 × Mm) :=
  (sh_X12_in a1.toInt64 (0 : Int64) (7 : Int64) μ).bind fun r1 =>
  (sh_X12_passes r1 μ).bind fun r2 =>
  if r2.1 = (0 : Int32) then
  some ((0 : Int32), r2.2)
  else
  (ld r2.2 307 a1).bind fun v3 =>
  some (v3, r2.2)
def sh_X12_isRight (μ : Mm) : Option (Int32 × Mm) :=
  (pt μ 306 0 (0 : Int32)).bind fun μ1 =>
  (ld μ1 307 (8 : Int32)).bind fun v2 =>
  if v2 = (1 : Int32) then
  some ((1 : Int32), μ1)
  else
  some ((0 : Int32), μ1)
def sh_X12_childrenOf_4 (n : Nat) (a1 : Int32) (μ : Mm) : Nat → Int32 → Int32 → Option Int32
  | 0, _, _ => none
  | f + 1, x2, x3 => (ld μ 307 (9 : Int32)).bind fun v1 =>
  if v1 ≤ x3 then
  some x2
  else
  (ld μ 311 x3).bind fun v2 =>
  if v2 = a1 then
  nm ((x2 + (1 : Int32))) fun v4 =>
  sh_X12_childrenOf_4 n a1 μ f v4 (x3 + (1 : Int32))
  else
  nm ((x2 + (0 : Int32))) fun v3 =>
  sh_X12_childrenOf_4 n a1 μ f v3 (x3 + (1 : Int32))
def sh_X12_childrenOf (n : Nat) (a1 : Int32) (μ : Mm) : Option Int32 :=
  sh_X12_childrenOf_4 n a1 μ n (0 : Int32) (0 : Int32)
def sh_X12_section (n : Nat) (a1 : Int32) (a2 : Int32) (μ : Mm) : Option (Int32 × Mm) :=
  (sh_X12_isSection a1 μ).bind fun r1 =>
  (sh_X12_in a2.toInt64 (0 : Int64) (6 : Int64) μ).bind fun r2 =>
  (sh_X12_passes2 r1 r2 μ).bind fun r3 =>
  if r3.1 = (0 : Int32) then
  some ((0 : Int32), r3.2)
  else
  if (4 : Int32) ≤ a2 then
  (sh_X12_layLabels n  r3.2).bind fun r4 =>
  if a2 = (4 : Int32) then
  (ld r4 311 a1).bind fun v7 =>
  some (v7, r4)
  else
  if a2 = (5 : Int32) then
  (sh_X12_childrenOf n a1 r4).bind fun r6 =>
  some (r6, r4)
  else
  (ld r4 312 a1).bind fun v5 =>
  some (v5, r4)
  else
  (sh_X12_of a1 a2 r3.2).bind fun r8 =>
  some (r8, r3.2)
def sh_X12_titleOf_11 (n : Nat) (a1 : Int32) : Nat → Int32 → Int32 → Mm → Option (Int32 × Mm)
  | 0, _, _, _ => none
  | f + 1, x2, x3, μ => (sh_X12_of a1 (3 : Int32) μ).bind fun r3 =>
  if r3 ≤ x3 then
  some (x2, μ)
  else
  (sh_X12_tokenWidth n a1 x3 μ).bind fun r4 =>
  nm ((x2 + r4.1)) fun v5 =>
  sh_X12_titleOf_11 n a1 f v5 (x3 + (1 : Int32)) r4.2
def sh_X12_titleOf (n : Nat) (a1 : Int32) (μ : Mm) : Option (Int32 × Mm) :=
  (sh_X12_of a1 (3 : Int32) μ).bind fun r1 =>
  nm ((r1 - (1 : Int32))) fun v2 =>
  sh_X12_titleOf_11 n a1 n v2 (0 : Int32) μ
def sh_X12_titleWidth (n : Nat) (a1 : Int32) (μ : Mm) : Option (Int32 × Mm) :=
  (sh_X12_layLabels n  μ).bind fun r1 =>
  (sh_X12_isSection a1 r1).bind fun r2 =>
  (sh_X12_passes r2 r1).bind fun r3 =>
  if r3.1 = (0 : Int32) then
  some ((0 : Int32), r3.2)
  else
  (sh_X12_titleOf n a1 r3.2).bind fun r4 =>
  some (r4.1, r4.2)
def sh_X12_asks (n : Nat) (a1 : Int32) (μ : Mm) : Option (Int32 × Mm) :=
  (sh_X12_isSection a1 μ).bind fun r1 =>
  (sh_X12_passes r1 μ).bind fun r2 =>
  if r2.1 = (0 : Int32) then
  some ((0 : Int32), r2.2)
  else
  (sh_X12_lay n  r2.2).bind fun r3 =>
  some ((1 : Int32), r3)
def sh_X12_page (n : Nat) (a1 : Int32) (μ : Mm) : Option (Int32 × Mm) :=
  (sh_X12_asks n a1 μ).bind fun r1 =>
  if r1.1 = (0 : Int32) then
  some ((0 : Int32), r1.2)
  else
  (ld r1.2 314 a1).bind fun v2 =>
  some (v2, r1.2)
def sh_X12_bookPage (n : Nat) (a1 : Int32) (μ : Mm) : Option (Int32 × Mm) :=
  (sh_X12_asks n a1 μ).bind fun r1 =>
  if r1.1 = (0 : Int32) then
  some ((0 : Int32), r1.2)
  else
  (sh_X12_bookPageOf a1 r1.2).bind fun r2 =>
  some (r2, r1.2)
def sh_X12_lineOnPage (n : Nat) (a1 : Int32) (μ : Mm) : Option (Int32 × Mm) :=
  (sh_X12_asks n a1 μ).bind fun r1 =>
  if r1.1 = (0 : Int32) then
  some ((0 : Int32), r1.2)
  else
  (ld r1.2 315 a1).bind fun v2 =>
  some (v2, r1.2)
def sh_X12_numberWidth (n : Nat) (a1 : Int32) (μ : Mm) : Option (Int32 × Mm) :=
  (sh_X12_asks n a1 μ).bind fun r1 =>
  if r1.1 = (0 : Int32) then
  some ((0 : Int32), r1.2)
  else
  (sh_X12_printedWidth n a1 r1.2).bind fun r2 =>
  some (r2.1, r2.2)
def sh_X12_findPage_22 (n : Nat) (a1 : Int32) (a2 : Int32) : Nat → Int32 → Mm → Option (Int32 × Mm)
  | 0, _, _ => none
  | f + 1, x3, μ => (ld μ 307 (9 : Int32)).bind fun v4 =>
  if v4 ≤ x3 then
  some ((-1 : Int32), μ)
  else
  (sh_X12_of x3 (2 : Int32) μ).bind fun r5 =>
  if r5 = a1 then
  (ld μ 314 x3).bind fun v6 =>
  if v6 = a2 then
  some (x3, μ)
  else
  sh_X12_findPage_22 n a1 a2 f (x3 + (1 : Int32)) μ
  else
  sh_X12_findPage_22 n a1 a2 f (x3 + (1 : Int32)) μ
def sh_X12_findPage (n : Nat) (a1 : Int32) (a2 : Int32) (μ : Mm) : Option (Int32 × Mm) :=
  (sh_X12_in a1.toInt64 (0 : Int64) (1 : Int64) μ).bind fun r1 =>
  (sh_X12_passes r1 μ).bind fun r2 =>
  if r2.1 = (0 : Int32) then
  some ((0 : Int32), r2.2)
  else
  (sh_X12_lay n  r2.2).bind fun r3 =>
  sh_X12_findPage_22 n a1 a2 n (0 : Int32) r3
def sh_X12_sectionAt_28 (n : Nat) (a1 : Int32) : Nat → Int32 → Int32 → Mm → Option (Int32 × Mm)
  | 0, _, _, _ => none
  | f + 1, x2, x3, μ => (ld μ 307 (9 : Int32)).bind fun v4 =>
  if v4 ≤ x3 then
  some (x2, μ)
  else
  (sh_X12_bookPageOf x3 μ).bind fun r5 =>
  if a1 < r5 then
  sh_X12_sectionAt_28 n a1 f x2 (x3 + (1 : Int32)) μ
  else
  sh_X12_sectionAt_28 n a1 f x3 (x3 + (1 : Int32)) μ
def sh_X12_sectionAt (n : Nat) (a1 : Int32) (μ : Mm) : Option (Int32 × Mm) :=
  (sh_X12_lay n  μ).bind fun r1 =>
  (sh_X12_in a1.toInt64 (1 : Int64) ((r1.1 306 24).toInt64) r1).bind fun r2 =>
  (sh_X12_passes r2 r1).bind fun r3 =>
  if r3.1 = (0 : Int32) then
  some ((0 : Int32), r3.2)
  else
  sh_X12_sectionAt_28 n a1 n (-1 : Int32) (0 : Int32) r3.2
def sh_X12_linesOf (a1 : Int32) (μ : Mm) : Option Int32 :=
  (ld μ 307 (9 : Int32)).bind fun v1 =>
  if v1 ≤ (a1 + (1 : Int32)) then
  (ld μ 324 a1).bind fun v2 =>
  some ((μ.1 306 36) - v2)
  else
  (ld μ 324 (a1 + (1 : Int32))).bind fun v3 =>
  (ld μ 324 a1).bind fun v4 =>
  some (v3 - v4)
def sh_X12_firstLine (n : Nat) (a1 : Int32) (μ : Mm) : Option (Int32 × Mm) :=
  (sh_X12_asks n a1 μ).bind fun r1 =>
  if r1.1 = (0 : Int32) then
  some ((0 : Int32), r1.2)
  else
  (ld r1.2 324 a1).bind fun v2 =>
  some (v2, r1.2)
def sh_X12_lineCount (n : Nat) (a1 : Int32) (μ : Mm) : Option (Int32 × Mm) :=
  (sh_X12_asks n a1 μ).bind fun r1 =>
  if r1.1 = (0 : Int32) then
  some ((0 : Int32), r1.2)
  else
  (sh_X12_linesOf a1 r1.2).bind fun r2 =>
  some (r2, r1.2)
def sh_X12_isLine (n : Nat) (a1 : Int32) (μ : Mm) : Option (Int32 × Mm) :=
  (sh_X12_lay n  μ).bind fun r1 =>
  (sh_X12_in a1.toInt64 (0 : Int64) (((r1.1 306 36) - (1 : Int32)).toInt64) r1).bind fun r2 =>
  (isB r2).bind fun v3 =>
  some (v3, r1)
def sh_X12_line (n : Nat) (a1 : Int32) (a2 : Int32) (μ : Mm) : Option (Int32 × Mm) :=
  (sh_X12_isLine n a1 μ).bind fun r1 =>
  (sh_X12_in a2.toInt64 (0 : Int64) (4 : Int64) r1.2).bind fun r2 =>
  (sh_X12_passes2 r1.1 r2 r1.2).bind fun r3 =>
  if r3.1 = (0 : Int32) then
  some ((0 : Int32), r3.2)
  else
  if a2 = (0 : Int32) then
  (ld r3.2 316 a1).bind fun v4 =>
  some (v4, r3.2)
  else
  if a2 = (1 : Int32) then
  (ld r3.2 317 a1).bind fun v5 =>
  some (v5, r3.2)
  else
  if a2 = (2 : Int32) then
  (ld r3.2 320 a1).bind fun v6 =>
  some (v6, r3.2)
  else
  if a2 = (3 : Int32) then
  (ld r3.2 319 a1).bind fun v7 =>
  some (v7, r3.2)
  else
  (ld r3.2 307 (1 : Int32)).bind fun v8 =>
  (dv a1 v8).bind fun v9 =>
  some ((v9 + (1 : Int32)), r3.2)
def sh_X12_dotCount_26 (n : Nat) (a1 : Int32) (s1 : Int32) (s2 : Int32) (μ : Mm) : Option (Int32 × Mm) :=
  (sh_X12_passes2 s1 s2 μ).bind fun r3 =>
  if r3.1 = (0 : Int32) then
  some ((0 : Int32), r3.2)
  else
  (ld r3.2 322 a1).bind fun v4 =>
  some (v4, r3.2)
def sh_X12_dotCount_21 (n : Nat) (a1 : Int32) (s1 : Int32) (μ : Mm) : Option (Int32 × Mm) :=
  sh_X12_dotCount_26 n a1 s1 (1 : Int32) μ
def sh_X12_dotCount (n : Nat) (a1 : Int32) (μ : Mm) : Option (Int32 × Mm) :=
  (sh_X12_isLine n a1 μ).bind fun r1 =>
  nm (r1.1) fun v2 =>
  if v2 = (0 : Int32) then
  sh_X12_dotCount_21 n a1 v2 r1.2
  else
  (ld r1.2 321 a1).bind fun v5 =>
  if v5 = (0 : Int32) then
  sh_X12_dotCount_26 n a1 v2 (0 : Int32) r1.2
  else
  sh_X12_dotCount_21 n a1 v2 r1.2
def sh_X12_firstDot_26 (n : Nat) (a1 : Int32) (s1 : Int32) (s2 : Int32) (μ : Mm) : Option (Int32 × Mm) :=
  (sh_X12_passes2 s1 s2 μ).bind fun r3 =>
  if r3.1 = (0 : Int32) then
  some ((0 : Int32), r3.2)
  else
  (ld r3.2 323 a1).bind fun v4 =>
  some (v4, r3.2)
def sh_X12_firstDot_21 (n : Nat) (a1 : Int32) (s1 : Int32) (μ : Mm) : Option (Int32 × Mm) :=
  sh_X12_firstDot_26 n a1 s1 (1 : Int32) μ
def sh_X12_firstDot (n : Nat) (a1 : Int32) (μ : Mm) : Option (Int32 × Mm) :=
  (sh_X12_isLine n a1 μ).bind fun r1 =>
  nm (r1.1) fun v2 =>
  if v2 = (0 : Int32) then
  sh_X12_firstDot_21 n a1 v2 r1.2
  else
  (ld r1.2 321 a1).bind fun v5 =>
  if v5 = (0 : Int32) then
  sh_X12_firstDot_26 n a1 v2 (0 : Int32) r1.2
  else
  sh_X12_firstDot_21 n a1 v2 r1.2
def sh_X12_dotsAt_70 (n : Nat) (a1 : Int32) (k26 : (Int32 → Int32 → Mm → Option (Int32 × Mm))) (x2 : Int32) (x3 : Int32) (s0 : Int32) (μ : Mm) : Option (Int32 × Mm) :=
  if s0 = (0 : Int32) then
  nm ((x2 + (0 : Int32))) fun v4 =>
  k26 v4 (x3 + (1 : Int32)) μ
  else
  (ld μ 323 x3).bind fun v5 =>
  (ld μ 307 (7 : Int32)).bind fun v6 =>
  (dv (a1 - v5) v6).bind fun v7 =>
  (ld μ 322 x3).bind fun v8 =>
  if v8 ≤ v7 then
  nm ((x2 + (0 : Int32))) fun v9 =>
  k26 v9 (x3 + (1 : Int32)) μ
  else
  nm ((x2 + (1 : Int32))) fun v10 =>
  k26 v10 (x3 + (1 : Int32)) μ
def sh_X12_dotsAt_69 (n : Nat) (a1 : Int32) (k26 : (Int32 → Int32 → Mm → Option (Int32 × Mm))) (x2 : Int32) (x3 : Int32) (μ : Mm) : Option (Int32 × Mm) :=
  sh_X12_dotsAt_70 n a1 k26 x2 x3 (0 : Int32) μ
def sh_X12_dotsAt_26 (n : Nat) (a1 : Int32) : Nat → Int32 → Int32 → Mm → Option (Int32 × Mm)
  | 0, _, _, _ => none
  | f + 1, x2, x3, μ => if (μ.1 306 36) ≤ x3 then
  some (x2, μ)
  else
  (ld μ 322 x3).bind fun v3 =>
  if v3 ≤ (0 : Int32) then
  sh_X12_dotsAt_69 n a1 (fun (x2 : Int32) (x3 : Int32) (μ : Mm) => sh_X12_dotsAt_26 n a1 f x2 x3 μ) x2 x3 μ
  else
  (ld μ 323 x3).bind fun v11 =>
  if a1 < v11 then
  sh_X12_dotsAt_69 n a1 (fun (x2 : Int32) (x3 : Int32) (μ : Mm) => sh_X12_dotsAt_26 n a1 f x2 x3 μ) x2 x3 μ
  else
  (ld μ 307 (7 : Int32)).bind fun v12 =>
  (rm a1 v12).bind fun v13 =>
  if v13 = (0 : Int32) then
  sh_X12_dotsAt_70 n a1 (fun (x2 : Int32) (x3 : Int32) (μ : Mm) => sh_X12_dotsAt_26 n a1 f x2 x3 μ) x2 x3 (1 : Int32) μ
  else
  sh_X12_dotsAt_69 n a1 (fun (x2 : Int32) (x3 : Int32) (μ : Mm) => sh_X12_dotsAt_26 n a1 f x2 x3 μ) x2 x3 μ
def sh_X12_dotsAt_10 (n : Nat) (a1 : Int32) (s1 : Int32) (μ : Mm) : Option (Int32 × Mm) :=
  (sh_X12_passes s1 μ).bind fun r1 =>
  if r1.1 = (0 : Int32) then
  some ((0 : Int32), r1.2)
  else
  (sh_X12_lay n  r1.2).bind fun r2 =>
  sh_X12_dotsAt_26 n a1 n (0 : Int32) (0 : Int32) r2
def sh_X12_dotsAt (n : Nat) (a1 : Int32) (μ : Mm) : Option (Int32 × Mm) :=
  if a1 < (0 : Int32) then
  sh_X12_dotsAt_10 n a1 (0 : Int32) μ
  else
  sh_X12_dotsAt_10 n a1 (1 : Int32) μ
def sh_X12_isOverfull (n : Nat) (a1 : Int32) (μ : Mm) : Option (Int32 × Mm) :=
  (sh_X12_isLine n a1 μ).bind fun r1 =>
  (sh_X12_passes r1.1 r1.2).bind fun r2 =>
  if r2.1 = (0 : Int32) then
  some ((0 : Int32), r2.2)
  else
  (ld r2.2 320 a1).bind fun v3 =>
  if v3 ≤ (r2.2.1 306 38) then
  some ((0 : Int32), r2.2)
  else
  some ((1 : Int32), r2.2)
def sh_X12_overfulls_4 (n : Nat) (μ : Mm) : Nat → Int32 → Int32 → Option Int32
  | 0, _, _ => none
  | f + 1, x1, x2 => if (μ.1 306 36) ≤ x2 then
  some x1
  else
  (ld μ 320 x2).bind fun v1 =>
  if v1 ≤ (μ.1 306 38) then
  nm ((x1 + (0 : Int32))) fun v2 =>
  sh_X12_overfulls_4 n μ f v2 (x2 + (1 : Int32))
  else
  nm ((x1 + (1 : Int32))) fun v3 =>
  sh_X12_overfulls_4 n μ f v3 (x2 + (1 : Int32))
def sh_X12_overfulls (n : Nat) (μ : Mm) : Option Int32 :=
  sh_X12_overfulls_4 n μ n (0 : Int32) (0 : Int32)
def sh_X12_overfullCount (n : Nat) (μ : Mm) : Option (Int32 × Mm) :=
  (pt μ 306 0 (0 : Int32)).bind fun μ1 =>
  (sh_X12_lay n  μ1).bind fun r2 =>
  (sh_X12_overfulls n  r2).bind fun r3 =>
  some (r3, r2)
def sh_X12_rounds (n : Nat) (μ : Mm) : Option (Int32 × Mm) :=
  (pt μ 306 0 (0 : Int32)).bind fun μ1 =>
  (sh_X12_lay n  μ1).bind fun r2 =>
  some ((r2.1 306 40), r2)
def sh_X12_layFigures_132 (n : Nat) (a1 : Int32) (a2 : Nat) (a3 : Int32) (k47 : (Int32 → Int32 → Mm → Option Mm)) : Nat → Int32 → Int32 → Int32 → Int32 → Int32 → Mm → Option Mm
  | 0, _, _, _, _, _, _ => none
  | f + 1, x4, x5, x6, x7, x8, μ => (sh_X12_widthOf x6 μ).bind fun r6 =>
  if r6 ≤ x8 then
  k47 x4 (x5 + (-1 : Int32)) μ
  else
  if x7 = (0 : Int32) then
  (st μ a2 x4 (0 : Int32)).bind fun μ7 =>
  sh_X12_layFigures_132 n a1 a2 a3 k47 f (x4 + (1 : Int32)) x5 x6 x7 (x8 + (1 : Int32)) μ7
  else
  (st μ a2 x4 (1 : Int32)).bind fun μ8 =>
  sh_X12_layFigures_132 n a1 a2 a3 k47 f (x4 + (1 : Int32)) x5 x6 x7 (x8 + (1 : Int32)) μ8
def sh_X12_layFigures_47 (n : Nat) (a1 : Int32) (a2 : Nat) (a3 : Int32) : Nat → Int32 → Int32 → Mm → Option Mm
  | 0, _, _, _ => none
  | f + 1, x4, x5, μ => if x5 < (0 : Int32) then
  some μ
  else
  (ld μ 310 x5).bind fun v5 =>
  if a3 = (0 : Int32) then
  if v5 = (51 : Int32) then
  sh_X12_layFigures_132 n a1 a2 a3 (fun (x4 : Int32) (x5 : Int32) (μ : Mm) => sh_X12_layFigures_47 n a1 a2 a3 f x4 x5 μ) n x4 x5 v5 (1 : Int32) (0 : Int32) μ
  else
  if v5 = (52 : Int32) then
  sh_X12_layFigures_132 n a1 a2 a3 (fun (x4 : Int32) (x5 : Int32) (μ : Mm) => sh_X12_layFigures_47 n a1 a2 a3 f x4 x5 μ) n x4 x5 v5 (1 : Int32) (0 : Int32) μ
  else
  if v5 = (53 : Int32) then
  sh_X12_layFigures_132 n a1 a2 a3 (fun (x4 : Int32) (x5 : Int32) (μ : Mm) => sh_X12_layFigures_47 n a1 a2 a3 f x4 x5 μ) n x4 x5 v5 (1 : Int32) (0 : Int32) μ
  else
  if v5 = (55 : Int32) then
  sh_X12_layFigures_132 n a1 a2 a3 (fun (x4 : Int32) (x5 : Int32) (μ : Mm) => sh_X12_layFigures_47 n a1 a2 a3 f x4 x5 μ) n x4 x5 v5 (1 : Int32) (0 : Int32) μ
  else
  if v5 = (57 : Int32) then
  sh_X12_layFigures_132 n a1 a2 a3 (fun (x4 : Int32) (x5 : Int32) (μ : Mm) => sh_X12_layFigures_47 n a1 a2 a3 f x4 x5 μ) n x4 x5 v5 (1 : Int32) (0 : Int32) μ
  else
  sh_X12_layFigures_132 n a1 a2 a3 (fun (x4 : Int32) (x5 : Int32) (μ : Mm) => sh_X12_layFigures_47 n a1 a2 a3 f x4 x5 μ) n x4 x5 v5 (0 : Int32) (0 : Int32) μ
  else
  if v5 = (54 : Int32) then
  sh_X12_layFigures_132 n a1 a2 a3 (fun (x4 : Int32) (x5 : Int32) (μ : Mm) => sh_X12_layFigures_47 n a1 a2 a3 f x4 x5 μ) n x4 x5 v5 (1 : Int32) (0 : Int32) μ
  else
  if v5 = (56 : Int32) then
  sh_X12_layFigures_132 n a1 a2 a3 (fun (x4 : Int32) (x5 : Int32) (μ : Mm) => sh_X12_layFigures_47 n a1 a2 a3 f x4 x5 μ) n x4 x5 v5 (1 : Int32) (0 : Int32) μ
  else
  sh_X12_layFigures_132 n a1 a2 a3 (fun (x4 : Int32) (x5 : Int32) (μ : Mm) => sh_X12_layFigures_47 n a1 a2 a3 f x4 x5 μ) n x4 x5 v5 (0 : Int32) (0 : Int32) μ
def sh_X12_layFigures_3 (n : Nat) (a1 : Int32) (a2 : Nat) (a3 : Int32) : Nat → Int32 → Mm → Option Mm
  | 0, _, _ => none
  | f + 1, x4, μ => if (32 : Int32) ≤ x4 then
  (pt μ 306 17 (0 : Int32)).bind fun μ1 =>
  (ld μ1 314 a1).bind fun v2 =>
  (sh_X12_putNumber n v2 μ1).bind fun r3 =>
  nm (((r3.1 306 17) - (1 : Int32))) fun v4 =>
  sh_X12_layFigures_47 n a1 a2 a3 n (0 : Int32) v4 r3
  else
  (st μ a2 x4 (0 : Int32)).bind fun μ9 =>
  sh_X12_layFigures_3 n a1 a2 a3 f (x4 + (1 : Int32)) μ9
def sh_X12_layFigures (n : Nat) (a1 : Int32) (a2 : Nat) (a3 : Int32) (μ : Mm) : Option Mm :=
  sh_X12_layFigures_3 n a1 a2 a3 n (0 : Int32) μ
def sh_X12_collide_115 (n : Nat) (a1 : Int32) : Nat → Int32 → Int32 → Mm → Option (Int32 × Mm)
  | 0, _, _, _ => none
  | f + 1, x4, x5, μ => if (32 : Int32) ≤ x5 then
  (isB x4).bind fun v13 =>
  some (v13, μ)
  else
  if x4 = (0 : Int32) then
  (ld μ 326 x5).bind fun v14 =>
  (ld μ 325 x5).bind fun v15 =>
  if (v14 + v15) = (2 : Int32) then
  sh_X12_collide_115 n a1 f (1 : Int32) (x5 + (1 : Int32)) μ
  else
  sh_X12_collide_115 n a1 f (0 : Int32) (x5 + (1 : Int32)) μ
  else
  sh_X12_collide_115 n a1 f (1 : Int32) (x5 + (1 : Int32)) μ
def sh_X12_collide (n : Nat) (a1 : Int32) (μ : Mm) : Option (Int32 × Mm) :=
  if (μ.1 306 36) ≤ (a1 + (1 : Int32)) then
  some ((0 : Int32), μ)
  else
  (ld μ 307 (1 : Int32)).bind fun v1 =>
  (dv a1 v1).bind fun v2 =>
  (ld μ 307 (1 : Int32)).bind fun v3 =>
  (dv (a1 + (1 : Int32)) v3).bind fun v4 =>
  if v2 = v4 then
  (ld μ 321 a1).bind fun v5 =>
  if v5 = (0 : Int32) then
  some ((0 : Int32), μ)
  else
  (ld μ 321 (a1 + (1 : Int32))).bind fun v6 =>
  if v6 = (0 : Int32) then
  some ((0 : Int32), μ)
  else
  (ld μ 316 a1).bind fun v7 =>
  (ld μ 316 (a1 + (1 : Int32))).bind fun v8 =>
  (sh_X12_of v7 (2 : Int32) μ).bind fun r9 =>
  if r9 = (0 : Int32) then
  some ((0 : Int32), μ)
  else
  (sh_X12_of v8 (2 : Int32) μ).bind fun r10 =>
  if r10 = (0 : Int32) then
  some ((0 : Int32), μ)
  else
  (sh_X12_layFigures n v7 326 (0 : Int32) μ).bind fun r11 =>
  (sh_X12_layFigures n v8 325 (1 : Int32) r11).bind fun r12 =>
  sh_X12_collide_115 n a1 n (0 : Int32) (0 : Int32) r12
  else
  some ((0 : Int32), μ)
def sh_X12_collides (n : Nat) (a1 : Int32) (μ : Mm) : Option (Int32 × Mm) :=
  (sh_X12_isLine n a1 μ).bind fun r1 =>
  (sh_X12_passes r1.1 r1.2).bind fun r2 =>
  if r2.1 = (0 : Int32) then
  some ((0 : Int32), r2.2)
  else
  (sh_X12_collide n a1 r2.2).bind fun r3 =>
  if r3.1 = (0 : Int32) then
  some ((0 : Int32), r3.2)
  else
  some ((1 : Int32), r3.2)
def sh_X12_collisions_13 (n : Nat) : Nat → Int32 → Int32 → Mm → Option (Int32 × Mm)
  | 0, _, _, _ => none
  | f + 1, x1, x2, μ => if (μ.1 306 36) ≤ x2 then
  some (x1, μ)
  else
  (sh_X12_collide n x2 μ).bind fun r3 =>
  if r3.1 = (0 : Int32) then
  nm ((x1 + (0 : Int32))) fun v4 =>
  sh_X12_collisions_13 n f v4 (x2 + (1 : Int32)) r3.2
  else
  nm ((x1 + (1 : Int32))) fun v5 =>
  sh_X12_collisions_13 n f v5 (x2 + (1 : Int32)) r3.2
def sh_X12_collisions (n : Nat) (μ : Mm) : Option (Int32 × Mm) :=
  (pt μ 306 0 (0 : Int32)).bind fun μ1 =>
  (sh_X12_lay n  μ1).bind fun r2 =>
  sh_X12_collisions_13 n n (0 : Int32) (0 : Int32) r2
def sh_X12_compare_3 (n : Nat) (a1 : Int32) (a2 : Int32) (a3 : Int32) (a4 : Int32) (μ : Mm) : Nat → Int32 → Option Int32
  | 0, _ => none
  | f + 1, x5 => if (12 : Int32) ≤ x5 then
  some (0 : Int32)
  else
  (sh_X12_letterOf a1 a2 x5 μ).bind fun r1 =>
  (sh_X12_letterOf a3 a4 x5 μ).bind fun r2 =>
  if r1 = r2 then
  sh_X12_compare_3 n a1 a2 a3 a4 μ f (x5 + (1 : Int32))
  else
  (sh_X12_letterOf a1 a2 x5 μ).bind fun r3 =>
  (sh_X12_letterOf a3 a4 x5 μ).bind fun r4 =>
  some (r3 - r4)
def sh_X12_compare (n : Nat) (a1 : Int32) (a2 : Int32) (a3 : Int32) (a4 : Int32) (μ : Mm) : Option Int32 :=
  sh_X12_compare_3 n a1 a2 a3 a4 μ n (0 : Int32)
def sh_X12_compareTo (n : Nat) (a1 : Int32) (a2 : Int32) (a3 : Int32) (μ : Mm) : Option Int32 :=
  (ld μ 327 a3).bind fun v1 =>
  (dv v1 (8 : Int32)).bind fun v2 =>
  (ld μ 327 a3).bind fun v3 =>
  (rm v3 (8 : Int32)).bind fun v4 =>
  (sh_X12_compare n a1 a2 v2 v4 μ).bind fun r5 =>
  some r5
def sh_X12_layWord_51 (n : Nat) (a1 : Int32) (a2 : Int32) : Nat → Int32 → Int32 → Mm → Option Mm
  | 0, _, _, _ => none
  | f + 1, x3, x4, μ => if x4 ≤ x3 then
  (st μ 327 x3 (((8 : Int32) * a1) + a2)).bind fun μ2 =>
  (pt μ2 306 44 ((μ2.1 306 44) + (1 : Int32))).bind fun μ3 =>
  some μ3
  else
  (ld μ 327 (x4 - (1 : Int32))).bind fun v4 =>
  (st μ 327 x4 v4).bind fun μ5 =>
  sh_X12_layWord_51 n a1 a2 f x3 (x4 + (-1 : Int32)) μ5
def sh_X12_layWord_26 (n : Nat) (a1 : Int32) (a2 : Int32) (x3 : Int32) (μ : Mm) : Option Mm :=
  if (μ.1 306 44) ≤ x3 then
  nm ((μ.1 306 44)) fun v1 =>
  sh_X12_layWord_51 n a1 a2 n x3 v1 μ
  else
  (sh_X12_compareTo n a1 a2 x3 μ).bind fun r6 =>
  if r6 = (0 : Int32) then
  some μ
  else
  nm ((μ.1 306 44)) fun v7 =>
  sh_X12_layWord_51 n a1 a2 n x3 v7 μ
def sh_X12_layWord_2 (n : Nat) (a1 : Int32) (a2 : Int32) : Nat → Int32 → Mm → Option Mm
  | 0, _, _ => none
  | f + 1, x3, μ => if (μ.1 306 44) ≤ x3 then
  sh_X12_layWord_26 n a1 a2 x3 μ
  else
  (sh_X12_compareTo n a1 a2 x3 μ).bind fun r8 =>
  if r8 ≤ (0 : Int32) then
  sh_X12_layWord_26 n a1 a2 x3 μ
  else
  sh_X12_layWord_2 n a1 a2 f (x3 + (1 : Int32)) μ
def sh_X12_layWord (n : Nat) (a1 : Int32) (a2 : Int32) (μ : Mm) : Option Mm :=
  sh_X12_layWord_2 n a1 a2 n (0 : Int32) μ
def sh_X12_layWords_20 (n : Nat) (k7 : (Int32 → Mm → Option Mm)) : Nat → Int32 → Int32 → Mm → Option Mm
  | 0, _, _, _ => none
  | f + 1, x1, x2, μ => (sh_X12_of x1 (3 : Int32) μ).bind fun r3 =>
  if r3 ≤ x2 then
  k7 (x1 + (1 : Int32)) μ
  else
  (sh_X12_layWord n x1 x2 μ).bind fun r4 =>
  sh_X12_layWords_20 n k7 f x1 (x2 + (1 : Int32)) r4
def sh_X12_layWords_7 (n : Nat) : Nat → Int32 → Mm → Option Mm
  | 0, _, _ => none
  | f + 1, x1, μ => (ld μ 307 (9 : Int32)).bind fun v2 =>
  if v2 ≤ x1 then
  some μ
  else
  sh_X12_layWords_20 n (fun (x1 : Int32) (μ : Mm) => sh_X12_layWords_7 n f x1 μ) n x1 (0 : Int32) μ
def sh_X12_layWords (n : Nat) (μ : Mm) : Option Mm :=
  (pt μ 306 44 (0 : Int32)).bind fun μ1 =>
  sh_X12_layWords_7 n n (0 : Int32) μ1
def sh_X12_wordCount (n : Nat) (μ : Mm) : Option (Int32 × Mm) :=
  (pt μ 306 0 (0 : Int32)).bind fun μ1 =>
  (sh_X12_layWords n  μ1).bind fun r2 =>
  some ((r2.1 306 44), r2)
def sh_X12_wordSections_44 (n : Nat) (a1 : Int32) (k30 : (Int32 → Int32 → Mm → Option (Int32 × Mm))) : Nat → Int32 → Int32 → Int32 → Mm → Option (Int32 × Mm)
  | 0, _, _, _, _ => none
  | f + 1, x2, x3, x4, μ => (sh_X12_of x3 (3 : Int32) μ).bind fun r5 =>
  if r5 ≤ x4 then
  k30 x2 (x3 + (1 : Int32)) μ
  else
  (sh_X12_compareTo n x3 x4 a1 μ).bind fun r6 =>
  if r6 = (0 : Int32) then
  nm ((x2 ||| ((1 : Int32) <<< (x3 &&& 31)))) fun v7 =>
  sh_X12_wordSections_44 n a1 k30 f v7 x3 (x4 + (1 : Int32)) μ
  else
  sh_X12_wordSections_44 n a1 k30 f x2 x3 (x4 + (1 : Int32)) μ
def sh_X12_wordSections_30 (n : Nat) (a1 : Int32) : Nat → Int32 → Int32 → Mm → Option (Int32 × Mm)
  | 0, _, _, _ => none
  | f + 1, x2, x3, μ => (ld μ 307 (9 : Int32)).bind fun v4 =>
  if v4 ≤ x3 then
  some (x2, μ)
  else
  sh_X12_wordSections_44 n a1 (fun (x2 : Int32) (x3 : Int32) (μ : Mm) => sh_X12_wordSections_30 n a1 f x2 x3 μ) n x2 x3 (0 : Int32) μ
def sh_X12_wordSections (n : Nat) (a1 : Int32) (μ : Mm) : Option (Int32 × Mm) :=
  (sh_X12_layWords n  μ).bind fun r1 =>
  (sh_X12_in a1.toInt64 (0 : Int64) (((r1.1 306 44) - (1 : Int32)).toInt64) r1).bind fun r2 =>
  (sh_X12_passes r2 r1).bind fun r3 =>
  if r3.1 = (0 : Int32) then
  some ((0 : Int32), r3.2)
  else
  sh_X12_wordSections_30 n a1 n (0 : Int32) (0 : Int32) r3.2
def sh_X12_isInput_18 (n : Nat) (a1 : Int32) (a2 : Int32) (μ : Mm) : Nat → Int32 → Int32 → Option Int32
  | 0, _, _ => none
  | f + 1, x3, x4 => if (12 : Int32) ≤ x4 then
  (isB x3).bind fun v1 =>
  some v1
  else
  if x3 = (0 : Int32) then
  (isB x3).bind fun v2 =>
  some v2
  else
  if (μ.1 306 5) ≤ x4 then
  (sh_X12_letterOf a1 a2 x4 μ).bind fun r3 =>
  if r3 = (0 : Int32) then
  sh_X12_isInput_18 n a1 a2 μ f (1 : Int32) (x4 + (1 : Int32))
  else
  sh_X12_isInput_18 n a1 a2 μ f (0 : Int32) (x4 + (1 : Int32))
  else
  (ld μ 309 x4).bind fun v4 =>
  if v4 = (0 : Int32) then
  sh_X12_isInput_18 n a1 a2 μ f (0 : Int32) (x4 + (1 : Int32))
  else
  (sh_X12_letterOf a1 a2 x4 μ).bind fun r5 =>
  (ld μ 309 x4).bind fun v6 =>
  if r5 = v6 then
  sh_X12_isInput_18 n a1 a2 μ f (1 : Int32) (x4 + (1 : Int32))
  else
  sh_X12_isInput_18 n a1 a2 μ f (0 : Int32) (x4 + (1 : Int32))
def sh_X12_isInput (n : Nat) (a1 : Int32) (a2 : Int32) (μ : Mm) : Option Int32 :=
  if (12 : Int32) < (μ.1 306 5) then
  sh_X12_isInput_18 n a1 a2 μ n (0 : Int32) (0 : Int32)
  else
  sh_X12_isInput_18 n a1 a2 μ n (1 : Int32) (0 : Int32)
def sh_X12_findWord_13 (n : Nat) : Nat → Int32 → Int32 → Mm → Option (Int32 × Mm)
  | 0, _, _, _ => none
  | f + 1, x1, x2, μ => if (μ.1 306 44) ≤ x2 then
  (pt μ 306 5 (0 : Int32)).bind fun μ3 =>
  some (x1, μ3)
  else
  (ld μ 327 x2).bind fun v4 =>
  (dv v4 (8 : Int32)).bind fun v5 =>
  (ld μ 327 x2).bind fun v6 =>
  (rm v6 (8 : Int32)).bind fun v7 =>
  (sh_X12_isInput n v5 v7 μ).bind fun r8 =>
  if r8 = (0 : Int32) then
  sh_X12_findWord_13 n f x1 (x2 + (1 : Int32)) μ
  else
  sh_X12_findWord_13 n f x2 (x2 + (1 : Int32)) μ
def sh_X12_findWord (n : Nat) (μ : Mm) : Option (Int32 × Mm) :=
  (pt μ 306 0 (0 : Int32)).bind fun μ1 =>
  (sh_X12_layWords n  μ1).bind fun r2 =>
  sh_X12_findWord_13 n n (-1 : Int32) (0 : Int32) r2
def sh_X12_setLength (n : Nat) (a1 : Int32) (a2 : Int32) (μ : Mm) : Option (Int32 × Mm) :=
  (sh_X12_isSection a1 μ).bind fun r1 =>
  (sh_X12_in a2.toInt64 (0 : Int64) (500 : Int64) μ).bind fun r2 =>
  (sh_X12_passes2 r1 r2 μ).bind fun r3 =>
  if r3.1 = (0 : Int32) then
  some ((0 : Int32), r3.2)
  else
  (sh_X12_remember n  r3.2).bind fun r4 =>
  (sh_X12_of a1 (1 : Int32) r4).bind fun r5 =>
  (sh_X12_set a1 (1 : Int32) a2 r4).bind fun r6 =>
  some (r5, r6)
def sh_X12_areLevels_4 (n : Nat) (μ : Mm) : Nat → Int32 → Int32 → Option Int32
  | 0, _, _ => none
  | f + 1, x1, x2 => (ld μ 307 (9 : Int32)).bind fun v1 =>
  if v1 ≤ x2 then
  (isB x1).bind fun v2 =>
  some v2
  else
  if x1 = (0 : Int32) then
  sh_X12_areLevels_4 n μ f (0 : Int32) (x2 + (1 : Int32))
  else
  (sh_X12_of x2 (0 : Int32) μ).bind fun r3 =>
  (sh_X12_of x2 (2 : Int32) μ).bind fun r4 =>
  (sh_X12_levelBehind (x2 - (1 : Int32)) r4 μ).bind fun r5 =>
  if r5 < r3 then
  sh_X12_areLevels_4 n μ f (0 : Int32) (x2 + (1 : Int32))
  else
  sh_X12_areLevels_4 n μ f (1 : Int32) (x2 + (1 : Int32))
def sh_X12_areLevels (n : Nat) (μ : Mm) : Option Int32 :=
  sh_X12_areLevels_4 n μ n (1 : Int32) (0 : Int32)
def sh_X12_setLevel_70 (n : Nat) (a1 : Int32) (a2 : Int32) (x3 : Int32) (x4 : Int32) (μ : Mm) : Option (Int32 × Mm) :=
  (sh_X12_isSection a1 μ).bind fun r3 =>
  (sh_X12_passes2 r3 x3 μ).bind fun r4 =>
  if r4.1 = (0 : Int32) then
  some ((0 : Int32), r4.2)
  else
  (sh_X12_remember n  r4.2).bind fun r5 =>
  (sh_X12_set a1 (0 : Int32) a2 r5).bind fun r6 =>
  some (x4, r6)
def sh_X12_setLevel_44 (n : Nat) (a1 : Int32) (a2 : Int32) (x3 : Int32) (s0 : Int32) (μ : Mm) : Option (Int32 × Mm) :=
  if x3 = (0 : Int32) then
  sh_X12_setLevel_70 n a1 a2 x3 s0 μ
  else
  (sh_X12_set a1 (0 : Int32) a2 μ).bind fun r7 =>
  (sh_X12_areLevels n  r7).bind fun r8 =>
  (sh_X12_set a1 (0 : Int32) s0 r7).bind fun r9 =>
  sh_X12_setLevel_70 n a1 a2 r8 s0 r9
def sh_X12_setLevel_25 (n : Nat) (a1 : Int32) (a2 : Int32) (s0 : Int32) (μ : Mm) : Option (Int32 × Mm) :=
  (sh_X12_isSection a1 μ).bind fun r2 =>
  if r2 = (0 : Int32) then
  sh_X12_setLevel_44 n a1 a2 s0 (0 : Int32) μ
  else
  (sh_X12_of a1 (0 : Int32) μ).bind fun r10 =>
  sh_X12_setLevel_44 n a1 a2 s0 r10 μ
def sh_X12_setLevel_24 (n : Nat) (a1 : Int32) (a2 : Int32) (μ : Mm) : Option (Int32 × Mm) :=
  sh_X12_setLevel_25 n a1 a2 (0 : Int32) μ
def sh_X12_setLevel (n : Nat) (a1 : Int32) (a2 : Int32) (μ : Mm) : Option (Int32 × Mm) :=
  (sh_X12_isSection a1 μ).bind fun r1 =>
  if r1 = (0 : Int32) then
  sh_X12_setLevel_24 n a1 a2 μ
  else
  (sh_X12_in a2.toInt64 (1 : Int64) (4 : Int64) μ).bind fun r11 =>
  if r11 = (0 : Int32) then
  sh_X12_setLevel_24 n a1 a2 μ
  else
  sh_X12_setLevel_25 n a1 a2 (1 : Int32) μ
def sh_X12_isTitle_76 (n : Nat) (x1 : Int32) (x2 : Int32) (μ : Mm) : Option (Int32 × Mm) :=
  if x2 = (0 : Int32) then
  some ((0 : Int32), μ)
  else
  if x1 ≤ (0 : Int32) then
  some ((0 : Int32), μ)
  else
  some ((1 : Int32), μ)
def sh_X12_isTitle_65 (n : Nat) (k21 : (Int32 → Int32 → Mm → Option (Int32 × Mm))) (x1 : Int32) (s0 : Int32) (μ : Mm) : Option (Int32 × Mm) :=
  (sh_X12_scan n  μ).bind fun r4 =>
  k21 (x1 + (1 : Int32)) s0 r4
def sh_X12_isTitle_64 (n : Nat) (k21 : (Int32 → Int32 → Mm → Option (Int32 × Mm))) (x1 : Int32) (μ : Mm) : Option (Int32 × Mm) :=
  sh_X12_isTitle_65 n k21 x1 (0 : Int32) μ
def sh_X12_isTitle_21 (n : Nat) : Nat → Int32 → Int32 → Mm → Option (Int32 × Mm)
  | 0, _, _, _ => none
  | f + 1, x1, x2, μ => if x2 = (0 : Int32) then
  sh_X12_isTitle_76 n x1 x2 μ
  else
  if (μ.1 306 9) = (0 : Int32) then
  sh_X12_isTitle_76 n x1 x2 μ
  else
  if (μ.1 306 9) = (1 : Int32) then
  if (12 : Int32) < ((μ.1 306 7) - (μ.1 306 8)) then
  sh_X12_isTitle_64 n (fun (x1 : Int32) (x2 : Int32) (μ : Mm) => sh_X12_isTitle_21 n f x1 x2 μ) x1 μ
  else
  if (8 : Int32) ≤ x1 then
  sh_X12_isTitle_64 n (fun (x1 : Int32) (x2 : Int32) (μ : Mm) => sh_X12_isTitle_21 n f x1 x2 μ) x1 μ
  else
  sh_X12_isTitle_65 n (fun (x1 : Int32) (x2 : Int32) (μ : Mm) => sh_X12_isTitle_21 n f x1 x2 μ) x1 (1 : Int32) μ
  else
  sh_X12_isTitle_64 n (fun (x1 : Int32) (x2 : Int32) (μ : Mm) => sh_X12_isTitle_21 n f x1 x2 μ) x1 μ
def sh_X12_isTitle (n : Nat) (μ : Mm) : Option (Int32 × Mm) :=
  (pt μ 306 6 (μ.1 306 5)).bind fun μ1 =>
  (pt μ1 306 7 (0 : Int32)).bind fun μ2 =>
  (sh_X12_scan n  μ2).bind fun r3 =>
  sh_X12_isTitle_21 n n (0 : Int32) (1 : Int32) r3
def sh_X12_takeTitle_24 (n : Nat) (a1 : Int32) : Nat → Mm → Option Mm
  | 0, _ => none
  | f + 1, μ => if (μ.1 306 9) = (0 : Int32) then
  (pt μ 306 5 (0 : Int32)).bind fun μ5 =>
  some μ5
  else
  (sh_X12_keepWord n a1 μ).bind fun r6 =>
  (sh_X12_scan n  r6).bind fun r7 =>
  sh_X12_takeTitle_24 n a1 f  r7
def sh_X12_takeTitle (n : Nat) (a1 : Int32) (μ : Mm) : Option Mm :=
  (pt μ 306 6 (μ.1 306 5)).bind fun μ1 =>
  (pt μ1 306 7 (0 : Int32)).bind fun μ2 =>
  (sh_X12_set a1 (3 : Int32) (0 : Int32) μ2).bind fun r3 =>
  (sh_X12_scan n  r3).bind fun r4 =>
  sh_X12_takeTitle_24 n a1 n r4
def sh_X12_setTitle (n : Nat) (a1 : Int32) (μ : Mm) : Option (Int32 × Mm) :=
  (sh_X12_isSection a1 μ).bind fun r1 =>
  (sh_X12_isTitle n  μ).bind fun r2 =>
  (sh_X12_passes2 r1 r2.1 r2.2).bind fun r3 =>
  if r3.1 = (0 : Int32) then
  some ((0 : Int32), r3.2)
  else
  (sh_X12_remember n  r3.2).bind fun r4 =>
  (sh_X12_of a1 (3 : Int32) r4).bind fun r5 =>
  (sh_X12_takeTitle n a1 r4).bind fun r6 =>
  some (r5, r6)
def sh_X12_moveSections_105 (n : Nat) (a1 : Int32) (a2 : Int32) (μ : Mm) : Option Mm :=
  (ld μ 307 (9 : Int32)).bind fun v3 =>
  (st μ 307 (9 : Int32) (v3 + a2)).bind fun μ4 =>
  some μ4
def sh_X12_moveSections_62 (n : Nat) (a1 : Int32) (a2 : Int32) : Nat → Int32 → Mm → Option Mm
  | 0, _, _ => none
  | f + 1, x3, μ => (ld μ 307 (9 : Int32)).bind fun v2 =>
  if ((102 : Int32) * v2) ≤ x3 then
  sh_X12_moveSections_105 n a1 a2 μ
  else
  (ld μ 307 ((12 : Int32) + x3)).bind fun v5 =>
  (st μ 307 (((12 : Int32) + x3) + ((102 : Int32) * a2)) v5).bind fun μ6 =>
  sh_X12_moveSections_62 n a1 a2 f (x3 + (1 : Int32)) μ6
def sh_X12_moveSections_17 (n : Nat) (a1 : Int32) (a2 : Int32) : Nat → Int32 → Mm → Option Mm
  | 0, _, _ => none
  | f + 1, x3, μ => if x3 < ((102 : Int32) * a1) then
  sh_X12_moveSections_105 n a1 a2 μ
  else
  (ld μ 307 ((12 : Int32) + x3)).bind fun v9 =>
  (st μ 307 (((12 : Int32) + x3) + ((102 : Int32) * a2)) v9).bind fun μ10 =>
  sh_X12_moveSections_17 n a1 a2 f (x3 + (-1 : Int32)) μ10
def sh_X12_moveSections (n : Nat) (a1 : Int32) (a2 : Int32) (μ : Mm) : Option Mm :=
  if a2 ≤ (0 : Int32) then
  nm (((102 : Int32) * a1)) fun v1 =>
  sh_X12_moveSections_62 n a1 a2 n v1 μ
  else
  (ld μ 307 (9 : Int32)).bind fun v7 =>
  nm ((((102 : Int32) * v7) - (1 : Int32))) fun v8 =>
  sh_X12_moveSections_17 n a1 a2 n v8 μ
def sh_X12_partFor (a1 : Int32) (μ : Mm) : Option Int32 :=
  (ld μ 307 (9 : Int32)).bind fun v1 =>
  if v1 = (0 : Int32) then
  some (0 : Int32)
  else
  (ld μ 307 (9 : Int32)).bind fun v2 =>
  (sh_X12_of (if (v2 - (1 : Int32)) < a1 then (v2 - (1 : Int32)) else a1) (2 : Int32) μ).bind fun r3 =>
  some r3
def sh_X12_canBeAt (a1 : Int32) (a2 : Int32) (μ : Mm) : Option Int32 :=
  (sh_X12_partFor a1 μ).bind fun r1 =>
  (sh_X12_levelBehind (a1 - (1 : Int32)) r1 μ).bind fun r2 =>
  if a2 ≤ r2 then
  (ld μ 307 (9 : Int32)).bind fun v3 =>
  if a1 = v3 then
  some (1 : Int32)
  else
  (sh_X12_of a1 (2 : Int32) μ).bind fun r4 =>
  if r4 = r1 then
  (sh_X12_of a1 (0 : Int32) μ).bind fun r5 =>
  if (a2 + (1 : Int32)) < r5 then
  some (0 : Int32)
  else
  some (1 : Int32)
  else
  some (1 : Int32)
  else
  some (0 : Int32)
def sh_X12_insert_98 (n : Nat) (a1 : Int32) (a2 : Int32) (a3 : Int32) (s1 : Int32) (s2 : Int32) (s3 : Int32) (μ : Mm) : Option (Int32 × Mm) :=
  (sh_X12_passes3 s1 s2 s3 μ).bind fun r5 =>
  if r5.1 = (0 : Int32) then
  some ((0 : Int32), r5.2)
  else
  (sh_X12_remember n  r5.2).bind fun r6 =>
  (sh_X12_partFor a1 r6).bind fun r7 =>
  (sh_X12_moveSections n a1 (1 : Int32) r6).bind fun r8 =>
  (sh_X12_set a1 (0 : Int32) a2 r8).bind fun r9 =>
  (sh_X12_set a1 (1 : Int32) a3 r9).bind fun r10 =>
  (sh_X12_set a1 (2 : Int32) r7 r10).bind fun r11 =>
  (sh_X12_set a1 (4 : Int32) (-1 : Int32) r11).bind fun r12 =>
  (sh_X12_set a1 (5 : Int32) (0 : Int32) r12).bind fun r13 =>
  (sh_X12_takeTitle n a1 r13).bind fun r14 =>
  (ld r14 307 (9 : Int32)).bind fun v15 =>
  some (v15, r14)
def sh_X12_insert_81 (n : Nat) (a1 : Int32) (a2 : Int32) (a3 : Int32) (s1 : Int32) (s2 : Int32) (μ : Mm) : Option (Int32 × Mm) :=
  (ld μ 307 (9 : Int32)).bind fun v4 =>
  if (24 : Int32) ≤ v4 then
  sh_X12_insert_98 n a1 a2 a3 s1 s2 (0 : Int32) μ
  else
  sh_X12_insert_98 n a1 a2 a3 s1 s2 (1 : Int32) μ
def sh_X12_insert_80 (n : Nat) (a1 : Int32) (a2 : Int32) (a3 : Int32) (s1 : Int32) (μ : Mm) : Option (Int32 × Mm) :=
  sh_X12_insert_81 n a1 a2 a3 s1 (0 : Int32) μ
def sh_X12_insert_76 (n : Nat) (a1 : Int32) (a2 : Int32) (a3 : Int32) (s1 : Int32) (μ : Mm) : Option (Int32 × Mm) :=
  sh_X12_insert_81 n a1 a2 a3 s1 (1 : Int32) μ
def sh_X12_insert_52 (n : Nat) (a1 : Int32) (a2 : Int32) (a3 : Int32) (x4 : Int32) (s0 : Int32) (μ : Mm) : Option (Int32 × Mm) :=
  if s0 = (0 : Int32) then
  sh_X12_insert_80 n a1 a2 a3 x4 μ
  else
  if x4 = (0 : Int32) then
  sh_X12_insert_76 n a1 a2 a3 x4 μ
  else
  (sh_X12_canBeAt a1 a2 μ).bind fun r16 =>
  if r16 = (0 : Int32) then
  sh_X12_insert_80 n a1 a2 a3 x4 μ
  else
  sh_X12_insert_76 n a1 a2 a3 x4 μ
def sh_X12_insert_51 (n : Nat) (a1 : Int32) (a2 : Int32) (a3 : Int32) (x4 : Int32) (μ : Mm) : Option (Int32 × Mm) :=
  sh_X12_insert_52 n a1 a2 a3 x4 (0 : Int32) μ
def sh_X12_insert (n : Nat) (a1 : Int32) (a2 : Int32) (a3 : Int32) (μ : Mm) : Option (Int32 × Mm) :=
  (ld μ 307 (9 : Int32)).bind fun v1 =>
  (sh_X12_in a1.toInt64 (0 : Int64) v1.toInt64 μ).bind fun r2 =>
  (sh_X12_in a2.toInt64 (1 : Int64) (4 : Int64) μ).bind fun r3 =>
  if r3 = (0 : Int32) then
  sh_X12_insert_51 n a1 a2 a3 r2 μ
  else
  (sh_X12_in a3.toInt64 (0 : Int64) (500 : Int64) μ).bind fun r17 =>
  if r17 = (0 : Int32) then
  sh_X12_insert_51 n a1 a2 a3 r2 μ
  else
  (sh_X12_isTitle n  μ).bind fun r18 =>
  if r18.1 = (0 : Int32) then
  sh_X12_insert_51 n a1 a2 a3 r2 r18.2
  else
  sh_X12_insert_52 n a1 a2 a3 r2 (1 : Int32) r18.2
def sh_X12_remove_69 (n : Nat) (a1 : Int32) (x2 : Int32) (μ : Mm) : Option (Int32 × Mm) :=
  (sh_X12_moveSections n x2 (a1 - x2) μ).bind fun r6 =>
  some ((x2 - a1), r6)
def sh_X12_remove_22 (n : Nat) (a1 : Int32) : Nat → Int32 → Mm → Option (Int32 × Mm)
  | 0, _, _ => none
  | f + 1, x2, μ => (ld μ 307 (9 : Int32)).bind fun v5 =>
  if v5 ≤ x2 then
  sh_X12_remove_69 n a1 x2 μ
  else
  (sh_X12_of x2 (2 : Int32) μ).bind fun r7 =>
  (sh_X12_of a1 (2 : Int32) μ).bind fun r8 =>
  if r7 = r8 then
  (sh_X12_of x2 (0 : Int32) μ).bind fun r9 =>
  (sh_X12_of a1 (0 : Int32) μ).bind fun r10 =>
  if r9 ≤ r10 then
  sh_X12_remove_69 n a1 x2 μ
  else
  sh_X12_remove_22 n a1 f (x2 + (1 : Int32)) μ
  else
  sh_X12_remove_69 n a1 x2 μ
def sh_X12_remove (n : Nat) (a1 : Int32) (μ : Mm) : Option (Int32 × Mm) :=
  (sh_X12_isSection a1 μ).bind fun r1 =>
  (sh_X12_passes r1 μ).bind fun r2 =>
  if r2.1 = (0 : Int32) then
  some ((0 : Int32), r2.2)
  else
  (sh_X12_remember n  r2.2).bind fun r3 =>
  nm ((a1 + (1 : Int32))) fun v4 =>
  sh_X12_remove_22 n a1 n v4 r3
def sh_X12_change (n : Nat) (a1 : Int32) (a2 : Int32) (μ : Mm) : Option (Int32 × Mm) :=
  (sh_X12_remember n  μ).bind fun r1 =>
  (ld r1 307 a1).bind fun v2 =>
  (st r1 307 a1 a2).bind fun μ3 =>
  some (v2, μ3)
def sh_X12_setWidth (n : Nat) (a1 : Int32) (μ : Mm) : Option (Int32 × Mm) :=
  (sh_X12_in a1.toInt64 (20 : Int64) (120 : Int64) μ).bind fun r1 =>
  (sh_X12_passes r1 μ).bind fun r2 =>
  if r2.1 = (0 : Int32) then
  some ((0 : Int32), r2.2)
  else
  (sh_X12_change n (0 : Int32) a1 r2.2).bind fun r3 =>
  some (r3.1, r3.2)
def sh_X12_setGrid (n : Nat) (a1 : Int32) (μ : Mm) : Option (Int32 × Mm) :=
  (sh_X12_in a1.toInt64 (1 : Int64) (9 : Int64) μ).bind fun r1 =>
  (sh_X12_passes r1 μ).bind fun r2 =>
  if r2.1 = (0 : Int32) then
  some ((0 : Int32), r2.2)
  else
  (sh_X12_change n (7 : Int32) a1 r2.2).bind fun r3 =>
  some (r3.1, r3.2)
def sh_X12_setRight_17 (n : Nat) (a1 : Int32) (s1 : Int32) (s2 : Int32) (μ : Mm) : Option (Int32 × Mm) :=
  (sh_X12_change n s1 s2 μ).bind fun r2 =>
  if r2.1 = (1 : Int32) then
  some ((1 : Int32), r2.2)
  else
  some ((0 : Int32), r2.2)
def sh_X12_setRight (n : Nat) (a1 : Int32) (μ : Mm) : Option (Int32 × Mm) :=
  (pt μ 306 0 (0 : Int32)).bind fun μ1 =>
  if a1 = (0 : Int32) then
  sh_X12_setRight_17 n a1 (8 : Int32) (0 : Int32) μ1
  else
  sh_X12_setRight_17 n a1 (8 : Int32) (1 : Int32) μ1
def sh_X12_putLine_89 (n : Nat) (a1 : Int32) : Nat → Int32 → Int32 → Mm → Option Mm
  | 0, _, _, _ => none
  | f + 1, x2, x3, μ => (ld μ 322 a1).bind fun v7 =>
  if v7 ≤ x3 then
  (sh_X12_put (32 : Int32) μ).bind fun r8 =>
  (sh_X12_putPrinted n x2 r8).bind fun r9 =>
  (sh_X12_put (10 : Int32) r9).bind fun r10 =>
  some r10
  else
  (sh_X12_put (46 : Int32) μ).bind fun r11 =>
  sh_X12_putLine_89 n a1 f x2 (x3 + (1 : Int32)) r11
def sh_X12_putLine_53 (n : Nat) (a1 : Int32) (k33 : (Int32 → Int32 → Mm → Option Mm)) (x2 : Int32) (x3 : Int32) (μ : Mm) : Option Mm :=
  (ld μ 318 a1).bind fun v12 =>
  (sh_X12_putToken n x2 (v12 + x3) μ).bind fun r13 =>
  k33 x2 (x3 + (1 : Int32)) r13
def sh_X12_putLine_33 (n : Nat) (a1 : Int32) : Nat → Int32 → Int32 → Mm → Option Mm
  | 0, _, _, _ => none
  | f + 1, x2, x3, μ => (ld μ 319 a1).bind fun v3 =>
  if v3 ≤ x3 then
  (ld μ 321 a1).bind fun v4 =>
  if v4 = (0 : Int32) then
  (sh_X12_put (10 : Int32) μ).bind fun r5 =>
  some r5
  else
  (sh_X12_put (32 : Int32) μ).bind fun r6 =>
  sh_X12_putLine_89 n a1 n x2 (0 : Int32) r6
  else
  if x3 ≤ (0 : Int32) then
  sh_X12_putLine_53 n a1 (fun (x2 : Int32) (x3 : Int32) (μ : Mm) => sh_X12_putLine_33 n a1 f x2 x3 μ) x2 x3 μ
  else
  (sh_X12_put (32 : Int32) μ).bind fun r14 =>
  sh_X12_putLine_53 n a1 (fun (x2 : Int32) (x3 : Int32) (μ : Mm) => sh_X12_putLine_33 n a1 f x2 x3 μ) x2 x3 r14
def sh_X12_putLine_9 (n : Nat) (a1 : Int32) : Nat → Int32 → Int32 → Mm → Option Mm
  | 0, _, _, _ => none
  | f + 1, x2, x3, μ => (ld μ 317 a1).bind fun v2 =>
  if v2 ≤ x3 then
  sh_X12_putLine_33 n a1 n x2 (0 : Int32) μ
  else
  (sh_X12_put (32 : Int32) μ).bind fun r15 =>
  sh_X12_putLine_9 n a1 f x2 (x3 + (1 : Int32)) r15
def sh_X12_putLine (n : Nat) (a1 : Int32) (μ : Mm) : Option Mm :=
  (ld μ 316 a1).bind fun v1 =>
  sh_X12_putLine_9 n a1 n v1 (0 : Int32) μ
def sh_X12_isAs_52 (n : Nat) (a1 : Int32) (a2 : Int32) : Nat → Int32 → Int32 → Int32 → Mm → Option (Int32 × Mm)
  | 0, _, _, _, _ => none
  | f + 1, x3, x4, x5, μ => if (μ.1 306 17) ≤ x5 then
  (isB x4).bind fun v5 =>
  some (v5, μ)
  else
  if x4 = (0 : Int32) then
  (isB x4).bind fun v6 =>
  some (v6, μ)
  else
  (ld μ 307 (((2701 : Int32) + x3) + x5)).bind fun v7 =>
  (ld μ 310 x5).bind fun v8 =>
  if v7 = v8 then
  sh_X12_isAs_52 n a1 a2 f x3 (1 : Int32) (x5 + (1 : Int32)) μ
  else
  sh_X12_isAs_52 n a1 a2 f x3 (0 : Int32) (x5 + (1 : Int32)) μ
def sh_X12_isAs (n : Nat) (a1 : Int32) (a2 : Int32) (μ : Mm) : Option (Int32 × Mm) :=
  (pt μ 306 17 (0 : Int32)).bind fun μ1 =>
  (sh_X12_putLine n a1 μ1).bind fun r2 =>
  (ld r2 307 ((2460 : Int32) + a2)).bind fun v3 =>
  (ld r2 307 (((2460 : Int32) + a2) + (1 : Int32))).bind fun v4 =>
  if (v4 - v3) = (r2.1 306 17) then
  sh_X12_isAs_52 n a1 a2 n v3 (1 : Int32) (0 : Int32) r2
  else
  sh_X12_isAs_52 n a1 a2 n v3 (0 : Int32) (0 : Int32) r2
def sh_X12_mustBeRead_40 (n : Nat) (a1 : Int32) : Nat → Int32 → Int32 → Mm → Option (Int32 × Mm)
  | 0, _, _, _ => none
  | f + 1, x2, x3, μ => (sh_X12_linesOf a1 μ).bind fun r5 =>
  if r5 ≤ x3 then
  if x2 = (0 : Int32) then
  some ((1 : Int32), μ)
  else
  some ((0 : Int32), μ)
  else
  if x2 = (0 : Int32) then
  sh_X12_mustBeRead_40 n a1 f (0 : Int32) (x3 + (1 : Int32)) μ
  else
  (ld μ 324 a1).bind fun v6 =>
  (sh_X12_of a1 (4 : Int32) μ).bind fun r7 =>
  (sh_X12_isAs n (v6 + x3) (r7 + x3) μ).bind fun r8 =>
  if r8.1 = (0 : Int32) then
  sh_X12_mustBeRead_40 n a1 f (0 : Int32) (x3 + (1 : Int32)) r8.2
  else
  sh_X12_mustBeRead_40 n a1 f (1 : Int32) (x3 + (1 : Int32)) r8.2
def sh_X12_mustBeRead (n : Nat) (a1 : Int32) (μ : Mm) : Option (Int32 × Mm) :=
  (ld μ 307 (10 : Int32)).bind fun v1 =>
  if v1 = (0 : Int32) then
  some ((1 : Int32), μ)
  else
  (sh_X12_of a1 (4 : Int32) μ).bind fun r2 =>
  if r2 = (-1 : Int32) then
  some ((1 : Int32), μ)
  else
  (sh_X12_of a1 (5 : Int32) μ).bind fun r3 =>
  (sh_X12_linesOf a1 μ).bind fun r4 =>
  if r3 = r4 then
  sh_X12_mustBeRead_40 n a1 n (1 : Int32) (0 : Int32) μ
  else
  some ((1 : Int32), μ)
def sh_X12_readSet_8 (n : Nat) : Nat → Int32 → Int32 → Mm → Option (Int32 × Mm)
  | 0, _, _, _ => none
  | f + 1, x1, x2, μ => (ld μ 307 (9 : Int32)).bind fun v2 =>
  if v2 ≤ x2 then
  some (x1, μ)
  else
  (sh_X12_mustBeRead n x2 μ).bind fun r3 =>
  if r3.1 = (0 : Int32) then
  nm ((x1 ||| (0 : Int32))) fun v4 =>
  sh_X12_readSet_8 n f v4 (x2 + (1 : Int32)) r3.2
  else
  nm ((x1 ||| ((1 : Int32) <<< (x2 &&& 31)))) fun v5 =>
  sh_X12_readSet_8 n f v5 (x2 + (1 : Int32)) r3.2
def sh_X12_readSet (n : Nat) (μ : Mm) : Option (Int32 × Mm) :=
  (sh_X12_lay n  μ).bind fun r1 =>
  sh_X12_readSet_8 n n (0 : Int32) (0 : Int32) r1
def sh_X12_toRead (n : Nat) (μ : Mm) : Option (Int32 × Mm) :=
  (pt μ 306 0 (0 : Int32)).bind fun μ1 =>
  (sh_X12_readSet n  μ1).bind fun r2 =>
  some (r2.1, r2.2)
def sh_X12_proof_107 (n : Nat) : Nat → Int32 → Int32 → Int32 → Mm → Option (Int32 × Mm)
  | 0, _, _, _, _ => none
  | f + 1, x1, x2, x3, μ => (ld μ 307 (9 : Int32)).bind fun v7 =>
  if v7 ≤ x3 then
  (st μ 307 (10 : Int32) (1 : Int32)).bind fun μ8 =>
  (st μ8 307 (11 : Int32) (μ8.1 306 36)).bind fun μ9 =>
  some (x2, μ9)
  else
  nm ((x2 + ((x1 >>> (x3 &&& 31)) &&& (1 : Int32)))) fun v10 =>
  (ld μ 324 x3).bind fun v11 =>
  (sh_X12_set x3 (4 : Int32) v11 μ).bind fun r12 =>
  (sh_X12_linesOf x3 r12).bind fun r13 =>
  (sh_X12_set x3 (5 : Int32) r13 r12).bind fun r14 =>
  sh_X12_proof_107 n f x1 v10 (x3 + (1 : Int32)) r14
def sh_X12_proof_75 (n : Nat) : Nat → Int32 → Int32 → Int32 → Mm → Option (Int32 × Mm)
  | 0, _, _, _, _ => none
  | f + 1, x1, x2, x3, μ => if (μ.1 306 17) ≤ x3 then
  sh_X12_proof_107 n n x1 x2 (0 : Int32) μ
  else
  (ld μ 310 x3).bind fun v15 =>
  (st μ 307 ((2701 : Int32) + x3) v15).bind fun μ16 =>
  sh_X12_proof_75 n f x1 x2 (x3 + (1 : Int32)) μ16
def sh_X12_proof_23 (n : Nat) : Nat → Int32 → Int32 → Int32 → Mm → Option (Int32 × Mm)
  | 0, _, _, _, _ => none
  | f + 1, x1, x2, x3, μ => if (μ.1 306 36) ≤ x3 then
  (st μ 307 ((2460 : Int32) + (μ.1 306 36)) (μ.1 306 17)).bind fun μ6 =>
  sh_X12_proof_75 n n x1 x2 (0 : Int32) μ6
  else
  (st μ 307 ((2460 : Int32) + x3) (μ.1 306 17)).bind fun μ17 =>
  (sh_X12_putLine n x3 μ17).bind fun r18 =>
  sh_X12_proof_23 n f x1 x2 (x3 + (1 : Int32)) r18
def sh_X12_proof (n : Nat) (μ : Mm) : Option (Int32 × Mm) :=
  (pt μ 306 0 (0 : Int32)).bind fun μ1 =>
  (sh_X12_remember n  μ1).bind fun r2 =>
  (sh_X12_readSet n  r2).bind fun r3 =>
  nm (r3.1) fun v4 =>
  (pt r3.2 306 17 (0 : Int32)).bind fun μ5 =>
  sh_X12_proof_23 n n v4 (0 : Int32) (0 : Int32) μ5
def sh_X12_changedLines_58 (n : Nat) : Nat → Int32 → Int32 → Int32 → Mm → Option (Int32 × Mm)
  | 0, _, _, _, _ => none
  | f + 1, x1, x2, x3, μ => if x1 ≤ x3 then
  some (x2, μ)
  else
  (sh_X12_isAs n x3 x3 μ).bind fun r8 =>
  if r8.1 = (0 : Int32) then
  nm ((x2 + (1 : Int32))) fun v9 =>
  sh_X12_changedLines_58 n f x1 v9 (x3 + (1 : Int32)) r8.2
  else
  nm ((x2 + (0 : Int32))) fun v10 =>
  sh_X12_changedLines_58 n f x1 v10 (x3 + (1 : Int32)) r8.2
def sh_X12_changedLines (n : Nat) (μ : Mm) : Option (Int32 × Mm) :=
  (pt μ 306 0 (0 : Int32)).bind fun μ1 =>
  (sh_X12_lay n  μ1).bind fun r2 =>
  (ld r2 307 (10 : Int32)).bind fun v3 =>
  if v3 = (0 : Int32) then
  some ((r2.1 306 36), r2)
  else
  (ld r2 307 (11 : Int32)).bind fun v4 =>
  nm ((if v4 < (r2.1 306 36) then v4 else (r2.1 306 36))) fun v5 =>
  (ld r2 307 (11 : Int32)).bind fun v6 =>
  nm (((if (r2.1 306 36) < v6 then v6 else (r2.1 306 36)) - v5)) fun v7 =>
  sh_X12_changedLines_58 n n v5 v7 (0 : Int32) r2
def sh_X12_arePagesAlike_4 (n : Nat) (μ : Mm) : Nat → Int32 → Int32 → Option Int32
  | 0, _, _ => none
  | f + 1, x1, x2 => (ld μ 307 (9 : Int32)).bind fun v1 =>
  if v1 ≤ x2 then
  (isB x1).bind fun v2 =>
  some v2
  else
  if x1 = (0 : Int32) then
  sh_X12_arePagesAlike_4 n μ f (0 : Int32) (x2 + (1 : Int32))
  else
  (ld μ 314 x2).bind fun v3 =>
  (ld μ 328 x2).bind fun v4 =>
  if v3 = v4 then
  sh_X12_arePagesAlike_4 n μ f (1 : Int32) (x2 + (1 : Int32))
  else
  sh_X12_arePagesAlike_4 n μ f (0 : Int32) (x2 + (1 : Int32))
def sh_X12_arePagesAlike (n : Nat) (μ : Mm) : Option Int32 :=
  sh_X12_arePagesAlike_4 n μ n (1 : Int32) (0 : Int32)
def sh_X12_slack_101 (n : Nat) (a1 : Int32) (x2 : Int32) (x3 : Int32) (μ : Mm) : Option (Int32 × Mm) :=
  (sh_X12_set a1 (1 : Int32) x2 μ).bind fun r4 =>
  some (x3, r4)
def sh_X12_slack_53 (n : Nat) (a1 : Int32) : Nat → Int32 → Int32 → Int32 → Mm → Option (Int32 × Mm)
  | 0, _, _, _, _ => none
  | f + 1, x2, x3, x4, μ => if (99 : Int32) ≤ x3 then
  sh_X12_slack_101 n a1 x2 x3 μ
  else
  if x4 = (0 : Int32) then
  sh_X12_slack_101 n a1 x2 x3 μ
  else
  (sh_X12_set a1 (1 : Int32) ((x2 + x3) + (1 : Int32)) μ).bind fun r5 =>
  (sh_X12_lay n  r5).bind fun r6 =>
  (sh_X12_arePagesAlike n  r6).bind fun r7 =>
  if r7 = (0 : Int32) then
  nm ((x3 + (0 : Int32))) fun v8 =>
  sh_X12_slack_53 n a1 f x2 v8 r7 r6
  else
  nm ((x3 + (1 : Int32))) fun v9 =>
  sh_X12_slack_53 n a1 f x2 v9 r7 r6
def sh_X12_slack_12 (n : Nat) (a1 : Int32) : Nat → Int32 → Mm → Option (Int32 × Mm)
  | 0, _, _ => none
  | f + 1, x2, μ => (ld μ 307 (9 : Int32)).bind fun v2 =>
  if v2 ≤ x2 then
  (sh_X12_of a1 (1 : Int32) μ).bind fun r3 =>
  sh_X12_slack_53 n a1 n r3 (0 : Int32) (1 : Int32) μ
  else
  (ld μ 314 x2).bind fun v10 =>
  (st μ 328 x2 v10).bind fun μ11 =>
  sh_X12_slack_12 n a1 f (x2 + (1 : Int32)) μ11
def sh_X12_slack (n : Nat) (a1 : Int32) (μ : Mm) : Option (Int32 × Mm) :=
  (sh_X12_asks n a1 μ).bind fun r1 =>
  if r1.1 = (0 : Int32) then
  some ((0 : Int32), r1.2)
  else
  sh_X12_slack_12 n a1 n (0 : Int32) r1.2
def sh_X12_pagesIf (n : Nat) (a1 : Int32) (a2 : Int32) (μ : Mm) : Option (Int32 × Mm) :=
  (sh_X12_isSection a1 μ).bind fun r1 =>
  (sh_X12_in a2.toInt64 (0 : Int64) (500 : Int64) μ).bind fun r2 =>
  (sh_X12_passes2 r1 r2 μ).bind fun r3 =>
  if r3.1 = (0 : Int32) then
  some ((0 : Int32), r3.2)
  else
  (sh_X12_of a1 (1 : Int32) r3.2).bind fun r4 =>
  (sh_X12_set a1 (1 : Int32) a2 r3.2).bind fun r5 =>
  (sh_X12_lay n  r5).bind fun r6 =>
  (sh_X12_set a1 (1 : Int32) r4 r6).bind fun r7 =>
  some ((r7.1 306 24), r7)
def sh_X12_leastWidth_31 (n : Nat) (a1 : Int32) : Nat → Int32 → Int32 → Int32 → Mm → Option (Int32 × Mm)
  | 0, _, _, _, _ => none
  | f + 1, x2, x3, x4, μ => if (120 : Int32) < x4 then
  (st μ 307 (0 : Int32) x2).bind fun μ4 =>
  some (x3, μ4)
  else
  if x3 = (-1 : Int32) then
  (st μ 307 (0 : Int32) x4).bind fun μ6 =>
  (sh_X12_lay n  μ6).bind fun r7 =>
  if a1 < (r7.1 306 39) then
  sh_X12_leastWidth_31 n a1 f x2 (-1 : Int32) (x4 + (1 : Int32)) r7
  else
  sh_X12_leastWidth_31 n a1 f x2 x4 (x4 + (1 : Int32)) r7
  else
  (st μ 307 (0 : Int32) x2).bind fun μ5 =>
  some (x3, μ5)
def sh_X12_leastWidth (n : Nat) (a1 : Int32) (μ : Mm) : Option (Int32 × Mm) :=
  (sh_X12_in a1.toInt64 (1 : Int64) (20 : Int64) μ).bind fun r1 =>
  (sh_X12_passes r1 μ).bind fun r2 =>
  if r2.1 = (0 : Int32) then
  some ((0 : Int32), r2.2)
  else
  (ld r2.2 307 (0 : Int32)).bind fun v3 =>
  sh_X12_leastWidth_31 n a1 n v3 (-1 : Int32) (20 : Int32) r2.2
def sh_X12_bestWidth_79 (n : Nat) (k23 : (Int32 → Int32 → Int32 → Int32 → Int32 → Mm → Option (Int32 × Mm))) (x1 : Int32) (x2 : Int32) (x3 : Int32) (x4 : Int32) (x5 : Int32) (x6 : Int32) (s0 : Int32) (μ : Mm) : Option (Int32 × Mm) :=
  if s0 = (0 : Int32) then
  k23 x1 x2 x3 x4 (x5 + (1 : Int32)) μ
  else
  nm ((μ.1 306 36)) fun v7 =>
  k23 x1 x5 x6 v7 (x5 + (1 : Int32)) μ
def sh_X12_bestWidth_74 (n : Nat) (k23 : (Int32 → Int32 → Int32 → Int32 → Int32 → Mm → Option (Int32 × Mm))) (x1 : Int32) (x2 : Int32) (x3 : Int32) (x4 : Int32) (x5 : Int32) (x6 : Int32) (μ : Mm) : Option (Int32 × Mm) :=
  sh_X12_bestWidth_79 n k23 x1 x2 x3 x4 x5 x6 (1 : Int32) μ
def sh_X12_bestWidth_78 (n : Nat) (k23 : (Int32 → Int32 → Int32 → Int32 → Int32 → Mm → Option (Int32 × Mm))) (x1 : Int32) (x2 : Int32) (x3 : Int32) (x4 : Int32) (x5 : Int32) (x6 : Int32) (μ : Mm) : Option (Int32 × Mm) :=
  sh_X12_bestWidth_79 n k23 x1 x2 x3 x4 x5 x6 (0 : Int32) μ
def sh_X12_bestWidth_23 (n : Nat) : Nat → Int32 → Int32 → Int32 → Int32 → Int32 → Mm → Option (Int32 × Mm)
  | 0, _, _, _, _, _, _ => none
  | f + 1, x1, x2, x3, x4, x5, μ => if (120 : Int32) < x5 then
  (st μ 307 (0 : Int32) x1).bind fun μ3 =>
  some (x2, μ3)
  else
  (st μ 307 (0 : Int32) x5).bind fun μ4 =>
  (sh_X12_lay n  μ4).bind fun r5 =>
  (sh_X12_overfulls n  r5).bind fun r6 =>
  if x2 = (-1 : Int32) then
  sh_X12_bestWidth_74 n (fun (x1 : Int32) (x2 : Int32) (x3 : Int32) (x4 : Int32) (x5 : Int32) (μ : Mm) => sh_X12_bestWidth_23 n f x1 x2 x3 x4 x5 μ) x1 x2 x3 x4 x5 r6 r5
  else
  if r6 < x3 then
  sh_X12_bestWidth_74 n (fun (x1 : Int32) (x2 : Int32) (x3 : Int32) (x4 : Int32) (x5 : Int32) (μ : Mm) => sh_X12_bestWidth_23 n f x1 x2 x3 x4 x5 μ) x1 x2 x3 x4 x5 r6 r5
  else
  if r6 = x3 then
  if x4 ≤ (r5.1 306 36) then
  sh_X12_bestWidth_78 n (fun (x1 : Int32) (x2 : Int32) (x3 : Int32) (x4 : Int32) (x5 : Int32) (μ : Mm) => sh_X12_bestWidth_23 n f x1 x2 x3 x4 x5 μ) x1 x2 x3 x4 x5 r6 r5
  else
  sh_X12_bestWidth_74 n (fun (x1 : Int32) (x2 : Int32) (x3 : Int32) (x4 : Int32) (x5 : Int32) (μ : Mm) => sh_X12_bestWidth_23 n f x1 x2 x3 x4 x5 μ) x1 x2 x3 x4 x5 r6 r5
  else
  sh_X12_bestWidth_78 n (fun (x1 : Int32) (x2 : Int32) (x3 : Int32) (x4 : Int32) (x5 : Int32) (μ : Mm) => sh_X12_bestWidth_23 n f x1 x2 x3 x4 x5 μ) x1 x2 x3 x4 x5 r6 r5
def sh_X12_bestWidth (n : Nat) (μ : Mm) : Option (Int32 × Mm) :=
  (pt μ 306 0 (0 : Int32)).bind fun μ1 =>
  (ld μ1 307 (0 : Int32)).bind fun v2 =>
  sh_X12_bestWidth_23 n n v2 (-1 : Int32) (0 : Int32) (0 : Int32) (20 : Int32) μ1
def sh_X12_beginnings_4 (n : Nat) (a1 : Int32) (μ : Mm) : Nat → Int32 → Int32 → Option Int32
  | 0, _, _ => none
  | f + 1, x2, x3 => (ld μ 307 (9 : Int32)).bind fun v1 =>
  if v1 ≤ x3 then
  some x2
  else
  (sh_X12_bookPageOf x3 μ).bind fun r2 =>
  if r2 = a1 then
  nm ((x2 + (1 : Int32))) fun v4 =>
  sh_X12_beginnings_4 n a1 μ f v4 (x3 + (1 : Int32))
  else
  nm ((x2 + (0 : Int32))) fun v3 =>
  sh_X12_beginnings_4 n a1 μ f v3 (x3 + (1 : Int32))
def sh_X12_beginnings (n : Nat) (a1 : Int32) (μ : Mm) : Option Int32 :=
  sh_X12_beginnings_4 n a1 μ n (0 : Int32) (0 : Int32)
def sh_X12_crowded_99 (n : Nat) (a1 : Int32) (k24 : (Int32 → Mm → Option (Int32 × Mm))) (x2 : Int32) (x3 : Int32) (x4 : Int32) (μ : Mm) : Option (Int32 × Mm) :=
  if x3 ≤ (0 : Int32) then
  k24 (x2 + (1 : Int32)) μ
  else
  if x4 = a1 then
  some (x2, μ)
  else
  k24 (x2 + (1 : Int32)) μ
def sh_X12_crowded_44 (n : Nat) (a1 : Int32) (k24 : (Int32 → Mm → Option (Int32 × Mm))) : Nat → Int32 → Int32 → Int32 → Int32 → Mm → Option (Int32 × Mm)
  | 0, _, _, _, _, _ => none
  | f + 1, x2, x3, x4, x5, μ => if (μ.1 306 24) < x5 then
  sh_X12_crowded_99 n a1 k24 x2 x3 x4 μ
  else
  if x3 ≤ (0 : Int32) then
  sh_X12_crowded_99 n a1 k24 x2 x3 x4 μ
  else
  (sh_X12_beginnings n x5 μ).bind fun r4 =>
  if x3 < r4 then
  nm ((x4 + (1 : Int32))) fun v5 =>
  sh_X12_crowded_44 n a1 k24 f x2 x3 v5 (x5 + (1 : Int32)) μ
  else
  (sh_X12_beginnings n x5 μ).bind fun r6 =>
  if r6 = x3 then
  if x2 ≤ x5 then
  nm ((x4 + (0 : Int32))) fun v8 =>
  sh_X12_crowded_44 n a1 k24 f x2 x3 v8 (x5 + (1 : Int32)) μ
  else
  nm ((x4 + (1 : Int32))) fun v9 =>
  sh_X12_crowded_44 n a1 k24 f x2 x3 v9 (x5 + (1 : Int32)) μ
  else
  nm ((x4 + (0 : Int32))) fun v7 =>
  sh_X12_crowded_44 n a1 k24 f x2 x3 v7 (x5 + (1 : Int32)) μ
def sh_X12_crowded_24 (n : Nat) (a1 : Int32) : Nat → Int32 → Mm → Option (Int32 × Mm)
  | 0, _, _ => none
  | f + 1, x2, μ => if (μ.1 306 24) < x2 then
  some ((-1 : Int32), μ)
  else
  (sh_X12_beginnings n x2 μ).bind fun r3 =>
  sh_X12_crowded_44 n a1 (fun (x2 : Int32) (μ : Mm) => sh_X12_crowded_24 n a1 f x2 μ) n x2 r3 (0 : Int32) (1 : Int32) μ
def sh_X12_crowded_10 (n : Nat) (a1 : Int32) (s1 : Int32) (μ : Mm) : Option (Int32 × Mm) :=
  (sh_X12_passes s1 μ).bind fun r1 =>
  if r1.1 = (0 : Int32) then
  some ((0 : Int32), r1.2)
  else
  (sh_X12_lay n  r1.2).bind fun r2 =>
  sh_X12_crowded_24 n a1 n (1 : Int32) r2
def sh_X12_crowded (n : Nat) (a1 : Int32) (μ : Mm) : Option (Int32 × Mm) :=
  if a1 < (0 : Int32) then
  sh_X12_crowded_10 n a1 (0 : Int32) μ
  else
  sh_X12_crowded_10 n a1 (1 : Int32) μ
def sh_X12_longest_40 (n : Nat) (a1 : Int32) (k24 : (Int32 → Mm → Option (Int32 × Mm))) : Nat → Int32 → Int32 → Int32 → Mm → Option (Int32 × Mm)
  | 0, _, _, _, _ => none
  | f + 1, x2, x3, x4, μ => (ld μ 307 (9 : Int32)).bind fun v4 =>
  if v4 ≤ x4 then
  if x3 = a1 then
  some (x2, μ)
  else
  k24 (x2 + (1 : Int32)) μ
  else
  (sh_X12_titleOf n x4 μ).bind fun r5 =>
  (sh_X12_titleOf n x2 r5.2).bind fun r6 =>
  if r6.1 < r5.1 then
  nm ((x3 + (1 : Int32))) fun v7 =>
  sh_X12_longest_40 n a1 k24 f x2 v7 (x4 + (1 : Int32)) r6.2
  else
  (sh_X12_titleOf n x4 r6.2).bind fun r8 =>
  (sh_X12_titleOf n x2 r8.2).bind fun r9 =>
  if r8.1 = r9.1 then
  if x2 ≤ x4 then
  nm ((x3 + (0 : Int32))) fun v11 =>
  sh_X12_longest_40 n a1 k24 f x2 v11 (x4 + (1 : Int32)) r9.2
  else
  nm ((x3 + (1 : Int32))) fun v12 =>
  sh_X12_longest_40 n a1 k24 f x2 v12 (x4 + (1 : Int32)) r9.2
  else
  nm ((x3 + (0 : Int32))) fun v10 =>
  sh_X12_longest_40 n a1 k24 f x2 v10 (x4 + (1 : Int32)) r9.2
def sh_X12_longest_24 (n : Nat) (a1 : Int32) : Nat → Int32 → Mm → Option (Int32 × Mm)
  | 0, _, _ => none
  | f + 1, x2, μ => (ld μ 307 (9 : Int32)).bind fun v3 =>
  if v3 ≤ x2 then
  some ((-1 : Int32), μ)
  else
  sh_X12_longest_40 n a1 (fun (x2 : Int32) (μ : Mm) => sh_X12_longest_24 n a1 f x2 μ) n x2 (0 : Int32) (0 : Int32) μ
def sh_X12_longest_10 (n : Nat) (a1 : Int32) (s1 : Int32) (μ : Mm) : Option (Int32 × Mm) :=
  (sh_X12_passes s1 μ).bind fun r1 =>
  if r1.1 = (0 : Int32) then
  some ((0 : Int32), r1.2)
  else
  (sh_X12_layLabels n  r1.2).bind fun r2 =>
  sh_X12_longest_24 n a1 n (0 : Int32) r2
def sh_X12_longest (n : Nat) (a1 : Int32) (μ : Mm) : Option (Int32 × Mm) :=
  if a1 < (0 : Int32) then
  sh_X12_longest_10 n a1 (0 : Int32) μ
  else
  sh_X12_longest_10 n a1 (1 : Int32) μ
def sh_X12_undo_33 (n : Nat) : Nat → Int32 → Mm → Option (Int32 × Mm)
  | 0, _, _ => none
  | f + 1, x1, μ => if (18701 : Int32) ≤ x1 then
  some ((μ.1 306 47), μ)
  else
  (ld μ 329 (((18701 : Int32) * (μ.1 306 47)) + x1)).bind fun v3 =>
  (st μ 307 x1 v3).bind fun μ4 =>
  sh_X12_undo_33 n f (x1 + (1 : Int32)) μ4
def sh_X12_undo_13 (n : Nat) (s1 : Int32) (μ : Mm) : Option (Int32 × Mm) :=
  (sh_X12_passes s1 μ).bind fun r1 =>
  if r1.1 = (0 : Int32) then
  some ((0 : Int32), r1.2)
  else
  (pt r1.2 306 47 ((r1.2.1 306 47) - (1 : Int32))).bind fun μ2 =>
  sh_X12_undo_33 n n (0 : Int32) μ2
def sh_X12_undo (n : Nat) (μ : Mm) : Option (Int32 × Mm) :=
  if (μ.1 306 47) ≤ (0 : Int32) then
  sh_X12_undo_13 n (0 : Int32) μ
  else
  sh_X12_undo_13 n (1 : Int32) μ
def sh_X12_undoCount (μ : Mm) : Option (Int32 × Mm) :=
  (pt μ 306 0 (0 : Int32)).bind fun μ1 =>
  some ((μ1.1 306 47), μ1)
def sh_X12_keepText_2 (n : Nat) : Nat → Int32 → Mm → Option Mm
  | 0, _, _ => none
  | f + 1, x1, μ => if (μ.1 306 17) ≤ x1 then
  (pt μ 306 49 (μ.1 306 17)).bind fun μ1 =>
  some μ1
  else
  (ld μ 310 x1).bind fun v2 =>
  (st μ 330 x1 (vp_nar .byte v2)).bind fun μ3 =>
  sh_X12_keepText_2 n f (x1 + (1 : Int32)) μ3
def sh_X12_keepText (n : Nat) (μ : Mm) : Option Mm :=
  sh_X12_keepText_2 n n (0 : Int32) μ
def sh_X12_writeLine (n : Nat) (a1 : Int32) (μ : Mm) : Option (Int32 × Mm) :=
  (sh_X12_isLine n a1 μ).bind fun r1 =>
  (sh_X12_passes r1.1 r1.2).bind fun r2 =>
  if r2.1 = (0 : Int32) then
  some ((0 : Int32), r2.2)
  else
  (pt r2.2 306 17 (0 : Int32)).bind fun μ3 =>
  (sh_X12_putLine n a1 μ3).bind fun r4 =>
  (sh_X12_keepText n  r4).bind fun r5 =>
  some ((r5.1 306 49), r5)
def sh_X12_writeTable_16 (n : Nat) : Nat → Int32 → Mm → Option (Int32 × Mm)
  | 0, _, _ => none
  | f + 1, x1, μ => if (μ.1 306 36) ≤ x1 then
  (sh_X12_keepText n  μ).bind fun r4 =>
  some ((r4.1 306 49), r4)
  else
  (sh_X12_putLine n x1 μ).bind fun r5 =>
  sh_X12_writeTable_16 n f (x1 + (1 : Int32)) r5
def sh_X12_writeTable (n : Nat) (μ : Mm) : Option (Int32 × Mm) :=
  (pt μ 306 0 (0 : Int32)).bind fun μ1 =>
  (sh_X12_lay n  μ1).bind fun r2 =>
  (pt r2 306 17 (0 : Int32)).bind fun μ3 =>
  sh_X12_writeTable_16 n n (0 : Int32) μ3
def sh_X12_outputByte (a1 : Int32) (μ : Mm) : Option (Int32 × Mm) :=
  (sh_X12_in a1.toInt64 (0 : Int64) (((μ.1 306 49) - (1 : Int32)).toInt64) μ).bind fun r1 =>
  (sh_X12_passes r1 μ).bind fun r2 =>
  if r2.1 = (0 : Int32) then
  some ((0 : Int32), r2.2)
  else
  (ld r2.2 330 a1).bind fun v3 =>
  some (v3, r2.2)
def sh_X11_append (a1 : Int32) (a2 : Int32) (a3 : Int32) (a4 : Int32) (a5 : Int32) (μ : Mm) : Option ((Nat × Mm) ⊕ (Int32 × Mm)) :=
  (sh_X8_length 1 μ).bind fun r1 =>
  if (r1 + (20 : Int32)) ≤ (1100 : Int32) then
  (sh_X8_putFour 1 a1 μ).bind fun r2 =>
  (sh_X8_putFour 1 a2 r2).bind fun r3 =>
  (sh_X8_putFour 1 a3 r3).bind fun r4 =>
  (sh_X8_putFour 1 a4 r4).bind fun r5 =>
  (sh_X8_putFour 1 a5 r5).bind fun r6 =>
  (sh_X8_length 1 r6).bind fun r7 =>
  some (.inr (r7, r6))
  else
  some (.inl (0, μ))
def sh_X11_truncate_15 (a1 : Int32) (μ : Mm) : Option ((Nat × Mm) ⊕ Mm) :=
  some (.inl (1, μ))
def sh_X11_truncate (a1 : Int32) (μ : Mm) : Option ((Nat × Mm) ⊕ Mm) :=
  if a1 < (0 : Int32) then
  sh_X11_truncate_15 a1 μ
  else
  (sh_X8_length 1 μ).bind fun r1 =>
  if a1 ≤ r1 then
  (sh_X8_cut 1 a1 μ).bind fun r2 =>
  some (.inr r2)
  else
  sh_X11_truncate_15 a1 μ
def sh_X11_earlierAt (a1 : Int32) (μ : Mm) : Option Nat :=
  if a1 < (0 : Int32) then
  none
  else
  if (nI (ln 37)) ≤ a1 then
  none
  else
  if ¬ inb a1 (ln 37) = true then none else
  some (144 + 27 * ix a1)
def sh_X11_keepForUndo_21 (μ : Mm) : Option Mm :=
  (rm ((μ.1 0 7) + (1 : Int32)) (6 : Int32)).bind fun v3 =>
  (pt μ 0 7 v3).bind fun μ4 =>
  (pt μ4 0 8 (if (6 : Int32) < ((μ4.1 0 8) + (1 : Int32)) then (6 : Int32) else ((μ4.1 0 8) + (1 : Int32)))).bind fun μ5 =>
  some μ5
def sh_X11_keepForUndo (μ : Mm) : Option Mm :=
  (sh_X11_earlierAt (μ.1 0 7) μ).bind fun r1 =>
  (sh_X6_take r1 10 μ).bind fun r2 =>
  sh_X11_keepForUndo_21 r2
def sh_X11_load (n : Nat) (μ : Mm) : Option (Int32 × Mm) :=
  (sh_X4_readBook n 1 85 μ).bind fun r1 =>
  nm (r1.1) fun v2 =>
  (sh_X8_cut 1 (0 : Int32) r1.2).bind fun r3 =>
  (pt r3 0 3 (r3.1 5 0)).bind fun μ4 =>
  (pt μ4 0 4 (μ4.1 5 1)).bind fun μ5 =>
  if v2 = (0 : Int32) then
  some ((-4 : Int32), μ5)
  else
  (sh_X11_keepForUndo  μ5).bind fun r6 =>
  (sh_X0_take 11 85 r6).bind fun r7 =>
  (pz r7 10 2 (0 : Int32)).bind fun μ8 =>
  (sh_X1_layAnew n 38 11 μ8).bind fun r9 =>
  some ((r9.1 11 2), r9)
def sh_X11_errorCode (μ : Mm) : Option Int32 :=
  some (μ.1 0 3)
def sh_X11_errorPosition (μ : Mm) : Option Int32 :=
  some (μ.1 0 4)
def sh_X11_count (a1 : Int32) (μ : Mm) : Option (Nat ⊕ Int32) :=
  if a1 = (0 : Int32) then
  some (.inr (μ.1 11 2))
  else
  if a1 = (1 : Int32) then
  some (.inr (μ.1 11 3))
  else
  if a1 = (2 : Int32) then
  some (.inr (μ.1 61 2))
  else
  if a1 = (3 : Int32) then
  some (.inr (μ.1 38 3))
  else
  if a1 = (4 : Int32) then
  some (.inr (μ.1 52 5))
  else
  if a1 = (5 : Int32) then
  some (.inr (μ.1 52 4))
  else
  if a1 = (6 : Int32) then
  some (.inr (μ.1 61 0))
  else
  if a1 = (7 : Int32) then
  some (.inr (μ.1 61 1))
  else
  some (.inl 1)
def sh_X11_setting_10 (a1 : Int32) (μ : Mm) : Option (Nat ⊕ Int32) :=
  some (.inl 1)
def sh_X11_setting (a1 : Int32) (μ : Mm) : Option (Nat ⊕ Int32) :=
  if a1 < (0 : Int32) then
  sh_X11_setting_10 a1 μ
  else
  if a1 < (8 : Int32) then
  (sh_X5_at 12 a1 μ).bind fun r1 =>
  some (.inr r1)
  else
  sh_X11_setting_10 a1 μ
def sh_X11_isRight (μ : Mm) : Option Int32 :=
  (isB (μ.1 11 1)).bind fun v1 =>
  some v1
def sh_X11_checkSection_18 (a1 : Int32) (μ : Mm) : Option (Nat ⊕ Unit) :=
  some (.inl 2)
def sh_X11_checkSection (a1 : Int32) (μ : Mm) : Option (Nat ⊕ Unit) :=
  if a1 < (0 : Int32) then
  sh_X11_checkSection_18 a1 μ
  else
  if a1 < (μ.1 11 2) then
  some (.inr ())
  else
  sh_X11_checkSection_18 a1 μ
def sh_X11_section (a1 : Int32) (a2 : Int32) (μ : Mm) : Option (Nat ⊕ Int32) :=
  (sh_X11_checkSection a1 μ).bind fun r1 => Sum.elim (fun ec => some (.inl ec)) (fun v2 =>
  if a2 = (0 : Int32) then
  (sh_X5_at 14 a1 μ).bind fun r3 =>
  some (.inr r3)
  else
  if a2 = (1 : Int32) then
  (sh_X5_at 16 a1 μ).bind fun r4 =>
  some (.inr r4)
  else
  if a2 = (2 : Int32) then
  (sh_X0_partOf 11 a1 μ).bind fun r5 =>
  some (.inr r5)
  else
  if a2 = (3 : Int32) then
  (sh_X5_at 18 a1 μ).bind fun r6 =>
  some (.inr r6)
  else
  if a2 = (4 : Int32) then
  (sh_X5_at 40 a1 μ).bind fun r7 =>
  some (.inr r7)
  else
  if a2 = (5 : Int32) then
  (sh_X5_at 42 a1 μ).bind fun r8 =>
  some (.inr r8)
  else
  if a2 = (6 : Int32) then
  (sh_X5_at 44 a1 μ).bind fun r9 =>
  some (.inr r9)
  else
  some (.inl 1)) r1
def sh_X11_titleWidth (a1 : Int32) (μ : Mm) : Option (Nat ⊕ Int32) :=
  (sh_X11_checkSection a1 μ).bind fun r1 => Sum.elim (fun ec => some (.inl ec)) (fun v2 =>
  (sh_X5_at 50 a1 μ).bind fun r3 =>
  some (.inr r3)) r1
def sh_X11_page (a1 : Int32) (μ : Mm) : Option (Nat ⊕ Int32) :=
  (sh_X11_checkSection a1 μ).bind fun r1 => Sum.elim (fun ec => some (.inl ec)) (fun v2 =>
  (sh_X5_at 53 a1 μ).bind fun r3 =>
  some (.inr r3)) r1
def sh_X11_bookPage (a1 : Int32) (μ : Mm) : Option (Nat ⊕ Int32) :=
  (sh_X11_checkSection a1 μ).bind fun r1 => Sum.elim (fun ec => some (.inl ec)) (fun v2 =>
  (sh_X5_at 55 a1 μ).bind fun r3 =>
  some (.inr r3)) r1
def sh_X11_lineOnPage (a1 : Int32) (μ : Mm) : Option (Nat ⊕ Int32) :=
  (sh_X11_checkSection a1 μ).bind fun r1 => Sum.elim (fun ec => some (.inl ec)) (fun v2 =>
  (sh_X5_at 57 a1 μ).bind fun r3 =>
  some (.inr r3)) r1
def sh_X11_numberWidth (a1 : Int32) (μ : Mm) : Option (Nat ⊕ Int32) :=
  (sh_X11_checkSection a1 μ).bind fun r1 => Sum.elim (fun ec => some (.inl ec)) (fun v2 =>
  (sh_X5_at 59 a1 μ).bind fun r3 =>
  some (.inr r3)) r1
def sh_X11_findPage_31 (n : Nat) (a1 : Int32) (a2 : Int32) (μ : Mm) : Nat → Int32 → Option (Nat ⊕ Int32)
  | 0, _ => none
  | f + 1, x3 => (sh_X0_partEnd 11 a1 μ).bind fun r2 =>
  if r2 ≤ x3 then
  some (.inr (-1 : Int32))
  else
  (sh_X5_at 53 x3 μ).bind fun r3 =>
  if r3 = a2 then
  some (.inr x3)
  else
  sh_X11_findPage_31 n a1 a2 μ f (x3 + (1 : Int32))
def sh_X11_findPage_19 (n : Nat) (a1 : Int32) (a2 : Int32) (μ : Mm) : Option (Nat ⊕ Int32) :=
  (sh_X0_partBegin 11 a1 μ).bind fun r1 =>
  sh_X11_findPage_31 n a1 a2 μ n r1
def sh_X11_findPage (n : Nat) (a1 : Int32) (a2 : Int32) (μ : Mm) : Option (Nat ⊕ Int32) :=
  if a1 = (0 : Int32) then
  sh_X11_findPage_19 n a1 a2 μ
  else
  if a1 = (1 : Int32) then
  sh_X11_findPage_19 n a1 a2 μ
  else
  some (.inl 1)
def sh_X11_sectionAt_19 (n : Nat) (a1 : Int32) (μ : Mm) : Option (Nat ⊕ Int32) :=
  some (.inl 2)
def sh_X11_sectionAt_33 (n : Nat) (a1 : Int32) (μ : Mm) : Nat → Int32 → Int32 → Option (Nat ⊕ Int32)
  | 0, _, _ => none
  | f + 1, x2, x3 => if (μ.1 11 2) ≤ x3 then
  some (.inr x2)
  else
  (sh_X5_at 55 x3 μ).bind fun r1 =>
  if a1 < r1 then
  sh_X11_sectionAt_33 n a1 μ f x2 (x3 + (1 : Int32))
  else
  sh_X11_sectionAt_33 n a1 μ f x3 (x3 + (1 : Int32))
def sh_X11_sectionAt (n : Nat) (a1 : Int32) (μ : Mm) : Option (Nat ⊕ Int32) :=
  if a1 < (1 : Int32) then
  sh_X11_sectionAt_19 n a1 μ
  else
  if a1 ≤ (μ.1 52 5) then
  sh_X11_sectionAt_33 n a1 μ n (-1 : Int32) (0 : Int32)
  else
  sh_X11_sectionAt_19 n a1 μ
def sh_X11_firstLine (a1 : Int32) (μ : Mm) : Option (Nat ⊕ Int32) :=
  (sh_X11_checkSection a1 μ).bind fun r1 => Sum.elim (fun ec => some (.inl ec)) (fun v2 =>
  (sh_X5_at 72 a1 μ).bind fun r3 =>
  some (.inr r3)) r1
def sh_X11_lineCount (a1 : Int32) (μ : Mm) : Option (Nat ⊕ Int32) :=
  (sh_X11_checkSection a1 μ).bind fun r1 => Sum.elim (fun ec => some (.inl ec)) (fun v2 =>
  (sh_X5_at 74 a1 μ).bind fun r3 =>
  some (.inr r3)) r1
def sh_X11_checkLine_18 (a1 : Int32) (μ : Mm) : Option (Nat ⊕ Unit) :=
  some (.inl 2)
def sh_X11_checkLine (a1 : Int32) (μ : Mm) : Option (Nat ⊕ Unit) :=
  if a1 < (0 : Int32) then
  sh_X11_checkLine_18 a1 μ
  else
  if a1 < (μ.1 61 2) then
  some (.inr ())
  else
  sh_X11_checkLine_18 a1 μ
def sh_X11_line (a1 : Int32) (a2 : Int32) (μ : Mm) : Option (Nat ⊕ Int32) :=
  (sh_X11_checkLine a1 μ).bind fun r1 => Sum.elim (fun ec => some (.inl ec)) (fun v2 =>
  if a2 = (0 : Int32) then
  (sh_X5_at 62 a1 μ).bind fun r3 =>
  some (.inr r3)
  else
  if a2 = (1 : Int32) then
  (sh_X5_at 64 a1 μ).bind fun r4 =>
  some (.inr r4)
  else
  if a2 = (2 : Int32) then
  (sh_X5_at 66 a1 μ).bind fun r5 =>
  some (.inr r5)
  else
  if a2 = (3 : Int32) then
  (sh_X5_at 68 a1 μ).bind fun r6 =>
  some (.inr r6)
  else
  if a2 = (4 : Int32) then
  (sh_X5_at 12 (1 : Int32) μ).bind fun r7 =>
  (sh_X11_quotient a1 r7 μ).bind fun r8 =>
  some (.inr ((1 : Int32) + r8))
  else
  some (.inl 1)) r1
def sh_X11_checkLastLine (a1 : Int32) (μ : Mm) : Option (Nat ⊕ Unit) :=
  (sh_X7_isLastLine 61 a1 μ).bind fun r1 =>
  if r1 = (0 : Int32) then
  some (.inl 3)
  else
  some (.inr ())
def sh_X11_dotCount (a1 : Int32) (μ : Mm) : Option (Nat ⊕ Int32) :=
  (sh_X11_checkLine a1 μ).bind fun r1 => Sum.elim (fun ec => some (.inl ec)) (fun v2 =>
  (sh_X11_checkLastLine a1 μ).bind fun r3 => Sum.elim (fun ec => some (.inl ec)) (fun v4 =>
  (sh_X5_at 62 a1 μ).bind fun r5 =>
  (sh_X5_at 78 r5 μ).bind fun r6 =>
  some (.inr r6)) r3) r1
def sh_X11_firstDot (a1 : Int32) (μ : Mm) : Option (Nat ⊕ Int32) :=
  (sh_X11_checkLine a1 μ).bind fun r1 => Sum.elim (fun ec => some (.inl ec)) (fun v2 =>
  (sh_X11_checkLastLine a1 μ).bind fun r3 => Sum.elim (fun ec => some (.inl ec)) (fun v4 =>
  (sh_X5_at 62 a1 μ).bind fun r5 =>
  (sh_X5_at 76 r5 μ).bind fun r6 =>
  some (.inr r6)) r3) r1
def sh_X11_dotsAt_19 (n : Nat) (a1 : Int32) (μ : Mm) : Nat → Int32 → Int32 → Option (Nat ⊕ Int32)
  | 0, _, _ => none
  | f + 1, x2, x3 => if (μ.1 11 2) ≤ x3 then
  some (.inr x2)
  else
  (sh_X5_at 12 (7 : Int32) μ).bind fun r1 =>
  (sh_X7_hasDotAt 61 x3 a1 r1 μ).bind fun r2 =>
  if r2 = (0 : Int32) then
  sh_X11_dotsAt_19 n a1 μ f x2 (x3 + (1 : Int32))
  else
  sh_X11_dotsAt_19 n a1 μ f (x2 + (1 : Int32)) (x3 + (1 : Int32))
def sh_X11_dotsAt (n : Nat) (a1 : Int32) (μ : Mm) : Option (Nat ⊕ Int32) :=
  if (0 : Int32) ≤ a1 then
  sh_X11_dotsAt_19 n a1 μ n (0 : Int32) (0 : Int32)
  else
  some (.inl 1)
def sh_X11_isOverfull (a1 : Int32) (μ : Mm) : Option (Nat ⊕ Int32) :=
  (sh_X11_checkLine a1 μ).bind fun r1 => Sum.elim (fun ec => some (.inl ec)) (fun v2 =>
  (sh_X7_isBeyondLimit 61 a1 μ).bind fun r3 =>
  (isB r3).bind fun v4 =>
  some (.inr v4)) r1
def sh_X11_overfullCount (n : Nat) (μ : Mm) : Option Int32 :=
  (sh_X7_linesBeyondLimit n 61 μ).bind fun r1 =>
  some r1
def sh_X11_rounds (μ : Mm) : Option Int32 :=
  some (μ.1 38 4)
def sh_X11_collides (n : Nat) (a1 : Int32) (μ : Mm) : Option (Nat ⊕ Int32) :=
  (sh_X11_checkLine a1 μ).bind fun r1 => Sum.elim (fun ec => some (.inl ec)) (fun v2 =>
  (sh_X1_touchesNext n 38 11 a1 μ).bind fun r3 =>
  (isB r3).bind fun v4 =>
  some (.inr v4)) r1
def sh_X11_collisions_4 (n : Nat) (μ : Mm) : Nat → Int32 → Int32 → Option Int32
  | 0, _, _ => none
  | f + 1, x1, x2 => if (μ.1 61 2) ≤ x2 then
  some x1
  else
  (sh_X1_touchesNext n 38 11 x2 μ).bind fun r1 =>
  if r1 = (0 : Int32) then
  sh_X11_collisions_4 n μ f x1 (x2 + (1 : Int32))
  else
  sh_X11_collisions_4 n μ f (x1 + (1 : Int32)) (x2 + (1 : Int32))
def sh_X11_collisions (n : Nat) (μ : Mm) : Option Int32 :=
  sh_X11_collisions_4 n μ n (0 : Int32) (0 : Int32)
def sh_X11_wordCount (n : Nat) (μ : Mm) : Option (Int32 × Mm) :=
  (sh_X10_gather n 11 μ).bind fun r1 =>
  some ((r1.1 80 2), r1)
def sh_X11_wordSections_29 (n : Nat) (a1 : Int32) (μ : Mm) : Option ((Nat × Mm) ⊕ (Int32 × Mm)) :=
  some (.inl (2, μ))
def sh_X11_wordSections (n : Nat) (a1 : Int32) (μ : Mm) : Option ((Nat × Mm) ⊕ (Int32 × Mm)) :=
  (sh_X10_gather n 11 μ).bind fun r1 =>
  if a1 < (0 : Int32) then
  sh_X11_wordSections_29 n a1 r1
  else
  if a1 < (r1.1 80 2) then
  (sh_X5_at 83 a1 r1).bind fun r2 =>
  some (.inr (r2, r1))
  else
  sh_X11_wordSections_29 n a1 r1
def sh_X11_findWord (n : Nat) (μ : Mm) : Option (Int32 × Mm) :=
  (sh_X8_length 1 μ).bind fun r1 =>
  (sh_X8_wordBetween n 1 (0 : Int32) r1 μ).bind fun r2 =>
  (sh_X8_cut 1 (0 : Int32) μ).bind fun r3 =>
  (sh_X10_gather n 11 r3).bind fun r4 =>
  (sh_X10_indexOf n r2 r4).bind fun r5 =>
  some (r5, r4)
def sh_X11_checkLength_11 (a1 : Int32) (μ : Mm) : Option (Nat ⊕ Unit) :=
  some (.inl 1)
def sh_X11_checkLength (a1 : Int32) (μ : Mm) : Option (Nat ⊕ Unit) :=
  if a1 < (0 : Int32) then
  sh_X11_checkLength_11 a1 μ
  else
  if a1 ≤ (500 : Int32) then
  some (.inr ())
  else
  sh_X11_checkLength_11 a1 μ
def sh_X11_setLength (n : Nat) (a1 : Int32) (a2 : Int32) (μ : Mm) : Option ((Nat × Mm) ⊕ (Int32 × Mm)) :=
  (sh_X11_checkSection a1 μ).bind fun r1 => Sum.elim (fun ec => some (.inl (ec, μ))) (fun v2 =>
  (sh_X11_checkLength a2 μ).bind fun r3 => Sum.elim (fun ec => some (.inl (ec, μ))) (fun v4 =>
  (sh_X11_keepForUndo  μ).bind fun r5 =>
  (sh_X5_at 16 a1 r5).bind fun r6 =>
  (sh_X5_put 16 a1 a2 r5).bind fun r7 =>
  (sh_X1_layAnew n 38 11 r7).bind fun r8 =>
  some (.inr (r6, r8))) r3) r1
def sh_X11_checkLevel_10 (a1 : Int32) (μ : Mm) : Option (Nat ⊕ Unit) :=
  some (.inl 1)
def sh_X11_checkLevel (a1 : Int32) (μ : Mm) : Option (Nat ⊕ Unit) :=
  if a1 < (1 : Int32) then
  sh_X11_checkLevel_10 a1 μ
  else
  if a1 ≤ (4 : Int32) then
  some (.inr ())
  else
  sh_X11_checkLevel_10 a1 μ
def sh_X11_setLevel (n : Nat) (a1 : Int32) (a2 : Int32) (μ : Mm) : Option ((Nat × Mm) ⊕ (Int32 × Mm)) :=
  (sh_X11_checkSection a1 μ).bind fun r1 => Sum.elim (fun ec => some (.inl (ec, μ))) (fun v2 =>
  (sh_X11_checkLevel a2 μ).bind fun r3 => Sum.elim (fun ec => some (.inl (ec, μ))) (fun v4 =>
  (sh_X0_partOf 11 a1 μ).bind fun r5 =>
  (sh_X0_levelStands 11 r5 a1 (a1 + (1 : Int32)) a2 μ).bind fun r6 =>
  if r6 = (0 : Int32) then
  some (.inl (1, μ))
  else
  (sh_X11_keepForUndo  μ).bind fun r7 =>
  (sh_X5_at 14 a1 r7).bind fun r8 =>
  (sh_X5_put 14 a1 a2 r7).bind fun r9 =>
  (sh_X1_layAnew n 38 11 r9).bind fun r10 =>
  some (.inr (r8, r10))) r3) r1
def sh_X11_checkTitle (n : Nat) (μ : Mm) : Option ((Nat × Mm) ⊕ Mm) :=
  (sh_X4_readTitle n 1 μ).bind fun r1 =>
  if r1.1 = (0 : Int32) then
  some (.inl (1, r1.2))
  else
  some (.inr r1.2)
def sh_X11_setTitle (n : Nat) (a1 : Int32) (μ : Mm) : Option ((Nat × Mm) ⊕ (Int32 × Mm)) :=
  (sh_X11_checkSection a1 μ).bind fun r1 => Sum.elim (fun ec => some (.inl (ec, μ))) (fun v2 =>
  (sh_X11_checkTitle n  μ).bind fun r3 => Sum.elim (fun qe => some (.inl (qe.1, qe.2))) (fun v4 =>
  (sh_X11_keepForUndo  v4).bind fun r5 =>
  (sh_X5_at 18 a1 r5).bind fun r6 =>
  (sh_X0_entitle n 11 a1 6 (r5.1 5 3) r5).bind fun r7 =>
  (sh_X8_cut 1 (0 : Int32) r7).bind fun r8 =>
  (sh_X1_layAnew n 38 11 r8).bind fun r9 =>
  some (.inr (r6, r9))) r3) r1
def sh_X11_insert_18 (n : Nat) (a1 : Int32) (a2 : Int32) (a3 : Int32) (μ : Mm) : Option ((Nat × Mm) ⊕ (Int32 × Mm)) :=
  some (.inl (2, μ))
def sh_X11_insert (n : Nat) (a1 : Int32) (a2 : Int32) (a3 : Int32) (μ : Mm) : Option ((Nat × Mm) ⊕ (Int32 × Mm)) :=
  if a1 < (0 : Int32) then
  sh_X11_insert_18 n a1 a2 a3 μ
  else
  if a1 ≤ (μ.1 11 2) then
  (sh_X11_checkLevel a2 μ).bind fun r1 => Sum.elim (fun ec => some (.inl (ec, μ))) (fun v2 =>
  (sh_X11_checkLength a3 μ).bind fun r3 => Sum.elim (fun ec => some (.inl (ec, μ))) (fun v4 =>
  (sh_X11_checkTitle n  μ).bind fun r5 => Sum.elim (fun qe => some (.inl (qe.1, qe.2))) (fun v6 =>
  (sh_X0_partForNew 11 a1 v6).bind fun r7 =>
  (sh_X0_levelStands 11 r7 a1 a1 a2 v6).bind fun r8 =>
  if r8 = (0 : Int32) then
  some (.inl (1, v6))
  else
  if (v6.1 11 2) < (24 : Int32) then
  (sh_X11_keepForUndo  v6).bind fun r9 =>
  (sh_X0_open 11 a1 r7 r9).bind fun r10 =>
  (sh_X5_put 14 a1 a2 r10).bind fun r11 =>
  (sh_X5_put 16 a1 a3 r11).bind fun r12 =>
  (sh_X0_entitle n 11 a1 6 (r12.1 5 3) r12).bind fun r13 =>
  (sh_X8_cut 1 (0 : Int32) r13).bind fun r14 =>
  (sh_X1_layAnew n 38 11 r14).bind fun r15 =>
  some (.inr ((r15.1 11 2), r15))
  else
  some (.inl (0, v6))) r5) r3) r1
  else
  sh_X11_insert_18 n a1 a2 a3 μ
def sh_X11_remove (n : Nat) (a1 : Int32) (μ : Mm) : Option ((Nat × Mm) ⊕ (Int32 × Mm)) :=
  (sh_X11_checkSection a1 μ).bind fun r1 => Sum.elim (fun ec => some (.inl (ec, μ))) (fun v2 =>
  (sh_X11_keepForUndo  μ).bind fun r3 =>
  (sh_X0_cutBranch n 11 a1 r3).bind fun r4 =>
  nm (r4.1) fun v5 =>
  (sh_X1_layAnew n 38 11 r4.2).bind fun r6 =>
  some (.inr (v5, r6))) r1
def sh_X11_changeSetting (a1 : Int32) (a2 : Int32) (μ : Mm) : Option (Int32 × Mm) :=
  (sh_X11_keepForUndo  μ).bind fun r1 =>
  (sh_X5_at 12 a1 r1).bind fun r2 =>
  (sh_X5_put 12 a1 a2 r1).bind fun r3 =>
  some (r2, r3)
def sh_X11_setWidth_12 (n : Nat) (a1 : Int32) (μ : Mm) : Option ((Nat × Mm) ⊕ (Int32 × Mm)) :=
  some (.inl (1, μ))
def sh_X11_setWidth (n : Nat) (a1 : Int32) (μ : Mm) : Option ((Nat × Mm) ⊕ (Int32 × Mm)) :=
  if a1 < (20 : Int32) then
  sh_X11_setWidth_12 n a1 μ
  else
  if a1 ≤ (120 : Int32) then
  (sh_X11_changeSetting (0 : Int32) a1 μ).bind fun r1 =>
  nm (r1.1) fun v2 =>
  (sh_X1_layAnew n 38 11 r1.2).bind fun r3 =>
  some (.inr (v2, r3))
  else
  sh_X11_setWidth_12 n a1 μ
def sh_X11_setGrid_11 (n : Nat) (a1 : Int32) (μ : Mm) : Option ((Nat × Mm) ⊕ (Int32 × Mm)) :=
  some (.inl (1, μ))
def sh_X11_setGrid (n : Nat) (a1 : Int32) (μ : Mm) : Option ((Nat × Mm) ⊕ (Int32 × Mm)) :=
  if a1 < (1 : Int32) then
  sh_X11_setGrid_11 n a1 μ
  else
  if a1 ≤ (9 : Int32) then
  (sh_X11_changeSetting (7 : Int32) a1 μ).bind fun r1 =>
  nm (r1.1) fun v2 =>
  (sh_X1_layAnew n 38 11 r1.2).bind fun r3 =>
  some (.inr (v2, r3))
  else
  sh_X11_setGrid_11 n a1 μ
def sh_X11_setRight (n : Nat) (a1 : Int32) (μ : Mm) : Option (Int32 × Mm) :=
  (sh_X11_keepForUndo  μ).bind fun r1 =>
  nm ((r1.1 11 1)) fun v2 =>
  (pz r1 11 1 a1).bind fun μ3 =>
  (sh_X1_layAnew n 38 11 μ3).bind fun r4 =>
  (isB v2).bind fun v5 =>
  some (v5, r4)
def sh_X11_sectionsToRead_148 (n : Nat) (k4 : (Int32 → Int32 → Mm → Option (Int32 × Mm))) (x1 : Int32) (x2 : Int32) (μ : Mm) : Option (Int32 × Mm) :=
  nm ((x1 ||| ((1 : Int32) <<< (x2 &&& 31)))) fun v8 =>
  k4 v8 (x2 + (1 : Int32)) μ
def sh_X11_sectionsToRead_4 (n : Nat) : Nat → Int32 → Int32 → Mm → Option (Int32 × Mm)
  | 0, _, _, _ => none
  | f + 1, x1, x2, μ => if (μ.1 11 2) ≤ x2 then
  some (x1, μ)
  else
  (sh_X5_at 22 x2 μ).bind fun r1 =>
  (sh_X5_at 72 x2 μ).bind fun r2 =>
  (sh_X7_lineBehind 61 x2 μ).bind fun r3 =>
  (sh_X1_typeLines n 38 140 11 r2 r3 μ).bind fun r4 =>
  (sh_X5_at 132 r1 r4).bind fun r5 =>
  (sh_X7_lineBehind 121 r1 r4).bind fun r6 =>
  (sh_X1_typeLines n 98 142 24 r5 r6 r4).bind fun r7 =>
  if (r7.1 10 2) = (0 : Int32) then
  sh_X11_sectionsToRead_148 n (fun (x1 : Int32) (x2 : Int32) (μ : Mm) => sh_X11_sectionsToRead_4 n f x1 x2 μ) x1 x2 r7
  else
  if r1 = (-1 : Int32) then
  sh_X11_sectionsToRead_148 n (fun (x1 : Int32) (x2 : Int32) (μ : Mm) => sh_X11_sectionsToRead_4 n f x1 x2 μ) x1 x2 r7
  else
  (sh_X8_isLike n 140 142 r7).bind fun r9 =>
  if r9 = (0 : Int32) then
  sh_X11_sectionsToRead_148 n (fun (x1 : Int32) (x2 : Int32) (μ : Mm) => sh_X11_sectionsToRead_4 n f x1 x2 μ) x1 x2 r7
  else
  sh_X11_sectionsToRead_4 n f x1 (x2 + (1 : Int32)) r7
def sh_X11_sectionsToRead (n : Nat) (μ : Mm) : Option (Int32 × Mm) :=
  sh_X11_sectionsToRead_4 n n (0 : Int32) (0 : Int32) μ
def sh_J6_bitCount_0f7a4 (a0 : Int32) (μ : Mm) : Option Int32 :=
  nm ((a0 - ((a0.toUInt32 >>> ((1 : Int32).toUInt32 &&& Int32.toUInt32 31)).toInt32 &&& (1431655765 : Int32)))) fun v1 =>
  nm (((v1 &&& (858993459 : Int32)) + ((v1.toUInt32 >>> ((2 : Int32).toUInt32 &&& Int32.toUInt32 31)).toInt32 &&& (858993459 : Int32)))) fun v2 =>
  nm (((v2 + (v2.toUInt32 >>> ((4 : Int32).toUInt32 &&& Int32.toUInt32 31)).toInt32) &&& (252645135 : Int32))) fun v3 =>
  nm ((v3 + (v3.toUInt32 >>> ((8 : Int32).toUInt32 &&& Int32.toUInt32 31)).toInt32)) fun v4 =>
  nm ((v4 + (v4.toUInt32 >>> ((16 : Int32).toUInt32 &&& Int32.toUInt32 31)).toInt32)) fun v5 =>
  some (v5 &&& (63 : Int32))
def sh_X11_proof (n : Nat) (μ : Mm) : Option (Int32 × Mm) :=
  (sh_X1_layAnew n 98 24 μ).bind fun r1 =>
  (sh_X11_sectionsToRead n  r1).bind fun r2 =>
  (sh_J6_bitCount_0f7a4 r2.1 r2.2).bind fun r3 =>
  (sh_X11_keepForUndo  r2.2).bind fun r4 =>
  (sh_X6_keepProof n 10 r4).bind fun r5 =>
  some (r3, r5)
def sh_X11_toRead (n : Nat) (μ : Mm) : Option (Int32 × Mm) :=
  (sh_X1_layAnew n 98 24 μ).bind fun r1 =>
  (sh_X11_sectionsToRead n  r1).bind fun r2 =>
  some (r2.1, r2.2)
def sh_X11_changedLines_87 (n : Nat) : Nat → Int32 → Int32 → Int32 → Mm → Option (Int32 × Mm)
  | 0, _, _, _, _ => none
  | f + 1, x1, x2, x3, μ => if x1 ≤ x3 then
  some (x2, μ)
  else
  (sh_X1_typeLines n 38 140 11 x3 (x3 + (1 : Int32)) μ).bind fun r4 =>
  (sh_X1_typeLines n 98 142 24 x3 (x3 + (1 : Int32)) r4).bind fun r5 =>
  (sh_X8_isLike n 140 142 r5).bind fun r6 =>
  if r6 = (0 : Int32) then
  sh_X11_changedLines_87 n f x1 (x2 + (1 : Int32)) (x3 + (1 : Int32)) r5
  else
  sh_X11_changedLines_87 n f x1 x2 (x3 + (1 : Int32)) r5
def sh_X11_changedLines (n : Nat) (μ : Mm) : Option (Int32 × Mm) :=
  if (μ.1 10 2) = (0 : Int32) then
  some ((μ.1 61 2), μ)
  else
  (sh_X1_layAnew n 98 24 μ).bind fun r1 =>
  nm ((if (r1.1 121 2) < (r1.1 61 2) then (r1.1 121 2) else (r1.1 61 2))) fun v2 =>
  nm (((if (r1.1 61 2) < (r1.1 121 2) then (r1.1 121 2) else (r1.1 61 2)) - v2)) fun v3 =>
  sh_X11_changedLines_87 n n v2 v3 (0 : Int32) r1
def sh_X11_startTrial (n : Nat) (μ : Mm) : Option Mm :=
  (sh_X0_take 85 11 μ).bind fun r1 =>
  (sh_X2_measure n 99 85 r1).bind fun r2 =>
  some r2
def sh_X11_slack_26 (n : Nat) (a1 : Int32) : Nat → Int32 → Int32 → Mm → Option ((Nat × Mm) ⊕ (Int32 × Mm))
  | 0, _, _, _ => none
  | f + 1, x2, x3, μ => if (99 : Int32) < x3 then
  some (.inr ((99 : Int32), μ))
  else
  (sh_X5_put 90 a1 (x2 + x3) μ).bind fun r5 =>
  (sh_X1_lay n 98 85 r5).bind fun r6 =>
  (sh_X3_hasNumbersOf n 112 52 (r6.1 11 2) r6).bind fun r7 =>
  if r7 = (0 : Int32) then
  some (.inr ((x3 - (1 : Int32)), r6))
  else
  sh_X11_slack_26 n a1 f x2 (x3 + (1 : Int32)) r6
def sh_X11_slack (n : Nat) (a1 : Int32) (μ : Mm) : Option ((Nat × Mm) ⊕ (Int32 × Mm)) :=
  (sh_X11_checkSection a1 μ).bind fun r1 => Sum.elim (fun ec => some (.inl (ec, μ))) (fun v2 =>
  (sh_X11_startTrial n  μ).bind fun r3 =>
  (sh_X5_at 16 a1 r3).bind fun r4 =>
  sh_X11_slack_26 n a1 n r4 (1 : Int32) r3) r1
def sh_X11_pagesIf (n : Nat) (a1 : Int32) (a2 : Int32) (μ : Mm) : Option ((Nat × Mm) ⊕ (Int32 × Mm)) :=
  (sh_X11_checkSection a1 μ).bind fun r1 => Sum.elim (fun ec => some (.inl (ec, μ))) (fun v2 =>
  (sh_X11_checkLength a2 μ).bind fun r3 => Sum.elim (fun ec => some (.inl (ec, μ))) (fun v4 =>
  (sh_X11_startTrial n  μ).bind fun r5 =>
  (sh_X5_put 90 a1 a2 r5).bind fun r6 =>
  (sh_X1_lay n 98 85 r6).bind fun r7 =>
  some (.inr ((r7.1 112 5), r7))) r3) r1
def sh_X11_leastWidth_11 (n : Nat) (a1 : Int32) (μ : Mm) : Option ((Nat × Mm) ⊕ (Int32 × Mm)) :=
  some (.inl (1, μ))
def sh_X11_leastWidth_29 (n : Nat) (a1 : Int32) : Nat → Int32 → Mm → Option ((Nat × Mm) ⊕ (Int32 × Mm))
  | 0, _, _ => none
  | f + 1, x2, μ => if (120 : Int32) < x2 then
  some (.inr ((-1 : Int32), μ))
  else
  (sh_X5_put 86 (0 : Int32) x2 μ).bind fun r2 =>
  (sh_X1_lay n 98 85 r2).bind fun r3 =>
  if a1 < (r3.1 98 3) then
  sh_X11_leastWidth_29 n a1 f (x2 + (1 : Int32)) r3
  else
  some (.inr (x2, r3))
def sh_X11_leastWidth (n : Nat) (a1 : Int32) (μ : Mm) : Option ((Nat × Mm) ⊕ (Int32 × Mm)) :=
  if a1 < (1 : Int32) then
  sh_X11_leastWidth_11 n a1 μ
  else
  if a1 ≤ (20 : Int32) then
  (sh_X11_startTrial n  μ).bind fun r1 =>
  sh_X11_leastWidth_29 n a1 n (20 : Int32) r1
  else
  sh_X11_leastWidth_11 n a1 μ
def sh_X11_bestWidth_92 (n : Nat) (k19 : (Int32 → Int32 → Int32 → Int32 → Mm → Option (Int32 × Mm))) (x4 : Int32) (x5 : Int32) (x6 : Int32) (μ : Mm) : Option (Int32 × Mm) :=
  k19 x4 x5 x6 (x4 + (1 : Int32)) μ
def sh_X11_bestWidth_19 (n : Nat) : Nat → Int32 → Int32 → Int32 → Int32 → Mm → Option (Int32 × Mm)
  | 0, _, _, _, _, _ => none
  | f + 1, x1, x2, x3, x4, μ => if (120 : Int32) < x4 then
  some (x1, μ)
  else
  (sh_X5_put 86 (0 : Int32) x4 μ).bind fun r2 =>
  (sh_X1_lay n 98 85 r2).bind fun r3 =>
  (sh_X7_linesBeyondLimit n 121 r3).bind fun r4 =>
  nm ((r3.1 121 2)) fun v5 =>
  if r4 < x2 then
  sh_X11_bestWidth_92 n (fun (x1 : Int32) (x2 : Int32) (x3 : Int32) (x4 : Int32) (μ : Mm) => sh_X11_bestWidth_19 n f x1 x2 x3 x4 μ) x4 r4 v5 r3
  else
  if r4 = x2 then
  if x3 ≤ v5 then
  sh_X11_bestWidth_19 n f x1 x2 x3 (x4 + (1 : Int32)) r3
  else
  sh_X11_bestWidth_92 n (fun (x1 : Int32) (x2 : Int32) (x3 : Int32) (x4 : Int32) (μ : Mm) => sh_X11_bestWidth_19 n f x1 x2 x3 x4 μ) x4 r4 v5 r3
  else
  sh_X11_bestWidth_19 n f x1 x2 x3 (x4 + (1 : Int32)) r3
def sh_X11_bestWidth (n : Nat) (μ : Mm) : Option (Int32 × Mm) :=
  (sh_X11_startTrial n  μ).bind fun r1 =>
  sh_X11_bestWidth_19 n n (20 : Int32) (193 : Int32) (193 : Int32) (20 : Int32) r1
def sh_X11_checkPlace (a1 : Int32) (μ : Mm) : Option (Nat ⊕ Unit) :=
  if (0 : Int32) ≤ a1 then
  some (.inr ())
  else
  some (.inl 1)
def sh_X11_pagesBefore_103 (n : Nat) (a1 : Int32) (μ : Mm) (k27 : (Int32 → Int32 → Int32 → Option Int32)) (x2 : Int32) (x3 : Int32) (x4 : Int32) (x5 : Int32) (s0 : Int32) : Option Int32 :=
  (sh_X3_isFirstOnPage 52 x4 μ).bind fun r5 =>
  if r5 = (0 : Int32) then
  k27 x2 x3 (x4 + (1 : Int32))
  else
  if x3 < x5 then
  k27 (x2 + (1 : Int32)) x3 (x4 + (1 : Int32))
  else
  if x5 = x3 then
  if s0 = (0 : Int32) then
  k27 x2 x3 (x4 + (1 : Int32))
  else
  k27 (x2 + (1 : Int32)) x3 (x4 + (1 : Int32))
  else
  k27 x2 x3 (x4 + (1 : Int32))
def sh_X11_pagesBefore_27 (n : Nat) (a1 : Int32) (μ : Mm) : Nat → Int32 → Int32 → Int32 → Option Int32
  | 0, _, _, _ => none
  | f + 1, x2, x3, x4 => if (μ.1 11 2) ≤ x4 then
  some x2
  else
  (sh_X3_beginners n 52 x4 (μ.1 11 2) μ).bind fun r2 =>
  (sh_X5_at 55 x4 μ).bind fun r3 =>
  (sh_X5_at 55 a1 μ).bind fun r4 =>
  if r4 ≤ r3 then
  sh_X11_pagesBefore_103 n a1 μ (fun (x2 : Int32) (x3 : Int32) (x4 : Int32) => sh_X11_pagesBefore_27 n a1 μ f x2 x3 x4) x2 x3 x4 r2 (0 : Int32)
  else
  sh_X11_pagesBefore_103 n a1 μ (fun (x2 : Int32) (x3 : Int32) (x4 : Int32) => sh_X11_pagesBefore_27 n a1 μ f x2 x3 x4) x2 x3 x4 r2 (1 : Int32)
def sh_X11_pagesBefore (n : Nat) (a1 : Int32) (μ : Mm) : Option Int32 :=
  (sh_X3_beginners n 52 a1 (μ.1 11 2) μ).bind fun r1 =>
  sh_X11_pagesBefore_27 n a1 μ n (0 : Int32) r1 (0 : Int32)
def sh_X11_crowded_7 (n : Nat) (a1 : Int32) (μ : Mm) : Nat → Int32 → Option (Nat ⊕ Int32)
  | 0, _ => none
  | f + 1, x2 => if (μ.1 11 2) ≤ x2 then
  some (.inr (-1 : Int32))
  else
  (sh_X3_isFirstOnPage 52 x2 μ).bind fun r3 =>
  if r3 = (0 : Int32) then
  sh_X11_crowded_7 n a1 μ f (x2 + (1 : Int32))
  else
  (sh_X11_pagesBefore n x2 μ).bind fun r4 =>
  if r4 = a1 then
  (sh_X5_at 55 x2 μ).bind fun r5 =>
  some (.inr r5)
  else
  sh_X11_crowded_7 n a1 μ f (x2 + (1 : Int32))
def sh_X11_crowded (n : Nat) (a1 : Int32) (μ : Mm) : Option (Nat ⊕ Int32) :=
  (sh_X11_checkPlace a1 μ).bind fun r1 => Sum.elim (fun ec => some (.inl ec)) (fun v2 =>
  sh_X11_crowded_7 n a1 μ n (0 : Int32)) r1
def sh_X11_titlesBefore_20 (n : Nat) (a1 : Int32) (μ : Mm) : Nat → Int32 → Int32 → Int32 → Option Int32
  | 0, _, _, _ => none
  | f + 1, x2, x3, x4 => if (μ.1 11 2) ≤ x4 then
  some x2
  else
  (sh_X5_at 50 x4 μ).bind fun r2 =>
  if x3 < r2 then
  sh_X11_titlesBefore_20 n a1 μ f (x2 + (1 : Int32)) x3 (x4 + (1 : Int32))
  else
  if r2 = x3 then
  if a1 ≤ x4 then
  sh_X11_titlesBefore_20 n a1 μ f x2 x3 (x4 + (1 : Int32))
  else
  sh_X11_titlesBefore_20 n a1 μ f (x2 + (1 : Int32)) x3 (x4 + (1 : Int32))
  else
  sh_X11_titlesBefore_20 n a1 μ f x2 x3 (x4 + (1 : Int32))
def sh_X11_titlesBefore (n : Nat) (a1 : Int32) (μ : Mm) : Option Int32 :=
  (sh_X5_at 50 a1 μ).bind fun r1 =>
  sh_X11_titlesBefore_20 n a1 μ n (0 : Int32) r1 (0 : Int32)
def sh_X11_longest_7 (n : Nat) (a1 : Int32) (μ : Mm) : Nat → Int32 → Option (Nat ⊕ Int32)
  | 0, _ => none
  | f + 1, x2 => if (μ.1 11 2) ≤ x2 then
  some (.inr (-1 : Int32))
  else
  (sh_X11_titlesBefore n x2 μ).bind fun r3 =>
  if r3 = a1 then
  some (.inr x2)
  else
  sh_X11_longest_7 n a1 μ f (x2 + (1 : Int32))
def sh_X11_longest (n : Nat) (a1 : Int32) (μ : Mm) : Option (Nat ⊕ Int32) :=
  (sh_X11_checkPlace a1 μ).bind fun r1 => Sum.elim (fun ec => some (.inl ec)) (fun v2 =>
  sh_X11_longest_7 n a1 μ n (0 : Int32)) r1
def sh_X11_undo_65 (n : Nat) (μ : Mm) : Option ((Nat × Mm) ⊕ (Int32 × Mm)) :=
  (sh_X1_layAnew n 38 11 μ).bind fun r6 =>
  some (.inr ((r6.1 0 8), r6))
def sh_X11_undo (n : Nat) (μ : Mm) : Option ((Nat × Mm) ⊕ (Int32 × Mm)) :=
  if (0 : Int32) < (μ.1 0 8) then
  (rm (((μ.1 0 7) + (6 : Int32)) - (1 : Int32)) (6 : Int32)).bind fun v1 =>
  (pt μ 0 7 v1).bind fun μ2 =>
  (pt μ2 0 8 ((μ2.1 0 8) - (1 : Int32))).bind fun μ3 =>
  (sh_X11_earlierAt (μ3.1 0 7) μ3).bind fun r4 =>
  (sh_X6_take 10 r4 μ3).bind fun r5 =>
  sh_X11_undo_65 n r5
  else
  some (.inl (0, μ))
def sh_X11_undoCount (μ : Mm) : Option Int32 :=
  some (μ.1 0 8)
def sh_X11_writeLine (n : Nat) (a1 : Int32) (μ : Mm) : Option ((Nat × Mm) ⊕ (Int32 × Mm)) :=
  (sh_X11_checkLine a1 μ).bind fun r1 => Sum.elim (fun ec => some (.inl (ec, μ))) (fun v2 =>
  (sh_X1_typeLines n 38 3 11 a1 (a1 + (1 : Int32)) μ).bind fun r3 =>
  (sh_X8_length 3 r3).bind fun r4 =>
  some (.inr (r4, r3))) r1
def sh_X11_writeTable (n : Nat) (μ : Mm) : Option (Int32 × Mm) :=
  (sh_X1_typeLines n 38 3 11 (0 : Int32) (μ.1 61 2) μ).bind fun r1 =>
  (sh_X8_length 3 r1).bind fun r2 =>
  some (r2, r1)
def sh_X11_outputByte_15 (a1 : Int32) (μ : Mm) : Option (Nat ⊕ Int32) :=
  some (.inl 2)
def sh_X11_outputByte (a1 : Int32) (μ : Mm) : Option (Nat ⊕ Int32) :=
  if a1 < (0 : Int32) then
  sh_X11_outputByte_15 a1 μ
  else
  (sh_X8_length 3 μ).bind fun r1 =>
  if a1 < r1 then
  (sh_X8_at 3 a1 μ).bind fun r2 =>
  some (.inr r2)
  else
  sh_X11_outputByte_15 a1 μ
