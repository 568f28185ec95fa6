/-! THE LAW'S RUN -/
theorem and_63 (x : Int32) : ∃ j : Nat, j < 64 ∧ x &&& 63 = Int32.ofNat j := by
  refine ⟨(x.toBitVec &&& 63#32).toNat, ?_, ?_⟩
  · rw [BitVec.toNat_and]
    exact Nat.lt_of_le_of_lt Nat.and_le_right (by decide)
  · apply Int32.toBitVec_inj.mp
    show (x.toBitVec &&& 63#32) = BitVec.ofNat 32 (x.toBitVec &&& 63#32).toNat
    rw [BitVec.ofNat_toNat, BitVec.setWidth_eq]
theorem dL_law_2649 : decode cL_law 2649 = .ok (.ireturn, 1) := by decide +kernel
section RUN
variable {p : Program} {l : Launch} {e : Env} {s : State} {m : MethodId} {args : Array Value} {below : List Frame} {meth : Method} {c : Code} {H : Heap} {locs : List Loc} {cells slots : Nat} {Q : State → Prop}
variable {ls : Array Slot} {G : Gt} {μ μ1 μ2 : Mm} {sb L : Nat} {xs : Nat → Int32} {i : Int32}
set_option maxHeartbeats 4000000 in
set_option maxRecDepth 100000 in
theorem l_disp (hlT : l.stackTraces = false) {j : Nat} (hj : j < 64) (hB : lwB p s m args meth c sb L xs i cells slots G μ H locs ls) (kk : lwK p l e s m args below meth c sb i cells slots Q) : W p l e room_1 s m args below meth c H locs cells slots Q (F0 m 40 ls [.int (Int32.ofNat j)]) := by
  have hx : p.tables.exec = Jvm.exec := hB.2.1.1
  have hb : c.code = cL_law := hB.2.1.2.1
  have g0 : 0 ≤ j := Nat.zero_le j
  rcases (Nat.lt_or_eq_of_le g0).symm with rfl | g1
  · exact lv_tableIn (off := 224) (tgt := 264) hx hb dL_law_40 (by decide) (by decide) rfl (by decide) (s_append hlT hB kk)
  replace g1 : 1 ≤ j := g1
  rcases (Nat.lt_or_eq_of_le g1).symm with rfl | g2
  · exact lv_tableIn (off := 328) (tgt := 368) hx hb dL_law_40 (by decide) (by decide) rfl (by decide) (s_truncate hlT hB kk)
  replace g2 : 2 ≤ j := g2
  rcases (Nat.lt_or_eq_of_le g2).symm with rfl | g3
  · exact lv_tableIn (off := 364) (tgt := 404) hx hb dL_law_40 (by decide) (by decide) rfl (by decide) (s_load hlT hB kk)
  replace g3 : 3 ≤ j := g3
  rcases (Nat.lt_or_eq_of_le g3).symm with rfl | g4
  · exact lv_tableIn (off := 377) (tgt := 417) hx hb dL_law_40 (by decide) (by decide) rfl (by decide) (s_errorCode hlT hB kk)
  replace g4 : 4 ≤ j := g4
  rcases (Nat.lt_or_eq_of_le g4).symm with rfl | g5
  · exact lv_tableIn (off := 390) (tgt := 430) hx hb dL_law_40 (by decide) (by decide) rfl (by decide) (s_errorPosition hlT hB kk)
  replace g5 : 5 ≤ j := g5
  rcases (Nat.lt_or_eq_of_le g5).symm with rfl | g6
  · exact lv_tableIn (off := 403) (tgt := 443) hx hb dL_law_40 (by decide) (by decide) rfl (by decide) (s_count hlT hB kk)
  replace g6 : 6 ≤ j := g6
  rcases (Nat.lt_or_eq_of_le g6).symm with rfl | g7
  · exact lv_tableIn (off := 459) (tgt := 499) hx hb dL_law_40 (by decide) (by decide) rfl (by decide) (s_setting hlT hB kk)
  replace g7 : 7 ≤ j := g7
  rcases (Nat.lt_or_eq_of_le g7).symm with rfl | g8
  · exact lv_tableIn (off := 515) (tgt := 555) hx hb dL_law_40 (by decide) (by decide) rfl (by decide) (s_isRight hlT hB kk)
  replace g8 : 8 ≤ j := g8
  rcases (Nat.lt_or_eq_of_le g8).symm with rfl | g9
  · exact lv_tableIn (off := 528) (tgt := 568) hx hb dL_law_40 (by decide) (by decide) rfl (by decide) (s_section hlT hB kk)
  replace g9 : 9 ≤ j := g9
  rcases (Nat.lt_or_eq_of_le g9).symm with rfl | g10
  · exact lv_tableIn (off := 596) (tgt := 636) hx hb dL_law_40 (by decide) (by decide) rfl (by decide) (s_titleWidth hlT hB kk)
  replace g10 : 10 ≤ j := g10
  rcases (Nat.lt_or_eq_of_le g10).symm with rfl | g11
  · exact lv_tableIn (off := 652) (tgt := 692) hx hb dL_law_40 (by decide) (by decide) rfl (by decide) (s_page hlT hB kk)
  replace g11 : 11 ≤ j := g11
  rcases (Nat.lt_or_eq_of_le g11).symm with rfl | g12
  · exact lv_tableIn (off := 708) (tgt := 748) hx hb dL_law_40 (by decide) (by decide) rfl (by decide) (s_bookPage hlT hB kk)
  replace g12 : 12 ≤ j := g12
  rcases (Nat.lt_or_eq_of_le g12).symm with rfl | g13
  · exact lv_tableIn (off := 764) (tgt := 804) hx hb dL_law_40 (by decide) (by decide) rfl (by decide) (s_lineOnPage hlT hB kk)
  replace g13 : 13 ≤ j := g13
  rcases (Nat.lt_or_eq_of_le g13).symm with rfl | g14
  · exact lv_tableIn (off := 820) (tgt := 860) hx hb dL_law_40 (by decide) (by decide) rfl (by decide) (s_numberWidth hlT hB kk)
  replace g14 : 14 ≤ j := g14
  rcases (Nat.lt_or_eq_of_le g14).symm with rfl | g15
  · exact lv_tableIn (off := 876) (tgt := 916) hx hb dL_law_40 (by decide) (by decide) rfl (by decide) (s_findPage hlT hB kk)
  replace g15 : 15 ≤ j := g15
  rcases (Nat.lt_or_eq_of_le g15).symm with rfl | g16
  · exact lv_tableIn (off := 944) (tgt := 984) hx hb dL_law_40 (by decide) (by decide) rfl (by decide) (s_sectionAt hlT hB kk)
  replace g16 : 16 ≤ j := g16
  rcases (Nat.lt_or_eq_of_le g16).symm with rfl | g17
  · exact lv_tableIn (off := 1000) (tgt := 1040) hx hb dL_law_40 (by decide) (by decide) rfl (by decide) (s_firstLine hlT hB kk)
  replace g17 : 17 ≤ j := g17
  rcases (Nat.lt_or_eq_of_le g17).symm with rfl | g18
  · exact lv_tableIn (off := 1056) (tgt := 1096) hx hb dL_law_40 (by decide) (by decide) rfl (by decide) (s_lineCount hlT hB kk)
  replace g18 : 18 ≤ j := g18
  rcases (Nat.lt_or_eq_of_le g18).symm with rfl | g19
  · exact lv_tableIn (off := 1112) (tgt := 1152) hx hb dL_law_40 (by decide) (by decide) rfl (by decide) (s_line hlT hB kk)
  replace g19 : 19 ≤ j := g19
  rcases (Nat.lt_or_eq_of_le g19).symm with rfl | g20
  · exact lv_tableIn (off := 1180) (tgt := 1220) hx hb dL_law_40 (by decide) (by decide) rfl (by decide) (s_dotCount hlT hB kk)
  replace g20 : 20 ≤ j := g20
  rcases (Nat.lt_or_eq_of_le g20).symm with rfl | g21
  · exact lv_tableIn (off := 1236) (tgt := 1276) hx hb dL_law_40 (by decide) (by decide) rfl (by decide) (s_firstDot hlT hB kk)
  replace g21 : 21 ≤ j := g21
  rcases (Nat.lt_or_eq_of_le g21).symm with rfl | g22
  · exact lv_tableIn (off := 1292) (tgt := 1332) hx hb dL_law_40 (by decide) (by decide) rfl (by decide) (s_dotsAt hlT hB kk)
  replace g22 : 22 ≤ j := g22
  rcases (Nat.lt_or_eq_of_le g22).symm with rfl | g23
  · exact lv_tableIn (off := 1348) (tgt := 1388) hx hb dL_law_40 (by decide) (by decide) rfl (by decide) (s_isOverfull hlT hB kk)
  replace g23 : 23 ≤ j := g23
  rcases (Nat.lt_or_eq_of_le g23).symm with rfl | g24
  · exact lv_tableIn (off := 1411) (tgt := 1451) hx hb dL_law_40 (by decide) (by decide) rfl (by decide) (s_overfullCount hlT hB kk)
  replace g24 : 24 ≤ j := g24
  rcases (Nat.lt_or_eq_of_le g24).symm with rfl | g25
  · exact lv_tableIn (off := 1424) (tgt := 1464) hx hb dL_law_40 (by decide) (by decide) rfl (by decide) (s_rounds hlT hB kk)
  replace g25 : 25 ≤ j := g25
  rcases (Nat.lt_or_eq_of_le g25).symm with rfl | g26
  · exact lv_tableIn (off := 1437) (tgt := 1477) hx hb dL_law_40 (by decide) (by decide) rfl (by decide) (s_collides hlT hB kk)
  replace g26 : 26 ≤ j := g26
  rcases (Nat.lt_or_eq_of_le g26).symm with rfl | g27
  · exact lv_tableIn (off := 1500) (tgt := 1540) hx hb dL_law_40 (by decide) (by decide) rfl (by decide) (s_collisions hlT hB kk)
  replace g27 : 27 ≤ j := g27
  rcases (Nat.lt_or_eq_of_le g27).symm with rfl | g28
  · exact lv_tableIn (off := 1513) (tgt := 1553) hx hb dL_law_40 (by decide) (by decide) rfl (by decide) (s_wordCount hlT hB kk)
  replace g28 : 28 ≤ j := g28
  rcases (Nat.lt_or_eq_of_le g28).symm with rfl | g29
  · exact lv_tableIn (off := 1526) (tgt := 1566) hx hb dL_law_40 (by decide) (by decide) rfl (by decide) (s_wordSections hlT hB kk)
  replace g29 : 29 ≤ j := g29
  rcases (Nat.lt_or_eq_of_le g29).symm with rfl | g30
  · exact lv_tableIn (off := 1582) (tgt := 1622) hx hb dL_law_40 (by decide) (by decide) rfl (by decide) (s_findWord hlT hB kk)
  replace g30 : 30 ≤ j := g30
  rcases (Nat.lt_or_eq_of_le g30).symm with rfl | g31
  · exact lv_tableIn (off := 1595) (tgt := 1635) hx hb dL_law_40 (by decide) (by decide) rfl (by decide) (s_setLength hlT hB kk)
  replace g31 : 31 ≤ j := g31
  rcases (Nat.lt_or_eq_of_le g31).symm with rfl | g32
  · exact lv_tableIn (off := 1663) (tgt := 1703) hx hb dL_law_40 (by decide) (by decide) rfl (by decide) (s_setLevel hlT hB kk)
  replace g32 : 32 ≤ j := g32
  rcases (Nat.lt_or_eq_of_le g32).symm with rfl | g33
  · exact lv_tableIn (off := 1731) (tgt := 1771) hx hb dL_law_40 (by decide) (by decide) rfl (by decide) (s_setTitle hlT hB kk)
  replace g33 : 33 ≤ j := g33
  rcases (Nat.lt_or_eq_of_le g33).symm with rfl | g34
  · exact lv_tableIn (off := 1787) (tgt := 1827) hx hb dL_law_40 (by decide) (by decide) rfl (by decide) (s_insert hlT hB kk)
  replace g34 : 34 ≤ j := g34
  rcases (Nat.lt_or_eq_of_le g34).symm with rfl | g35
  · exact lv_tableIn (off := 1867) (tgt := 1907) hx hb dL_law_40 (by decide) (by decide) rfl (by decide) (s_remove hlT hB kk)
  replace g35 : 35 ≤ j := g35
  rcases (Nat.lt_or_eq_of_le g35).symm with rfl | g36
  · exact lv_tableIn (off := 1923) (tgt := 1963) hx hb dL_law_40 (by decide) (by decide) rfl (by decide) (s_setWidth hlT hB kk)
  replace g36 : 36 ≤ j := g36
  rcases (Nat.lt_or_eq_of_le g36).symm with rfl | g37
  · exact lv_tableIn (off := 1979) (tgt := 2019) hx hb dL_law_40 (by decide) (by decide) rfl (by decide) (s_setGrid hlT hB kk)
  replace g37 : 37 ≤ j := g37
  rcases (Nat.lt_or_eq_of_le g37).symm with rfl | g38
  · exact lv_tableIn (off := 2035) (tgt := 2075) hx hb dL_law_40 (by decide) (by decide) rfl (by decide) (s_setRight hlT hB kk)
  replace g38 : 38 ≤ j := g38
  rcases (Nat.lt_or_eq_of_le g38).symm with rfl | g39
  · exact lv_tableIn (off := 2076) (tgt := 2116) hx hb dL_law_40 (by decide) (by decide) rfl (by decide) (s_proof hlT hB kk)
  replace g39 : 39 ≤ j := g39
  rcases (Nat.lt_or_eq_of_le g39).symm with rfl | g40
  · exact lv_tableIn (off := 2089) (tgt := 2129) hx hb dL_law_40 (by decide) (by decide) rfl (by decide) (s_toRead hlT hB kk)
  replace g40 : 40 ≤ j := g40
  rcases (Nat.lt_or_eq_of_le g40).symm with rfl | g41
  · exact lv_tableIn (off := 2102) (tgt := 2142) hx hb dL_law_40 (by decide) (by decide) rfl (by decide) (s_changedLines hlT hB kk)
  replace g41 : 41 ≤ j := g41
  rcases (Nat.lt_or_eq_of_le g41).symm with rfl | g42
  · exact lv_tableIn (off := 2115) (tgt := 2155) hx hb dL_law_40 (by decide) (by decide) rfl (by decide) (s_slack hlT hB kk)
  replace g42 : 42 ≤ j := g42
  rcases (Nat.lt_or_eq_of_le g42).symm with rfl | g43
  · exact lv_tableIn (off := 2171) (tgt := 2211) hx hb dL_law_40 (by decide) (by decide) rfl (by decide) (s_pagesIf hlT hB kk)
  replace g43 : 43 ≤ j := g43
  rcases (Nat.lt_or_eq_of_le g43).symm with rfl | g44
  · exact lv_tableIn (off := 2239) (tgt := 2279) hx hb dL_law_40 (by decide) (by decide) rfl (by decide) (s_leastWidth hlT hB kk)
  replace g44 : 44 ≤ j := g44
  rcases (Nat.lt_or_eq_of_le g44).symm with rfl | g45
  · exact lv_tableIn (off := 2295) (tgt := 2335) hx hb dL_law_40 (by decide) (by decide) rfl (by decide) (s_bestWidth hlT hB kk)
  replace g45 : 45 ≤ j := g45
  rcases (Nat.lt_or_eq_of_le g45).symm with rfl | g46
  · exact lv_tableIn (off := 2308) (tgt := 2348) hx hb dL_law_40 (by decide) (by decide) rfl (by decide) (s_crowded hlT hB kk)
  replace g46 : 46 ≤ j := g46
  rcases (Nat.lt_or_eq_of_le g46).symm with rfl | g47
  · exact lv_tableIn (off := 2364) (tgt := 2404) hx hb dL_law_40 (by decide) (by decide) rfl (by decide) (s_longest hlT hB kk)
  replace g47 : 47 ≤ j := g47
  rcases (Nat.lt_or_eq_of_le g47).symm with rfl | g48
  · exact lv_tableIn (off := 2420) (tgt := 2460) hx hb dL_law_40 (by decide) (by decide) rfl (by decide) (s_undo hlT hB kk)
  replace g48 : 48 ≤ j := g48
  rcases (Nat.lt_or_eq_of_le g48).symm with rfl | g49
  · exact lv_tableIn (off := 2464) (tgt := 2504) hx hb dL_law_40 (by decide) (by decide) rfl (by decide) (s_undoCount hlT hB kk)
  replace g49 : 49 ≤ j := g49
  rcases (Nat.lt_or_eq_of_le g49).symm with rfl | g50
  · exact lv_tableIn (off := 2477) (tgt := 2517) hx hb dL_law_40 (by decide) (by decide) rfl (by decide) (s_writeLine hlT hB kk)
  replace g50 : 50 ≤ j := g50
  rcases (Nat.lt_or_eq_of_le g50).symm with rfl | g51
  · exact lv_tableIn (off := 2533) (tgt := 2573) hx hb dL_law_40 (by decide) (by decide) rfl (by decide) (s_writeTable hlT hB kk)
  replace g51 : 51 ≤ j := g51
  rcases (Nat.lt_or_eq_of_le g51).symm with rfl | g52
  · exact lv_tableIn (off := 2546) (tgt := 2586) hx hb dL_law_40 (by decide) (by decide) rfl (by decide) (s_outputByte hlT hB kk)
  replace g52 : 52 ≤ j := g52
  obtain ⟨h13, F, hIV, hW, hS, hl, hX, hsb, hin, hc1, hc2⟩ := hB
  have hto : (Int32.ofNat j).toInt = (j : Int) := by
    have h9 : Int32.ofNat j = jv (j : Int) := jv_nI j
    rw [h9]
    exact jv_toInt (by omega) (by omega)
  exact lv_tableOut (tgt := 2642) hx hb dL_law_40 (Or.inr (by rw [hto]; omega)) (by decide) (W.widen (by omega) (by omega) (kk G μ H locs ls h13 F hIV hW hS hl))
/-- the loop, by the calls that are left -/
theorem l_loop (hlT : l.stackTraces = false) (hX : va_X sb L xs s s.heap) (hsb : sb < s.heap.size) (hL : L ≤ 3072) {C Z : Nat} (hC : C ≤ room_1.cells) (hZ : Z ≤ room_1.slots)
    (kk : ∀ (H : Heap) (locs : List Loc) (ls : Array Slot), va_S (fb s.heap.size) s.heap H locs → W p l e room_1 s m args below meth c H locs C Z Q (F0 m 2648 ls [])) :
    ∀ (k iN cells slots : Nat) (G : Gt) (μ : Mm) (H : Heap) (locs : List Loc) (ls : Array Slot), L < iN + 6 * k → iN ≤ 3078 → cells + 4 * k ≤ C → slots + 24 * k ≤ Z → G.2.2.2 13 = 1 → FX (fg G) s.heap.size RL cL_law 7 p s m args meth c → IV μ → WH (fg G) s.heap.size μ H → va_S (fb s.heap.size) s.heap H locs → lv_has ls 7 (lwL sb s.heap.size (jv (iN : Int))) →
      W p l e room_1 s m args below meth c H locs cells slots Q (F0 m 23 ls []) := by
  intro k
  induction k with
  | zero =>
    intro iN cells slots G μ H locs ls h1 h2 h3 h4 h13 F hIV hW hS hl
    have hx := F.1
    have hb := F.2.1
    replace hl : lv_has ls 7 [(0, .ref sb), (1, .ref (s.heap.size + 0)), (2, .ref (s.heap.size + 306)), (3, .ref (s.heap.size + 331)), (4, .int (jv (iN : Int)))] := hl
    refine lv_iload hx hb dL_law_23 (lv_at hl 4 rfl) ?_
    refine lv_aload_n hx hb dL_law_25 rfl (lv_at hl 0 rfl) ?_
    refine va_slen hx hb hX hsb (fun q => Nat.lt_irrefl _ (Nat.lt_of_lt_of_le hsb q)) hS dL_law_26 ?_
    refine lv_bipush (v := (6 : Int32)) hx hb dL_law_27 (by decide) ?_
    refine lv_isub hx hb dL_law_29 ?_
    rw [show Int32.ofNat L - 6 = jv ((L : Int) - 6) from (congrArg (· - (6 : Int32)) (jv_nI L)).trans (jv_sub _ 6)]
    exact lv_icmp_gt (tgt := 2648) hx hb dL_law_30 (by decide) (fun _ => W.widen (by omega) (by omega) (kk H locs ls hS)) (fun q => absurd ((jv_lt (by omega) (by omega) (by omega) (by omega)).mpr (by omega)) q)
  | succ k ih =>
    intro iN cells slots G μ H locs ls h1 h2 h3 h4 h13 F hIV hW hS hl
    have hx := F.1
    have hb := F.2.1
    have hl0 := hl
    replace hl : lv_has ls 7 [(0, .ref sb), (1, .ref (s.heap.size + 0)), (2, .ref (s.heap.size + 306)), (3, .ref (s.heap.size + 331)), (4, .int (jv (iN : Int)))] := hl
    refine lv_iload hx hb dL_law_23 (lv_at hl 4 rfl) ?_
    refine lv_aload_n hx hb dL_law_25 rfl (lv_at hl 0 rfl) ?_
    refine va_slen hx hb hX hsb (fun q => Nat.lt_irrefl _ (Nat.lt_of_lt_of_le hsb q)) hS dL_law_26 ?_
    refine lv_bipush (v := (6 : Int32)) hx hb dL_law_27 (by decide) ?_
    refine lv_isub hx hb dL_law_29 ?_
    rw [show Int32.ofNat L - 6 = jv ((L : Int) - 6) from (congrArg (· - (6 : Int32)) (jv_nI L)).trans (jv_sub _ 6)]
    refine lv_icmp_gt (tgt := 2648) hx hb dL_law_30 (by decide) (fun _ => W.widen (by omega) (by omega) (kk H locs ls hS)) (fun q => ?_)
    have hi6 : iN + 6 ≤ L := by
      rcases Nat.lt_or_ge L (iN + 6) with h | h
      · exact absurd ((jv_lt (by omega) (by omega) (by omega) (by omega)).mpr (by omega)) q
      · exact h
    have hin : ∀ t : Nat, t < 6 → vp_in (jv ((iN : Int) + t)) L := fun t ht => by
      rw [vp_in_iff, jv_toInt (by omega) (by omega)]
      omega
    refine lv_aload_n hx hb dL_law_33 rfl (lv_at hl 0 rfl) ?_
    refine lv_iload hx hb dL_law_34 (lv_at hl 4 rfl) ?_
    refine va_sld hx hb hX hsb (fun q => Nat.lt_irrefl _ (Nat.lt_of_lt_of_le hsb q)) hS (by have h9 := hin 0 (by decide); rw [show (iN : Int) + ((0 : Nat) : Int) = (iN : Int) by omega] at h9; exact h9) dL_law_36 ?_
    refine lv_bipush (v := (63 : Int32)) hx hb dL_law_37 (by decide) ?_
    refine lv_iand hx hb dL_law_39 ?_
    obtain ⟨j, hj, ej⟩ := and_63 (xs (jv (iN : Int)).toNatClampNeg)
    rw [ej]
    refine l_disp (sb := sb) (L := L) (xs := xs) (i := jv (iN : Int)) (G := G) (μ := μ) hlT hj ⟨h13, F, hIV, hW, hS, hl0, hX, hsb, fun t ht => ?_, by omega, by omega⟩ ?_
    · simp only [List.mem_cons, List.not_mem_nil, or_false] at ht
      have h5 : ∃ u : Nat, u < 6 ∧ t = jv (u : Int) := by
        rcases ht with rfl | rfl | rfl | rfl | rfl
        · exact ⟨1, by decide, by decide⟩
        · exact ⟨2, by decide, by decide⟩
        · exact ⟨3, by decide, by decide⟩
        · exact ⟨4, by decide, by decide⟩
        · exact ⟨5, by decide, by decide⟩
      obtain ⟨u, hu, rfl⟩ := h5
      rw [jv_add]
      exact hin u hu
    · intro G1 μ1 H1 locs1 ls1 h131 F1 hIV1 hW1 hS1 hl1
      replace hl1 : lv_has ls1 7 [(0, .ref sb), (1, .ref (s.heap.size + 0)), (2, .ref (s.heap.size + 306)), (3, .ref (s.heap.size + 331)), (4, .int (jv (iN : Int)))] := hl1
      refine lv_iinc (k := 4) (v := jv ((iN + 6 : Nat) : Int)) (lv' := [(4, .int (jv ((iN + 6 : Nat) : Int))), (0, .ref sb), (1, .ref (s.heap.size + 0)), (2, .ref (s.heap.size + 306)), (3, .ref (s.heap.size + 331))]) hx hb dL_law_2642 hl1 rfl ?_ (by decide) rfl (fun ls2 hl2 => ?_)
      · have e6 : Int32.ofInt 6 = jv 6 := rfl
        rw [e6, jv_add]
        exact congrArg jv (by omega)
      refine lv_goto (tgt := 23) hx hb dL_law_2645 (by decide) ?_
      exact ih (iN + 6) (cells + 4) (slots + 24) G1 μ1 H1 locs1 ls2 (by omega) (by omega) (by omega) (by omega) h131 F1 hIV1 hW1 hS1 (lv_sub hl2 [1, 2, 3, 4, 0] rfl)
/-- behind a constructor that makes a whole world -/
theorem l_after {R : Room} {pc : Nat} {b mc ms : Nat} {a : Array Value} {st0 rest : List Value} (hr : va_Run p l e R s m args below meth c H locs cells slots mc ms (F0 m pc ls st0) rest (QW G b μ1 none a) (fb b)) (hS : va_S (fb b) s.heap H locs)
    (kk : ∀ (H1 : Heap) (locs1 : List Loc), WH G b μ1 H1 → va_S (fb b) s.heap H1 locs1 → W p l e R s m args below meth c H1 locs1 (cells + mc) (slots + ms) Q (F0 m (pc + 3) ls rest)) : W p l e R s m args below meth c H locs cells slots Q (F0 m pc ls st0) := by
  intro T hT X
  obtain ⟨v', st₀, t, T', L, h0, X', hL, e1, e2, ⟨hv, hw, hz, hk⟩, st⟩ := hr T hT X
  cases hv
  rw [h0] at hz hk
  obtain ⟨t2, a1, b1⟩ := kk T'.heap (locs ++ L) (by rw [e1]; exact hw)
    ⟨Nat.le_trans hS.1 (by rw [e1]; exact hz), fun q h1 h2 => by rw [e1, hk q (Nat.lt_of_lt_of_le h1 hS.1) h2]; exact hS.2.1 q h1 h2, fun q hq => by
      rcases List.mem_append.mp hq with h | h
      · exact hS.2.2 q h
      · exact hL q h⟩ T' rfl X'
  exact ⟨t2, st t2 a1, b1⟩
def f11 : List Value := [.null, .null, .null, .int 0, .int 0, .null, .null, .int 0, .int 0, .null, .null, .null, .null, .null, .null]
def f12 : List Value := [.int 0, .null, .null, .null, .null, .int 0, .int 0, .int 0, .int 0, .int 0, .int 0, .int 0, .int 0, .int 0, .int 0, .int 0, .null, .int 0, .null, .null, .null, .null, .null, .int 0, .int 0, .int 0, .int 0, .null, .null, .null, .null, .null, .null, .null, .null, .null, .int 0, .int 0, .int 0, .int 0, .int 0, .null, .null, .null, .int 0, .null, .null, .int 0, .null, .int 0]
set_option maxHeartbeats 4000000 in
set_option maxRecDepth 100000 in
theorem l_begin (hlT : l.stackTraces = false) (hn0 : G.2.2.2 13 = 0) (F : FX G s.heap.size RL cL_law 7 p s m args meth c) (hAO : va_AO "ContentsSetter$State" s) (hl : lv_has ls 7 [(0, .ref sb)])
    (kk : ∀ (G1 : Gt) (μ : Mm) (H : Heap) (locs : List Loc) (ls : Array Slot), G1.2.2.2 13 = 1 → FX (fg G1) s.heap.size RL cL_law 7 p s m args meth c → IV μ → WH (fg G1) s.heap.size μ H → va_S (fb s.heap.size) s.heap H locs → lv_has ls 7 (lwL sb s.heap.size (jv ((0 : Nat) : Int))) → W p l e room_1 s m args below meth c H locs 332 193693 Q (F0 m 23 ls [])) :
    W p l e room_1 s m args below meth c s.heap [] 0 0 Q (F0 m 0 ls []) := by
  have hx := F.1
  have hb := F.2.1
  obtain ⟨μ1, μ2, g1, hμ, g2, he, hIV⟩ := start 120000 (Nat.le_refl _)
  have hS : va_S (fb (s.heap.size + 0)) s.heap s.heap [] := va_S.rf
  have hW : PW G s.heap.size 0 0 (fun _ => .inr (11, f11)) s.heap := fun i h1 h2 => absurd h2 (Nat.not_lt_zero i)
  refine n_new 11 (fs := f11) rfl inB11 tyX11 tyX11_ok F q_28 q_29 q_1 hW ⟨Nat.le_refl _, Nat.le_refl _, rfl⟩ hS (fun j hj => match j, hj with | 0, _ => rfl | 1, _ => rfl | 2, _ => rfl | 3, _ => rfl | 4, _ => rfl | 5, _ => rfl | 6, _ => rfl | 7, _ => rfl | 8, _ => rfl | 9, _ => rfl | 10, _ => rfl | 11, _ => rfl | 12, _ => rfl | 13, _ => rfl | 14, _ => rfl | k + 15, h => absurd h (by omega)) ⟨Nat.le_of_ble_eq_true rfl, Nat.le_of_ble_eq_true rfl⟩ dL_law_0 (fun H hW hS => ?_)
  refine lv_dup hx hb dL_law_3 rfl ?_
  refine n_eq hW ⟨by decide, rfl⟩ (fun hz => ?_)
  have hM := c_X11_new (l := l) (b := s.heap.size) (E := up (fun _ => .inr (11, f11)) 0 (.inr (11, f11))) hn0 g1 up_s
  have hpre : ∀ U : State, U.heap = H → s.WarmedH U.vm → PcS G s.heap.size (up (fun _ => .inr (11, f11)) 0 (.inr (11, f11))) [.ref (s.heap.size + 0)] ([.ref (s.heap.size + 0)] : List Value).toArray U := fun U hU hWm => by
    exact ⟨rfl, ⟨by rw [hU]; exact hW, by rw [hU]; exact hz⟩, va_K.moved hWm.alike F.2.2.2.2.2.1, NW.warm hWm F.2.2.2.2.2.2.1, by rw [hU]; exact SW.warm hWm (SW.kept F.2.2.2.2.2.2.2.1 (va_S.wide hS)), va_AO.moved hWm.alike hAO⟩
  have hS : va_S (fb s.heap.size) s.heap H [] := hS
  refine l_after (va_runI (As := []) (rest := [.ref (s.heap.size + 0)]) ⟨hx, hb, F.2.2.1, F.2.2.2.1, F.2.2.2.2.1⟩ hM (cwI (bytes := cX11_init) (maxL := 2) 0 F.2.2.2.2.1 (wT_in q_32) rfl rfl rfl (F.2.2.2.2.1 _ q_1) (F.2.2.2.2.1 _ q_30) (F.2.2.2.2.1 _ q_31) rfl ⟨by decide +kernel, by decide +kernel, by decide +kernel⟩ ⟨Nat.le_of_ble_eq_true rfl, Nat.le_of_ble_eq_true rfl⟩) ⟨PcS.blind, hpre⟩ rfl rfl hl.1 rfl (lv_room (Nat.le_of_ble_eq_true rfl)) dL_law_4 ⟨Nat.le_of_ble_eq_true rfl, Nat.le_of_ble_eq_true rfl⟩) hS (fun H locs hW hS => ?_)
  refine lv_astore_n (lv' := [(1, .ref (s.heap.size + 0)), (0, .ref sb)]) hx hb dL_law_7 rfl hl (by decide) rfl (fun ls hl => ?_)
  have hW : PW G s.heap.size 0 306 (wF G s.heap.size μ1) H := fun i _ hi => hW.1 i (by show i < 306 + G.2.2.2 13; omega)
  have hS : va_S (fb (s.heap.size + 0)) s.heap H locs := hS
  refine n_new 12 (fs := f12) rfl inB12 tyX12 tyX12_ok F q_1461 q_1462 q_14 hW ⟨Nat.zero_le _, Nat.le_refl _, rfl⟩ hS (fun j hj => match j, hj with | 0, _ => rfl | 1, _ => rfl | 2, _ => rfl | 3, _ => rfl | 4, _ => rfl | 5, _ => rfl | 6, _ => rfl | 7, _ => rfl | 8, _ => rfl | 9, _ => rfl | 10, _ => rfl | 11, _ => rfl | 12, _ => rfl | 13, _ => rfl | 14, _ => rfl | 15, _ => rfl | 16, _ => rfl | 17, _ => rfl | 18, _ => rfl | 19, _ => rfl | 20, _ => rfl | 21, _ => rfl | 22, _ => rfl | 23, _ => rfl | 24, _ => rfl | 25, _ => rfl | 26, _ => rfl | 27, _ => rfl | 28, _ => rfl | 29, _ => rfl | 30, _ => rfl | 31, _ => rfl | 32, _ => rfl | 33, _ => rfl | 34, _ => rfl | 35, _ => rfl | 36, _ => rfl | 37, _ => rfl | 38, _ => rfl | 39, _ => rfl | 40, _ => rfl | 41, _ => rfl | 42, _ => rfl | 43, _ => rfl | 44, _ => rfl | 45, _ => rfl | 46, _ => rfl | 47, _ => rfl | 48, _ => rfl | 49, _ => rfl | k + 50, h => absurd h (by omega)) ⟨Nat.le_of_ble_eq_true rfl, Nat.le_of_ble_eq_true rfl⟩ dL_law_8 (fun H hW hS => ?_)
  refine lv_dup hx hb dL_law_11 rfl ?_
  refine n_eq hW ⟨by decide, rfl⟩ (fun hz => ?_)
  have hpre := n_pre (k := 0) (t := 0) (n := 307) (As := [.ref (s.heap.size + 306)]) F hW (Nat.le_refl _) hS hz
  have hS : va_S (fb s.heap.size) s.heap H locs := hS
  refine l_after (va_runI (As := []) (rest := [.ref (s.heap.size + 306)]) ⟨hx, hb, F.2.2.1, F.2.2.2.1, F.2.2.2.2.1⟩ (c_X12_new (l := l) (b := s.heap.size) hn0 hμ g2 he) (cwI (bytes := cX12_init) (maxL := 1) 0 F.2.2.2.2.1 (wT_in q_1465) rfl rfl rfl (F.2.2.2.2.1 _ q_14) (F.2.2.2.2.1 _ q_1463) (F.2.2.2.2.1 _ q_1464) rfl ⟨by decide +kernel, by decide +kernel, by decide +kernel⟩ ⟨Nat.le_of_ble_eq_true rfl, Nat.le_of_ble_eq_true rfl⟩) ⟨PcG.blind, hpre⟩ rfl rfl hl.1 rfl (lv_room (Nat.le_of_ble_eq_true rfl)) dL_law_12 ⟨Nat.le_of_ble_eq_true rfl, Nat.le_of_ble_eq_true rfl⟩) hS (fun H locs hW hS => ?_)
  refine lv_astore_n (lv' := [(2, .ref (s.heap.size + 306)), (1, .ref (s.heap.size + 0)), (0, .ref sb)]) hx hb dL_law_15 rfl hl (by decide) rfl (fun ls hl => ?_)
  refine lv_iconst (v := (1 : Int32)) hx hb dL_law_16 (by decide) ?_
  have hW2 := hW.2
  have hW : PW (fg G) s.heap.size 0 331 (wF (fg G) s.heap.size (mB μ1)) H := fun i _ hi => hW.1 i (by show i < nn (fg G); rw [nn_fg, hn0]; exact hi)
  have hS : va_S (fb (s.heap.size + 0)) s.heap H locs := hS
  have F1 := FX_fg F
  refine n_newa 2 (atype := .long) (ty := .long) (n := 331) (N := 1) (a0 := (1, .inr (.inl (fun _ => 0)))) rfl rfl (fun _ _ => ra_long) q_70 F1 hW ⟨Nat.zero_le _, Nat.le_refl _, rfl⟩ hS (fun _ => rfl) (by decide) (by decide) (by decide) ⟨Nat.le_of_ble_eq_true rfl, Nat.le_of_ble_eq_true rfl⟩ dL_law_17 (fun H hW hS => ?_)
  refine lv_astore_n (lv' := [(3, .ref (s.heap.size + 331)), (2, .ref (s.heap.size + 306)), (1, .ref (s.heap.size + 0)), (0, .ref sb)]) hx hb dL_law_19 rfl hl (by decide) rfl (fun ls hl => ?_)
  refine lv_iconst (v := (0 : Int32)) hx hb dL_law_20 (by decide) ?_
  refine lv_istore (lv' := [(4, .int 0), (3, .ref (s.heap.size + 331)), (2, .ref (s.heap.size + 306)), (1, .ref (s.heap.size + 0)), (0, .ref sb)]) hx hb dL_law_21 hl (by decide) rfl (fun ls hl => ?_)
  have hg1 : (gg 1 G).2.2.2 13 = 1 := by show (if (13 : Nat) = 13 then 1 else G.2.2.2 13) = 1; exact if_pos rfl
  have hG1 : (gs 0 (gg 1 G)).2.2.2 13 = 1 := gs_13.trans hg1
  refine kk (gs 0 (gg 1 G)) (mB μ1) H locs ls hG1 (FX_gs (FX_fg (FX_gg F))) hIV ⟨fun i hi => ?_, hW2⟩ hS (lv_sub hl [4, 3, 2, 1, 0] rfl)
  have hi2 : i < 332 := by rw [nn_fg, hG1] at hi; exact hi
  have h9 := hW i (Nat.zero_le i) hi2
  by_cases h331 : i = 331
  · subst h331
    rw [up_s] at h9
    rw [wF_25 rfl]
    exact h9
  · rw [up_n h331] at h9
    have h25 : ky i ≠ 25 := fun q => h331 (ky_25 i hi2 q)
    rw [wF_gs h25]
    exact h9
end RUN
/-- the whole walk of the law's body -/
theorem whole_walk {p : Program} {e : Env} {s : State} {m : MethodId} {below : List Frame} {meth : Method} {c : Code} (l : Launch) (hlT : l.stackTraces = false) {sb L : Nat} {xs : Nat → Int32} {ls : Array Slot} (hL : L ≤ 3072) (hx : p.tables.exec = Jvm.exec) (hb : c.code = cL_law) (hml : c.maxLocals = 7) (hown : s.vm.findClass RL = some m.cls) (hts : ∀ w ∈ lw_tbl, w.before #[Value.ref sb] s = true) (hX : va_X sb L xs s s.heap) (hsb : sb < s.heap.size) (hlk : meth.locks = false) (hgv : gvn.before #[Value.ref sb] s = true) (hl : lv_has ls 7 [(0, .ref sb)]) {Q : State → Prop} {C Z : Nat} (hC1 : 2400 ≤ C) (hZ1 : 210000 ≤ Z) (hC : C ≤ room_1.cells) (hZ : Z ≤ room_1.slots)
    (kk : ∀ (H : Heap) (ls : Array Slot), W p l e room_1 s m #[Value.ref sb] below meth c H [] C Z Q (F0 m 2649 ls [.int 1])) :
    W p l e room_1 s m #[Value.ref sb] below meth c s.heap [] 0 0 Q (F0 m 0 ls []) := by
  obtain ⟨G, hn0, hK, hN, hSW, hAO⟩ := world_0 hts hgv
  have F : FX G s.heap.size RL cL_law 7 p s m #[Value.ref sb] meth c := ⟨hx, hb, hml, hown, fun w hw => hts w (TBG_lw hw), hK, hN, hSW, hlk⟩
  refine l_begin hlT hn0 F hAO hl (fun G1 μ H locs ls h13 F1 hIV hW hS hl => ?_)
  refine l_loop hlT hX hsb hL (C := C) (Z := Z) hC hZ (fun H locs ls hS => ?_) 513 0 332 193693 G1 μ H locs ls (by omega) (by omega) (by omega) (by omega) h13 F1 hIV hW hS hl
  refine n_loc (fun q hq => hS.2.2 q hq) ?_
  exact lv_iconst (v := (1 : Int32)) hx hb dL_law_2648 (by decide) (kk H ls)
