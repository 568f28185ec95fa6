/-! A SECTION of a text, read by both -/
def secR (R : Nat → Int) (N : Nat) (lv ln pt : Int) (I : List Int) (p x : Nat) : Nat → Int := bup (bup (tiR (bup (bup (bup R (12 + 102 * N + 2) pt) (12 + 102 * N + 0) lv) (12 + 102 * N + 1) ln) N I p x) (12 + 102 * N + 4) (-1)) 9 ((N : Int) + 1)
section SCT
variable {n : Nat} {I : List Int} {p : Nat} {sty rgt man : Int} {R : Nat → Int} {N fr : Nat}
theorem secF {lv ln pt : Int} {x : Nat} (hx : x ≤ 8) : InsF R (secR R N lv ln pt I p x) N N lv ln pt I p x ∧ secR R N lv ln pt I p x 10 = R 10 ∧ secR R N lv ln pt I p x (frm N) = -1 := by
  have hne : ∀ c, c ≠ 9 → (c < 12 + 102 * N ∨ 12 + 102 * (N + 1) ≤ c) → secR R N lv ln pt I p x c = R c := by
    intro c h9 h
    unfold secR
    rw [bup_ne h9, bup_ne (by omega), tiR_ne (by omega) x hx (by omega), bup_ne (by omega), bup_ne (by omega), bup_ne (by omega)]
  refine ⟨⟨by unfold secR; exact if_pos rfl, fun c hc => hne c (by omega) (by omega), fun j hj hjs f hf => ?_, ⟨?_, ?_, ?_, ?_⟩, fun w hw q hq => ?_⟩, hne 10 (by omega) (by omega), ?_⟩
  · have e : sh2 N j = j := if_pos (by omega)
    rw [e]
    exact hne _ (by omega) (by omega)
  · show secR R N lv ln pt I p x (12 + 102 * N + 0) = lv
    unfold secR
    rw [bup_ne (by omega), bup_ne (by omega), tiR_ne (by omega) x hx (by omega), bup_ne (by omega)]
    exact if_pos rfl
  · show secR R N lv ln pt I p x (12 + 102 * N + 1) = ln
    unfold secR
    rw [bup_ne (by omega), bup_ne (by omega), tiR_ne (by omega) x hx (by omega)]
    exact if_pos rfl
  · show secR R N lv ln pt I p x (12 + 102 * N + 2) = pt
    unfold secR
    rw [bup_ne (by omega), bup_ne (by omega), tiR_ne (by omega) x hx (by omega), bup_ne (by omega), bup_ne (by omega)]
    exact if_pos rfl
  · show secR R N lv ln pt I p x (12 + 102 * N + 3) = x
    unfold secR
    rw [bup_ne (by omega), bup_ne (by omega)]
    exact tiR_w x hx
  · show secR R N lv ln pt I p x (12 + 102 * N + (6 + (12 * w + q))) = _
    unfold secR
    rw [bup_ne (by omega), bup_ne (by omega)]
    exact tiR_l hq x hx hw
  · show secR R N lv ln pt I p x (12 + 102 * N + 4) = -1
    unfold secR
    rw [bup_ne (by omega)]
    exact if_pos rfl
theorem LB_sec (hw : WB 500 R N fr) {pt : Int} (hpt : pt = 0 ∧ fr = N ∨ pt = 1 ∧ fr ≤ N) : LB R N pt = if N = (if pt = 0 then 0 else fr) then 1 else if 4 < lev R (N - 1) + 1 then 4 else lev R (N - 1) + 1 := by
  unfold LB
  by_cases z : N = 0
  · have e : N = (if pt = 0 then 0 else fr) := by rcases hpt with ⟨a, b⟩ | ⟨a, b⟩ <;> (rw [a]; simp <;> omega)
    rw [if_pos z, if_pos e]
  · rw [if_neg z]
    rcases hpt with ⟨a, b⟩ | ⟨a, b⟩
    · rw [if_pos a, if_neg z, hw.p0 (s := N - 1) (by omega) (by omega), a, if_pos rfl]
      repeat' split
      all_goals omega
    · rw [if_neg (show ¬ pt = 0 by omega)]
      by_cases y : N = fr
      · rw [if_pos y, hw.p0 (s := N - 1) (by omega) (by omega), a, if_neg (by omega)]
      · rw [if_neg y, hw.p1 (s := N - 1) (by omega) (by omega), a, if_pos rfl]
        repeat' split
        all_goals omega
/-- the model behind a section that failed: it sets, and goes on -/
theorem sec_bt (hn : 1 ≤ n) {ν : Mm} {c z : Int} (hb : BD ν c z) {Q : Nat → Int} (hm : MB 308 ν Q) {s : Nat} (hs : s < 24) : ∃ ν1, ((sh_X12_parseTitle n (jv s) ν).bind fun r11 => (sh_X12_set (jv s) (4 : Int32) (-1 : Int32) r11).bind fun r12 => (ld r12 (r12.2.2 0) (9 : Int32)).bind fun v14 => (st r12 (r12.2.2 0) (9 : Int32) (v14 + (1 : Int32))).bind fun μ15 => some μ15) = some ν1 ∧ BD ν1 c z ∧ Fm (fun a b => a = 308 ∧ b < 2460) ν ν1 := by
  have l308 : ln 308 = 2460 := rfl
  obtain ⟨ν1, e1, b1, ⟨Q1, m1⟩, f1⟩ := hb.pt hn hs hm
  have t4 : sh_X12_set (jv s) (jv 4) (jv (-1)) ν1 = _ := m1.st (w := 4) hs (by omega) (jv (-1))
  have m2 := m1.up (j := 12 + 102 * s + 4) (v := -1) (by omega)
  have f2 : Fm (fun a b => a = 308 ∧ b < 2460) ν1 (sI ν1 308 (12 + 102 * s + 4) (jv (-1))) := Fm.rf.sI ⟨rfl, by omega⟩
  have r9 := m2.r9
  rw [e1, Option.bind_some, ng1, jv_lit (nat_lit 4), t4, Option.bind_some, jv_lit (nat_lit 9), r9, Option.bind_some, m2.2.1, st_jv (by omega) (by omega)]
  refine ⟨_, rfl, (b1.kp f2 ⟨by omega, by omega⟩).kp (P := fun a b => a = 308 ∧ b < 2460) (Fm.rf.sI ⟨rfl, by decide⟩) ⟨by omega, by omega⟩, (f1.tr f2 (fun _ _ y => y)).sI ⟨rfl, by decide⟩⟩
theorem sec_bn (hn : 1 ≤ n) {ν : Mm} {c z : Int} (hb : BD ν c z) {Q : Nat → Int} (hm : MB 308 ν Q) {s : Nat} (hs : s < 24) : ∃ ν1, ((sh_X12_numberBehind n 2 (0 : Int32) (500 : Int32) ν).bind fun r9 => (sh_X12_set (jv s) (1 : Int32) r9.1 r9.2).bind fun r10 => (sh_X12_parseTitle n (jv s) r10).bind fun r11 => (sh_X12_set (jv s) (4 : Int32) (-1 : Int32) r11).bind fun r12 => (ld r12 (r12.2.2 0) (9 : Int32)).bind fun v14 => (st r12 (r12.2.2 0) (9 : Int32) (v14 + (1 : Int32))).bind fun μ15 => some μ15) = some ν1 ∧ BD ν1 c z ∧ Fm (fun a b => a = 308 ∧ b < 2460) ν ν1 := by
  have t1 : sh_X12_set (jv s) (jv 1) (jv 0) ν = _ := hm.st (w := 1) hs (by omega) (jv 0)
  have m1 := hm.up (j := 12 + 102 * s + 1) (v := 0) (by omega)
  have f1 : Fm (fun a b => a = 308 ∧ b < 2460) ν (sI ν 308 (12 + 102 * s + 1) (jv 0)) := Fm.rf.sI ⟨rfl, by omega⟩
  obtain ⟨ν2, e2, b2, f2⟩ := sec_bt hn (hb.kp f1 ⟨by omega, by omega⟩) m1 hs
  rw [hb.nb hn, Option.bind_some, jv_lit (nat_lit 1), jv_lit (nat_lit 0), t1, Option.bind_some]
  exact ⟨ν2, e2, b2, f1.tr f2 (fun _ _ y => y)⟩
theorem sec2 (hn : 1200 ≤ n) {μ ν : Mm} (h : J I μ ν p sty rgt man R N fr) (hsec : isW2 I p 12) : JO I μ ν p (sh_X4_sectionStatement n 85 μ) ((sh_X12_parseSection n ν).bind fun r7 => (sh_X12_semicolon n r7).bind fun r8 => some r8) := by
  obtain ⟨hc, ⟨hg, hm⟩, hf, hw, hb, hmb, h1, h2, h3, h4, h5⟩ := id h
  have hN := hw.1
  have l308 : ln 308 = 2460 := rfl
  have l89 : ln (88 + 1) = 24 := rfl
  have l91 : ln (90 + 1) = 24 := rfl
  have hman := hf.1.2.2
  have r9 := hmb.r9
  have r9' : ld ν (ν.2.2 0) (9 : Int32) = some (jv (R 9)) := r9
  unfold sh_X4_sectionStatement sh_X12_parseSection
  rw [hb.2.2.1.2.1, hf.2.1.2.2, r9', Option.bind_some, hN.1]
  by_cases h24 : N < 24
  · have hpt : man = 0 ∧ fr = N ∨ man = 1 ∧ fr ≤ N := by
      rcases hman with z | z
      · exact Or.inl ⟨z, h1 z⟩
      · exact Or.inr ⟨z, hN.2.2⟩
    have hpt2 : man = 0 ∧ N ≤ fr ∨ man = 1 ∧ fr ≤ N := by omega
    have hfr : (if man = 0 then fr + 1 else fr) = (if man = 0 then fr + 1 else fr) := rfl
    have ec : (if jv man = (0 : Int32) then sh_X4_sectionStatement_32 n 85 (jv N) (0 : Int32) μ else sh_X4_sectionStatement_32 n 85 (jv N) (1 : Int32) μ) = sh_X4_sectionStatement_32 n 85 (jv N) (jv man) μ := by
      rcases hman with rfl | rfl
      · rw [if_pos zro]; rfl
      · rw [if_neg one_ne]; rfl
    simp only [nm_eq]
    rw [if_pos (show jv (N : Int) < (24 : Int32) by rw [jv_lit (nat_lit 24), jv_lt] <;> omega), ec, if_neg (show ¬ jv (N : Int) = (24 : Int32) by rw [jv_lit (nat_lit 24), jv_eq] <;> omega)]
    -- the model's word
    obtain ⟨ν1, d1, k1, m1, g1⟩ := hg.go hn hm
    have hf1 : ν1.1 306 13 = jv man := by rw [g1.at _ _ (by omega)]; exact hf.2.2.2.2
    have mb1 : MB 308 ν1 R := hmb.fr g1 (fun i _ => by omega)
    have em : (if jv man = (0 : Int32) then sh_X12_parseSection_43 n (jv N) (0 : Int32) ν1 else sh_X12_parseSection_43 n (jv N) (1 : Int32) ν1) = sh_X12_parseSection_43 n (jv N) (jv man) ν1 := by
      rcases hman with rfl | rfl
      · rw [if_pos zro]; rfl
      · rw [if_neg one_ne]; rfl
    unfold sh_X12_parseSection_19
    rw [d1, Option.bind_some, k1.g, Option.bind_some, if_neg (show ¬ (1 : Int32) = 0 by decide), hf1, em]
    -- the level
    obtain ⟨gl, hgl⟩ : ∃ gl, gl = (if N = (if man = 0 then 0 else fr) then 1 else if 4 < lev R (N - 1) + 1 then 4 else lev R (N - 1) + 1) := ⟨_, rfl⟩
    have hglb : 1 ≤ gl ∧ gl ≤ 4 := by
      rw [hgl]
      by_cases z : N = (if man = 0 then 0 else fr)
      · rw [if_pos z]; omega
      · rw [if_neg z]
        have hb0 : 0 < N := by
          rcases hpt with ⟨a, b⟩ | ⟨a, b⟩
          · rw [if_pos a] at z; omega
          · rw [if_neg (by omega)] at z; omega
        have := (hw.sec (s := N - 1) (by omega)).2.1
        split <;> omega
    have eg := glC (k := 85) hw hb (Nat.le_refl N) hpt2
    rw [← hgl] at eg
    have hle : ∀ s w, s < N → bup R (12 + 102 * N + 2) man (12 + 102 * s + w) = R (12 + 102 * s + w) ∨ 102 ≤ w := fun s w hs => by
      by_cases q : 102 ≤ w
      · exact Or.inr q
      · exact Or.inl (bup_ne (by omega))
    have hlast : 0 < N → prt (bup R (12 + 102 * N + 2) man) (N - 1) = prt R (N - 1) ∧ lev (bup R (12 + 102 * N + 2) man) (N - 1) = lev R (N - 1) := fun q => ⟨(hle (N - 1) 2 (by omega)).resolve_right (by omega), (hle (N - 1) 0 (by omega)).resolve_right (by omega)⟩
    have t2 : sh_X12_set (jv N) (jv 2) (jv man) ν1 = _ := mb1.st (w := 2) (by omega) (by omega) (jv man)
    have mb2 := mb1.up (j := 12 + 102 * N + 2) (v := man) (by omega)
    have g2 : Fm (fun a b => a = 308 ∧ b < 2460) ν1 (sI ν1 308 (12 + 102 * N + 2) (jv man)) := Fm.rf.sI ⟨rfl, by omega⟩
    have elb := lbM mb2 (s := N) (by omega) (p := man) hman (fun q => by
      obtain ⟨a1, a2⟩ := hlast q
      rw [a1, a2]
      exact ⟨by rcases hw.pb (s := N - 1) (by omega) with w | w <;> omega, (hw.sec (s := N - 1) (by omega)).2.1⟩)
    have eLB : LB (bup R (12 + 102 * N + 2) man) N man = gl := by
      rw [hgl, ← LB_sec hw hpt]
      unfold LB
      by_cases q : N = 0
      · rw [if_pos q, if_pos q]
      · obtain ⟨a1, a2⟩ := hlast (by omega)
        rw [if_neg q, if_neg q, a1, a2]
    rw [eLB] at elb
    have k2 := k1.kp g2 ⟨by omega, by omega⟩
    have m2 := m1.kp g2 (fun a b y => by omega)
    unfold sh_X12_parseSection_43 sh_X4_sectionStatement_32
    rw [eg, Option.bind_some]
    simp only [jv_lit]
    rw [t2, Option.bind_some, jv_sub, elb, Option.bind_some]
    obtain ⟨v3, μ3, e3, f3, a1, a2⟩ := nuC hn hc (w := 12) (a := 88) (i := N) (lo := 1) (hi := gl) (by omega) (by omega) (by omega) (by omega)
    obtain ⟨lv, ν3, d3, g3, b1, b2⟩ := numM hn k2 m2 (lo := 1) (hi := gl) (by omega) (by omega)
    have hns : numS I p 12 1 gl = nuS I (te I p) 1 gl := by rw [numS_nu, if_pos hsec]
    rw [hns] at a1 a2
    have e3' : sh_X4_number n 12 (jv 1) (jv gl) (85 + 3) (jv N) μ = some (v3, μ3) := e3
    have t0 : sh_X12_set (jv N) (jv 0) (jv lv) ν3 = _ := (mb2.fr g3 (fun i _ => by omega)).st (w := 0) (by omega) (by omega) (jv lv)
    have mb3 := (mb2.fr g3 (fun i _ => by omega)).up (j := 12 + 102 * N + 0) (v := lv) (by omega)
    have g4 : Fm (fun a b => a = 308 ∧ b < 2460) ν3 (sI ν3 308 (12 + 102 * N + 0) (jv lv)) := Fm.rf.sI ⟨rfl, by omega⟩
    rw [e3', Option.bind_some, d3, Option.bind_some, t0, Option.bind_some]
    have G4 : Fm PJm ν (sI ν3 308 (12 + 102 * N + 0) (jv lv)) := (((g1.mono (fun a b y => by omega)).tr g2 (fun a b y => by omega)).tr g3 (fun a b y => by omega)).tr g4 (fun a b y => by omega)
    cases hs1 : nuS I (te I p) 1 gl with
    | inl e =>
      obtain ⟨w3, hF⟩ := a1 e hs1
      obtain ⟨hB, _⟩ := b1 e hs1
      obtain ⟨ν9, d9, b9, g9⟩ := sec_bn (n := n) (by omega) (hB.kp g4 ⟨by omega, by omega⟩) mb3 (s := N) (by omega)
      have d9' := d9
      simp only [jv_lit] at d9'
      rw [w3, if_pos (show (0 : Int32) = jv 0 from rfl), d9', Option.bind_some, b9.se]
      unfold sh_X4_sectionStatement_83 sh_X4_sectionStatement_84
      rw [if_pos (show (0 : Int32) = 0 from rfl)]
      exact JO.bad rfl (Fw.of (f3.mono (fun k j y => by omega))) rfl (G4.tr g9 (fun a b y => by omega)) ⟨e.1, e.2, hF, b9⟩
    | inr q1 =>
      obtain ⟨w3, c3, hv3, nf3⟩ := a2 q1 hs1
      obtain ⟨k3, m3, hlv⟩ := b2 q1 hs1
      have hq1 : te I p ≤ q1.2 ∧ 1 ≤ lv ∧ lv ≤ gl := by
        unfold nuS at hs1
        have ht2 := te_b m1.1.2
        have hb2 := tb_b m1.1.2
        by_cases y : tk I (te I p) = 2
        · rw [if_pos y] at hs1
          by_cases u : 1 ≤ tvC I (te I p) ∧ tvC I (te I p) ≤ gl
          · rw [if_pos u] at hs1
            obtain rfl := Sum.inr.inj hs1
            exact ⟨by show te I p ≤ te I (te I p); omega, by rw [hlv]; exact u⟩
          · rw [if_neg u] at hs1
            exact nomatch hs1
        · rw [if_neg y] at hs1
          exact nomatch hs1
      rw [w3, if_neg (show ¬ (1 : Int32) = jv 0 by decide)]
      -- the length
      obtain ⟨v5, μ5, e5, f5, a5, a6⟩ := nuC hn c3 (w := 2) (a := 90) (i := N) (lo := 0) (hi := 500) (by omega) (by omega) (by omega) (by omega)
      obtain ⟨ln, ν5, d5, g5, b5, b6⟩ := nbM hn (k3.kp g4 ⟨by omega, by omega⟩) (m3.kp g4 (fun a b y => by omega)) (w := 2) (lo := 0) (hi := 500) (by omega) (by omega)
      have e5' : sh_X4_number n 2 (jv 0) (jv 500) (85 + 5) (jv N) μ3 = some (v5, μ5) := e5
      have t1 : sh_X12_set (jv N) (jv 1) (jv ln) ν5 = _ := (mb3.fr g5 (fun i _ => by omega)).st (w := 1) (by omega) (by omega) (jv ln)
      have mb5 := (mb3.fr g5 (fun i _ => by omega)).up (j := 12 + 102 * N + 1) (v := ln) (by omega)
      have g6 : Fm (fun a b => a = 308 ∧ b < 2460) ν5 (sI ν5 308 (12 + 102 * N + 1) (jv ln)) := Fm.rf.sI ⟨rfl, by omega⟩
      have G6 : Fm PJm ν (sI ν5 308 (12 + 102 * N + 1) (jv ln)) := (G4.tr g5 (fun a b y => by omega)).tr g6 (fun a b y => by omega)
      have F5 : Fm (fun k j => PF5 k j ∨ (k = 89 ∨ k = 91) ∧ j = N) μ μ5 := (f3.mono (fun k j y => by omega)).tr f5 (fun k j y => by omega)
      rw [e5', Option.bind_some, d5, Option.bind_some, t1, Option.bind_some]
      cases hs2 : numS I q1.2 2 0 500 with
      | inl e =>
        obtain ⟨w5, hF⟩ := a5 e hs2
        obtain ⟨hB, _⟩ := b5 e hs2
        obtain ⟨ν9, d9, b9, g9⟩ := sec_bt (n := n) (by omega) (hB.kp g6 ⟨by omega, by omega⟩) mb5 (s := N) (by omega)
        have d9' := d9
        simp only [jv_lit] at d9'
        rw [w5, if_pos (show (0 : Int32) = jv 0 from rfl), d9', Option.bind_some, b9.se]
        unfold sh_X4_sectionStatement_83 sh_X4_sectionStatement_84
        rw [if_pos (show (0 : Int32) = 0 from rfl)]
        exact JO.bad rfl (Fw.of (F5.mono (fun k j y => by omega))) rfl (G6.tr g9 (fun a b y => by omega)) ⟨e.1, e.2, hF, b9⟩
      | inr q2 =>
        obtain ⟨w5, c5, hv5, nf5⟩ := a6 q2 hs2
        obtain ⟨k5, m5, hln⟩ := b6 q2 hs2
        have hq2 : te I p ≤ q2.2 ∧ 0 ≤ ln ∧ ln ≤ 500 := by
          rw [numS_nu] at hs2
          have hb3 := tb_b c3.1.2.2.2
          have ht3 := te_b c3.1.2.2.2
          have hb4 := tb_b ht3.2.1
          have ht4 := te_b ht3.2.1
          by_cases y0 : isW2 I q1.2 2
          · rw [if_pos y0] at hs2
            unfold nuS at hs2
            by_cases y : tk I (te I q1.2) = 2
            · rw [if_pos y] at hs2
              by_cases u : (0 : Int) ≤ tvC I (te I q1.2) ∧ tvC I (te I q1.2) ≤ 500
              · rw [if_pos u] at hs2
                obtain rfl := Sum.inr.inj hs2
                exact ⟨by show te I p ≤ te I (te I q1.2); omega, by rw [hln]; exact u⟩
              · rw [if_neg u] at hs2
                exact nomatch hs2
            · rw [if_neg y] at hs2
              exact nomatch hs2
          · rw [if_neg y0] at hs2
            exact nomatch hs2
        rw [w5, if_neg (show ¬ (1 : Int32) = jv 0 by decide)]
        -- the title
        obtain ⟨v7, μ7, e7, f7, a7, a8⟩ := tiC hn c5
        obtain ⟨ν7, d7, g7, b7, b8⟩ := ptlM hn (q := 308) (s := N) (by omega) (k5.kp g6 ⟨by omega, by omega⟩) (m5.kp g6 (fun a b y => by omega)) mb5
        have G7 : Fm PJm ν ν7 := G6.tr g7 (fun a b y => by omega)
        have F7 : Fw (fun k j => PF5 k j ∨ (k = 89 ∨ k = 91) ∧ j = N ∨ k = 5 ∧ j = 3) (fun k => k = 7) μ μ7 := (Fw.of (F5.mono (fun k j y => by omega))).tr f7 (fun k j y => by omega) (fun _ y => y)
        cases hs3 : tiS I q2.2 with
        | inl e =>
          obtain ⟨w7, hF⟩ := a7 e hs3
          have hB := b7 e hs3
          have hx7 : ∃ Q, MB 308 ν7 Q := ⟨fun i => (ν7.1 308 i).toInt, Or.inr rfl, by rw [G7.1]; exact hmb.2.1, fun i _ => (jv_of _).symm⟩
          obtain ⟨Q, mb7⟩ := hx7
          have t4 : sh_X12_set (jv N) (jv 4) (jv (-1)) ν7 = _ := mb7.st (w := 4) (by omega) (by omega) (jv (-1))
          have mb8 := mb7.up (j := 12 + 102 * N + 4) (v := -1) (by omega)
          have g8 : Fm (fun a b => a = 308 ∧ b < 2460) ν7 (sI ν7 308 (12 + 102 * N + 4) (jv (-1))) := Fm.rf.sI ⟨rfl, by omega⟩
          have rr9 := mb8.r9
          have g9 : Fm (fun a b => a = 308 ∧ b < 2460) ν7 (sI (sI ν7 308 (12 + 102 * N + 4) (jv (-1))) 308 9 (jv (bup Q (12 + 102 * N + 4) (-1) 9 + 1))) := g8.sI ⟨rfl, by decide⟩
          have hB9 := hB.kp g9 ⟨by omega, by omega⟩
          rw [e7, Option.bind_some, w7, if_pos (show (0 : Int32) = jv 0 from rfl), d7, Option.bind_some, jv_neg, t4, Option.bind_some, rr9, Option.bind_some, mb8.2.1, jv_add, st_jv (by omega) (by omega), Option.bind_some, Option.bind_some, show (9 : Int).toNat = 9 from rfl, hB9.se]
          unfold sh_X4_sectionStatement_83 sh_X4_sectionStatement_84
          rw [if_pos (show (0 : Int32) = 0 from rfl)]
          exact JO.bad rfl (F7.mono (fun k j y => by omega) (fun k y => by omega)) rfl (G7.tr g9 (fun a b y => by omega)) ⟨e.1, e.2, hF, hB9⟩
        | inr x =>
          obtain ⟨w7, c7, t7, nf7⟩ := a8 x hs3
          obtain ⟨k7, m7, mb7⟩ := b8 x hs3
          have hok := okW.of c5.1.2.2.2 hs3
          obtain ⟨hF, h10, hfrm⟩ := secF (R := R) (N := N) (lv := lv) (ln := ln) (pt := man) (I := I) (p := q2.2) hok.1.2
          have hw' := hw.ins h24 (Nat.le_refl N) hF (by omega) hq2.2 hpt2 hok ⟨by
            have := hq1.2.2
            rw [hgl] at this
            by_cases z : N = (if man = 0 then 0 else fr)
            · rw [if_pos z] at this ⊢; exact this
            · rw [if_neg z] at this ⊢
              split at this <;> omega, fun q => by
            rcases hpt with ⟨a, b⟩ | ⟨a, b⟩
            · rw [if_pos a] at q; omega
            · rw [if_neg (by omega)] at q; omega⟩
          -- the class opens a place and puts the title
          have b85 : μ7.1 85 2 = jv N ∧ μ7.1 85 3 = jv fr := ⟨by rw [F7.1 _ _ (by omega)]; exact hb.2.2.1.2.1, by rw [F7.1 _ _ (by omega)]; exact hb.2.2.1.2.2⟩
          obtain ⟨μ8, e8, ⟨n2, n3⟩, n4, n5, f8⟩ := opC (k := 85) (s := N) (pt := man) hb.1 h24 (Nat.le_refl N) b85.1 b85.2 hman
          obtain ⟨μ9, e9, w1, w2, w3', f9⟩ := enC (n := n) (by omega) (k := 85) rfl rfl (by omega) (s := N) (by omega) hok.1.2 (μ := μ8)
          have e53 : μ8.1 5 3 = jv x := by rw [f8.1 _ _ (by omega)]; exact t7.1
          have v89 : μ7.1 89 N = jv lv := by rw [f7.1 _ _ (by omega), f5.at _ _ (by omega), hlv]; exact hv3
          have v91 : μ7.1 91 N = jv ln := by rw [f7.1 _ _ (by omega), hln]; exact hv5
          have c9 : CB 85 μ9 (secR R N lv ln man I q2.2 x) (N + 1) (if man = 0 then fr + 1 else fr) := by
            refine CB.ins hw hb (Nat.le_refl N) hF hok (fun i hi => ?_) ?_ ?_ ?_ (fun j hj hjs => ?_) ⟨?_, ?_, ?_, fun w hww => ?_⟩
            · rw [f9.1 _ _ (by omega), f8.1 _ _ (by omega), F7.1 _ _ (by omega)]
            · rw [f9.1 _ _ (by omega), f8.1 _ _ (by omega), F7.1 _ _ (by omega)]
            · rw [f9.1 _ _ (by omega)]
              exact n2
            · rw [f9.1 _ _ (by omega)]
              exact n3
            · obtain ⟨y1, y2, y3, _, y5⟩ := n4 j hj hjs
              have es : sh2 N j = j := if_pos (by omega)
              rw [es] at y1 y2 y3 y5 ⊢
              refine ⟨?_, ?_, ?_, fun w hww => ?_⟩
              · rw [f9.1 _ _ (by omega), y1, F7.1 _ _ (by omega)]
              · rw [f9.1 _ _ (by omega), y2, F7.1 _ _ (by omega)]
              · rw [f9.1 _ _ (by omega), y3, F7.1 _ _ (by omega)]
              · rw [w3' _ (by omega), y5 w hww, F7.2.1 _ _ (by omega)]
            · rw [f9.1 _ _ (by omega), n5.1]
              exact v89
            · rw [f9.1 _ _ (by omega), n5.2.1]
              exact v91
            · exact w1
            · rw [w2 w hww, f8.2.1 _ _ (by omega)]
              exact t7.2 w hww
          -- the model counts
          have t4 : sh_X12_set (jv N) (jv 4) (jv (-1)) ν7 = _ := mb7.st (w := 4) (by omega) (by omega) (jv (-1))
          have mb8 := mb7.up (j := 12 + 102 * N + 4) (v := -1) (by omega)
          have g8 : Fm (fun a b => a = 308 ∧ b < 2460) ν7 (sI ν7 308 (12 + 102 * N + 4) (jv (-1))) := Fm.rf.sI ⟨rfl, by omega⟩
          have rr9 := mb8.r9
          have hR9 : bup (tiR (bup (bup (bup R (12 + 102 * N + 2) man) (12 + 102 * N + 0) lv) (12 + 102 * N + 1) ln) N I q2.2 x) (12 + 102 * N + 4) (-1) 9 = (N : Int) := by
            rw [bup_ne (by omega), tiR_ne (by omega) x hok.1.2 (by omega), bup_ne (by omega), bup_ne (by omega), bup_ne (by omega), hN.1]
          rw [hR9] at rr9
          have mb9 := mb8.up (j := 9) (v := (N : Int) + 1) (by omega)
          have g9 : Fm (fun a b => a = 308 ∧ b < 2460) ν7 (sI (sI ν7 308 (12 + 102 * N + 4) (jv (-1))) 308 9 (jv ((N : Int) + 1))) := g8.sI ⟨rfl, by decide⟩
          have F9 : Fw (fun k j => PF5 k j ∨ (k = 89 ∨ k = 91) ∧ j = N ∨ k = 5 ∧ j = 3 ∨ 85 ≤ k ∧ k ≤ 97) (fun k => k = 7 ∨ k = 95) μ μ9 := ((F7.mono (fun k j y => by omega) (fun k y => by omega)).tr f8 (fun k j y => by omega) (fun k y => by omega)).tr f9 (fun k j y => by omega) (fun k y => by omega)
          have c9t : TC μ9 I (ps I q2.2 x) := (c7.fw f8 (fun k j y => by omega)).fw f9 (fun k j y => by omega)
          have j9 : J I μ9 (sI (sI ν7 308 (12 + 102 * N + 4) (jv (-1))) 308 9 (jv ((N : Int) + 1))) (ps I q2.2 x) sty rgt man (secR R N lv ln man I q2.2 x) (N + 1) (if man = 0 then fr + 1 else fr) := by
            refine ⟨c9t, ⟨k7.kp g9 ⟨by omega, by omega⟩, m7.kp g9 (fun a b y => by omega)⟩, ⟨hf.1, ⟨?_, ?_, ?_⟩, ?_, ?_, ?_⟩, hw', c9, mb9, fun q => ?_, fun s hs => ?_, fun s hs => ?_, by rw [h10]; exact h4, ?_, ?_⟩
            · rw [F9.1 _ _ (by omega)]; exact hf.2.1.1
            · rw [F9.1 _ _ (by omega)]; exact hf.2.1.2.1
            · rw [F9.1 _ _ (by omega)]; exact hf.2.1.2.2
            · rw [g9.at _ _ (by omega), g7.at _ _ (by omega), g6.at _ _ (by omega), g5.at _ _ (by omega), g4.at _ _ (by omega), g3.at _ _ (by omega), g2.at _ _ (by omega), g1.at _ _ (by omega)]; exact hf.2.2.1
            · rw [g9.at _ _ (by omega), g7.at _ _ (by omega), g6.at _ _ (by omega), g5.at _ _ (by omega), g4.at _ _ (by omega), g3.at _ _ (by omega), g2.at _ _ (by omega), g1.at _ _ (by omega)]; exact hf.2.2.2.1
            · rw [g9.at _ _ (by omega), g7.at _ _ (by omega), g6.at _ _ (by omega), g5.at _ _ (by omega), g4.at _ _ (by omega), g3.at _ _ (by omega), g2.at _ _ (by omega), g1.at _ _ (by omega)]; exact hf.2.2.2.2
            · rw [if_pos q, h1 q]
            · by_cases z : s = N
              · rw [f9.1 _ _ (by omega), z]
                exact n5.2.2
              · have := (n4 s hs z).2.2.2.1
                rw [show sh2 N s = s from if_pos (by omega)] at this
                rw [f9.1 _ _ (by omega), this, F7.1 _ _ (by omega)]
                exact h2 s (by omega)
            · by_cases z : s = N
              · rw [z]; exact hfrm
              · have := (hF.f hs z).2.2.2.2.2.1
                rw [show sh2 N s = s from if_pos (by omega)] at this
                rw [this]
                exact h3 s (by omega)
            · rw [f9.1 _ _ (by omega), f8.1 _ _ (by omega)]
              exact nf7.1.trans (nf5.1.trans (nf3.1.trans h5.1))
            · rw [f9.1 _ _ (by omega), f8.1 _ _ (by omega)]
              exact nf7.2.trans (nf5.2.trans (nf3.2.trans h5.2))
          have hpe : p ≤ ps I q2.2 x := by
            have q0 := tb_b hc.1.2.2.2
            have q1' := te_b hc.1.2.2.2
            have : ∀ k, q2.2 ≤ ps I q2.2 k := by
              intro k
              induction k with
              | zero => exact Nat.le_refl _
              | succ k ih =>
                have hpl := ps_b c5.1.2.2.2 k
                have := tb_b hpl
                have := te_b hpl
                show q2.2 ≤ te I (ps I q2.2 k)
                omega
            have := this x
            omega
          have key := (sm2 hn j9).isB.pre (μ0 := μ) (ν0 := ν) (F9.mono (fun k j y => by omega) (fun k y => by omega)) (G7.tr g9 (fun a b y => by omega)) hpe
          rw [e7, Option.bind_some, w7, if_neg (show ¬ (1 : Int32) = jv 0 by decide), d7, Option.bind_some, jv_neg, t4, Option.bind_some, rr9, Option.bind_some, mb8.2.1, jv_add, st_jv (by omega) (by omega), Option.bind_some, Option.bind_some, show (9 : Int).toNat = 9 from rfl]
          unfold sh_X4_sectionStatement_84
          rw [if_neg one_ne, e8, Option.bind_some, e53, e9, Option.bind_some]
          exact key
  · have hN24 : N = 24 := by omega
    obtain ⟨μ1, e1, a1, f1⟩ := faC hc.2.2.1 4
    obtain ⟨ν1, d1, b1, g1⟩ := hg.er hm.2.2.1 (c := 4) (by omega)
    have e1' : sh_X4_fail (4 : Int32) μ = _ := e1
    have d1' : sh_X12_errs (4 : Int32) ν = _ := d1
    rw [if_neg (show ¬ jv (N : Int) < (24 : Int32) by rw [jv_lit (nat_lit 24), jv_lt] <;> omega), if_pos (show jv (N : Int) = (24 : Int32) by rw [hN24]; rfl), e1', Option.bind_some, isB0, Option.bind_some, d1', Option.bind_some]
    unfold sh_X12_parseSection_19
    rw [b1.go, Option.bind_some, b1.g, Option.bind_some, if_pos rfl, Option.bind_some, b1.se]
    exact JO.bad rfl (Fw.of (f1.mono (fun k j y => by omega))) rfl (g1.mono (fun k j y => by omega)) ⟨4, _, a1, b1⟩
end SCT
