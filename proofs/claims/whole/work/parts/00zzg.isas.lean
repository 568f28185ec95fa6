/-! A LINE held against a line of the latest proof, by the model -/
section IAS
variable {n : Nat} {R Rp : Nat → Int} {N fr Np frp : Nat}
theorem lns_at (Rp : Nat → Int) (tp : Int) (Np : Nat) {k T j : Nat} (hk : k < T) (hj : j < (lnT Rp tp Np k).length) : (lnsT Rp tp Np 0 T).getD ((lnsT Rp tp Np 0 k).length + j) 0 = (lnT Rp tp Np k).getD j 0 ∧ (lnsT Rp tp Np 0 k).length + j < (lnsT Rp tp Np 0 T).length := by
  have h1 := lnsT_app (R := Rp) (tp := tp) (N := Np) 0 (T - k) k
  have h2 := lnsT_app (R := Rp) (tp := tp) (N := Np) k (T - k - 1) 1
  rw [show k + (T - k) = T by omega, Nat.zero_add] at h1
  rw [show 1 + (T - k - 1) = T - k by omega] at h2
  have h3 : lnsT Rp tp Np k 1 = lnT Rp tp Np k := by
    rw [lnsT, lnsT, List.nil_append, Nat.add_zero]
  rw [h3] at h2
  rw [h1, h2]
  constructor
  · rw [List.getD_eq_getElem?_getD, List.getElem?_append_right (by omega), Nat.add_sub_cancel_left, List.getElem?_append_left hj, ← List.getD_eq_getElem?_getD]
  · rw [List.length_append, List.length_append]
    omega
/-- the latest proof in the net -/
def NP (μ : Mm) (Rp : Nat → Int) (Np : Nat) : Prop := (∀ k, k ≤ (TB Rp (tpF Rp Np) Np Np).1 → μ.1 307 (2460 + k) = jv (lnsT Rp (tpF Rp Np) Np 0 k).length) ∧ ∀ i, i < (lnsT Rp (tpF Rp Np) Np 0 (TB Rp (tpF Rp Np) Np Np).1).length → μ.1 307 (2701 + i) = jv ((lnsT Rp (tpF Rp Np) Np 0 (TB Rp (tpF Rp Np) Np Np).1).getD i 0)
theorem iaM (hn : 16001 ≤ n) (hw : WB 500 R N fr) (hwp : WB 500 Rp Np frp) {i k : Nat} (hi : i < (TB R (tpF R N) N N).1) (hk : k < (TB Rp (tpF Rp Np) Np Np).1) {μ : Mm} (hm : ML 307 μ R (tpF R N) N fr) (hp : NP μ Rp Np) : ∃ μ1, sh_X12_isAs n (jv i) (jv k) μ = some (jv (if lnT R (tpF R N) N i = lnT Rp (tpF Rp Np) Np k then 1 else 0), μ1) ∧ Fm PM2 μ μ1 := by
  have h0 := tpF_b hw (by omega)
  have h0p := tpF_b hwp (by omega)
  have hTp := TB_n hwp (by omega) h0p Np (Nat.le_refl _)
  have hNp := hwp.1
  have l1 : ln 307 = 18701 := rfl
  have f0 : Fm PM2 μ (sI μ 306 17 (jv 0)) := Fm.rf.sI (Or.inl ⟨rfl, rfl⟩)
  obtain ⟨μ2, e2, x2, f2⟩ := plL (n := n) hn hw (by omega) h0 hi (hm.kp f0) (Mx0 (μ := μ)) (by show 0 + 600 ≤ 16000; omega)
  rw [List.nil_append] at x2
  have F := f0.tr f2 (fun _ _ y => y)
  have r3 : μ2.1 307 (2460 + k) = jv (lnsT Rp (tpF Rp Np) Np 0 k).length := by rw [F.at _ _ (by omega), hp.1 k (by omega)]
  have r4 : μ2.1 307 (2460 + (k + 1)) = jv (lnsT Rp (tpF Rp Np) Np 0 (k + 1)).length := by rw [F.at _ _ (by omega), hp.1 (k + 1) (by omega)]
  have esu : (lnsT Rp (tpF Rp Np) Np 0 (k + 1)).length = (lnsT Rp (tpF Rp Np) Np 0 k).length + (lnT Rp (tpF Rp Np) Np k).length := by rw [lnsT, Nat.zero_add, List.length_append]
  have htot := tab_len hwp (by omega) h0p Np (Nat.le_refl _)
  have happ := lnsT_app (R := Rp) (tp := tpF Rp Np) (N := Np) 0 ((TB Rp (tpF Rp Np) Np Np).1 - (k + 1)) (k + 1)
  rw [show k + 1 + ((TB Rp (tpF Rp Np) Np Np).1 - (k + 1)) = (TB Rp (tpF Rp Np) Np Np).1 by omega] at happ
  have hlen : (lnsT Rp (tpF Rp Np) Np 0 (k + 1)).length ≤ 14400 := by
    rw [happ, List.length_append] at htot
    omega
  have okA := okT_ln hw hi
  have okB2 := okT_ln hwp hk
  have hxl := x2.1
  unfold sh_X12_isAs
  simp only [jv_lit]
  rw [pt_eq, Option.bind_some, e2, Option.bind_some, jv_add, ld_jv (by omega) (by omega), Option.bind_some, jv_add, ld_jv (by omega) (by omega), Option.bind_some, show (2460 + (k : Int)).toNat = 2460 + k by omega, show (2460 + (k : Int) + 1).toNat = 2460 + (k + 1) by omega, r3, r4, jv_sub, x2.2.1]
  by_cases z : (lnT Rp (tpF Rp Np) Np k).length = (lnT R (tpF R N) N i).length
  · have ea := (as52 (n := n) (a := jv i) (b := jv k) (fo := (lnsT Rp (tpF Rp Np) Np 0 k).length) (T := fun j => (lnT Rp (tpF Rp Np) Np k).getD j 0) x2 (by omega) okA.get (fun j hj => by
      obtain ⟨q1, q2⟩ := lns_at Rp (tpF Rp Np) Np hk (show j < (lnT Rp (tpF Rp Np) Np k).length by omega)
      refine ⟨?_, okB2.get j (by omega)⟩
      rw [F.at _ _ (by omega), Nat.add_assoc, hp.2 _ q2, q1]) (lnT R (tpF R N) N i).length n 0 (by omega) (by omega)).2
    have ea' : sh_X12_isAs_52 n (jv i) (jv k) n (jv (lnsT Rp (tpF Rp Np) Np 0 k).length) (jv 1) (jv 0) μ2 = _ := ea
    rw [if_pos (by congr 1; omega), ea']
    refine ⟨μ2, ?_, F⟩
    congr 3
    by_cases y : lnT R (tpF R N) N i = lnT Rp (tpF Rp Np) Np k
    · rw [if_pos y, if_pos (fun j _ _ => by rw [y])]
    · rw [if_neg y, if_neg (fun q => y (gD_ext z.symm (fun j hj => (q j hj (Nat.zero_le _)).symm)))]
  · have ea := (as52 (n := n) (a := jv i) (b := jv k) (fo := 0) (T := fun j => (lnT R (tpF R N) N i).getD j 0) x2 (by omega) okA.get)
    rw [if_neg (by rw [jv_eq] <;> omega), if_neg (fun q => z (by rw [q]))]
    obtain ⟨g, rfl⟩ : ∃ g, n = g + 1 := ⟨n - 1, by omega⟩
    rw [sh_X12_isAs_52, isB_0]
    refine ⟨μ2, ?_, F⟩
    rw [if_pos zro]
    exact ite_self _
end IAS
