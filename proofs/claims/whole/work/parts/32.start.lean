/-! ALL OF THE WORLD THAT IS THERE BEFORE THE FIRST OBJECT -/
theorem st_1 : Cond.laysStatic "java/lang/String" "COMPACT_STRINGS" "Z" ∈ lw_tbl := by decide +kernel
theorem st_2 : Cond.laysStatic Bundle.tN "UNASSIGNED_STACK" Bundle.steD ∈ lw_tbl := by decide +kernel
theorem st_3 : Cond.laysStatic Bundle.tN "SUPPRESSED_SENTINEL" Bundle.listD ∈ lw_tbl := by decide +kernel
theorem st_4 : Cond.laysStatic "jdk/internal/util/Preconditions" "SIOOBE_FORMATTER" "Ljava/util/function/BiFunction;" ∈ lw_tbl := by decide +kernel
theorem st_5 : Cond.isRef (Term.static Bundle.tN "UNASSIGNED_STACK" Bundle.steD) ∈ flatC gvn := by decide +kernel
theorem st_6 : Cond.isRef (Term.static Bundle.tN "SUPPRESSED_SENTINEL" Bundle.listD) ∈ flatC gvn := by decide +kernel
theorem st_7 : Cond.isRef (Term.static "jdk/internal/util/Preconditions" "SIOOBE_FORMATTER" "Ljava/util/function/BiFunction;") ∈ flatC gvn := by decide +kernel
theorem st_8 : Cond.eq (Term.static "java/lang/String" "COMPACT_STRINGS" "Z") (Term.int 1) ∈ flatC gvn := by decide +kernel
section START
variable {s : State} {args : Array Value}
theorem txt_0 (hts : ∀ w ∈ lw_tbl, w.before args s = true) (hgv : gvn.before args s = true) : ∀ t : Nat, ∃ a v : Nat, (t < 13 → vk_S 1 [lenS.getD t 0] [bytS.getD t []] (fun _ => a) (fun _ => v) (fb s.heap.size) s s.heap) ∧ ∀ q ∈ refS, q.2.2.2 = t → vk_R q.1 q.2.1 q.2.2.1 a s := by
  intro t
  by_cases ht : t < 13
  · obtain ⟨a, v, h⟩ := str_0 hgv t
    obtain ⟨h1, h2⟩ := h ht
    refine ⟨a, v, fun _ => h1, fun q hq hqt => vk_R.of (hts _ (sg_7 q hq)) ?_⟩
    rcases sg_8 q hq (by omega) with ⟨e1, e2⟩ | e
    · rw [e1, e2, hqt]
      exact h2
    · obtain ⟨a', e'⟩ := ref_0 hgv q hq
      have := Cond.eq_refs (flat_of_before gvn hgv _ e) e' rfl
      rw [hqt, h2] at this
      cases this
      exact e'
  · by_cases hx : ∃ q ∈ refS, q.2.2.2 = t
    · obtain ⟨q, hq, hqt⟩ := hx
      obtain ⟨a, e⟩ := ref_0 hgv q hq
      refine ⟨a, 0, fun h => absurd h ht, fun r hr hrt => ?_⟩
      obtain rfl := sg_9 q hq r hr (by omega) (by omega)
      exact vk_R.of (hts _ (sg_7 q hq)) e
    · exact ⟨0, 0, fun h => absurd h ht, fun q hq hqt => absurd ⟨q, hq, hqt⟩ hx⟩
/-- a world for the run: no cell of the model yet -/
theorem world_0 (hts : ∀ w ∈ lw_tbl, w.before args s = true) (hgv : gvn.before args s = true) : ∃ G : Gt, G.2.2.2 13 = 0 ∧ WK G s ∧ NW s ∧ SW G s.heap.size s s.heap ∧ va_AO "ContentsSetter$State" s := by
  obtain ⟨D, aC, hK⟩ := WK_0 hts
  obtain ⟨K, hk⟩ := Classical.axiomOfChoice (txt_0 hts hgv)
  obtain ⟨V, hv⟩ := Classical.axiomOfChoice hk
  have hT : ∀ w ∈ TBG, w.before args s = true := fun w hw => hts w (TBG_lw hw)
  have hA : ∀ a : Nat, a < s.heap.size → ¬ fb s.heap.size a := fun a ha q => Nat.lt_irrefl _ (Nat.lt_of_lt_of_le ha q)
  refine ⟨(D, aC, K, fun t => if t = 13 then 0 else V t), rfl, hK _, NW_0 hts hgv, ⟨fun t ht => ?_, fun q hq => (hv q.2.2.2).2 q hq rfl, ?_, ?_, ?_, ?_⟩, AO_0 hts⟩
  · have := (hv t).1 ht
    show vk_S 1 [lenS.getD t 0] [bytS.getD t []] (fun _ => K t) (fun _ => if t = 13 then 0 else V t) _ _ _
    rw [if_neg (by omega)]
    exact this
  · exact va_Zof (hts _ st_1) (hT _ q_20) (Cond.eq_int (flat_of_before gvn hgv _ st_8) rfl) hA
  · exact vx_Zqof (hts _ st_2) (hT _ q_15) (flat_of_before gvn hgv _ st_5) hA
  · exact vx_Zqof (hts _ st_3) (hT _ q_15) (flat_of_before gvn hgv _ st_6) hA
  · exact va_Zqof (hts _ st_4) (hT _ q_22) (flat_of_before gvn hgv _ st_7) hA
end START
