
/-! the class works through its plan -/
def wrun (sgs : List Sg) (bud : Int32) (clk dl : Int64) : Nat → Nat → Nat → (Nat → Nat) → Nat × Nat × (Nat → Nat)
  | 0, k, dp, f => (k, dp, f)
  | m + 1, k, dp, f => if sgs.length ≤ k then (k, dp, f) else if bud ≤ I dp then (k, dp, f) else if clk + (I dp).toInt64 < dl then wrun sgs bud clk dl m (k + 1) (dp + (sgs.getD k (0, [])).2.length) (stp f (sgs.getD k (0, []))) else (k, dp, f)
theorem l_work18 {TG : List (Nat × List Sg)} {b N : Nat} {tm : Nat → Int64} {fs im fp doc pg : Nat → Int32} {sgs : List Sg} {bud wy : Int32} {clk dl : Int64} {K : Int32 → Int32 → Int32 → (Nat → Int32) → Int32 → Prop} {Φ : Int32 → Int32 → Int32 → (Nat → Int32) → Prop}
    (hA : CA TG tm fs im fp doc) (hV : VT b N TG) (hl : sgs.length ≤ 320) (hs : ∀ i, i < sgs.length → ∃ g, pg i = I g ∧ (SLt TG)[g]? = some (sgs.getD i (0, []))) (hw : ∀ s ∈ sgs, s.2.length ≤ 40 ∧ s.2.Nodup ∧ ∀ d ∈ s.2, d < 40) :
    ∀ m k dp f sums, sgs.length ≤ k + m → k ≤ sgs.length → dp ≤ 40 * k → (∀ d, d < 40 → sums d = I (f d)) → (∀ k' dp' f' sums', wrun sgs bud clk dl m k dp f = (k', dp', f') → k' ≤ sgs.length → dp' ≤ 40 * k' → (∀ d, d < 40 → sums' d = I (f' d)) → K (I k') (I dp') wy sums' bud) →
      L_X6_workThrough_18 (m + 1) (I sgs.length) (I k) (I dp) wy sums pg fp doc im bud dl clk K Φ := by
  have hsl := hV.sl TG.length
  rw [List.take_length] at hsl
  have hpl := hV.2.2.2.2.2.2.2
  intro m
  induction m with
  | zero =>
    intro k dp f sums h1 h2 h3 h4 h5
    unfold L_X6_workThrough_18
    rw [I_le (by omega) (by omega)]
    exact ⟨fun _ => h5 k dp f sums rfl h2 h3 h4, fun z => absurd (by omega) z⟩
  | succ m ih =>
    intro k dp f sums h1 h2 h3 h4 h5
    unfold L_X6_workThrough_18
    rw [I_le (by omega) (by omega)]
    unfold wrun at h5
    refine ⟨fun z => h5 k dp f sums (by rw [if_pos z]) h2 h3 h4, fun z => ⟨fun y => h5 k dp f sums (by rw [if_neg z, if_pos y]) h2 h3 h4, fun y => ⟨fun x => h5 k dp f sums (by rw [if_neg z, if_neg y, if_neg x]) h2 h3 h4, fun x => ?_⟩⟩⟩
    obtain ⟨g, hg, hgs⟩ := hs k (by omega)
    obtain ⟨g1, g2, g3, g4, g5, g6⟩ := hA.sgm hgs
    have hm : sgs.getD k (0, []) ∈ sgs := by rw [List.getD_eq_getElem?_getD, List.getElem?_eq_getElem (by omega)]; exact List.getElem_mem _
    obtain ⟨w1, w2, w3⟩ := hw _ hm
    rw [I_in (by omega), I_cl (by omega), hg, I_in (by omega), I_cl (by omega), g3]
    refine ⟨by omega, by omega, (sgs.getD k (0, [])).2.length + 1, ?_⟩
    have key := l_work70 (s := sgs.getD k (0, [])) (F := f) (sgm := I sgs.length) (dn := I k) (dp := I dp) (wy := wy) (l2 := bud) (l3 := dl) (l5 := clk) (pg := pg) (im := im) (K := fun doneSegments_10 donePostings_11 why_12 sums_13 l2_14 l3_15 l5_16 l7_17 => P_X4_size fp l7_17 (fun r_18 => L_X6_workThrough_18 (m + 1) (I sgs.length) (doneSegments_10 + 1) (donePostings_11 + r_18) why_12 sums_13 pg fp doc im l2_14 l3_15 l5_16 K Φ)) (Φ := Φ) (by omega) g4 g2 (by omega) g5 w3 w2 (fun sums' hs' => by
      refine s_size (by omega) g3 g4 ?_
      rw [i_1, I_add, I_add]
      exact ih (k + 1) (dp + (sgs.getD k (0, [])).2.length) _ sums' (by omega) (by omega) (by omega) hs' (fun k' dp' f' sums2 e => h5 k' dp' f' sums2 (by rw [if_neg z, if_neg y, if_pos x]; exact e))) (sgs.getD k (0, [])).2.length 0 sums (by omega) (by omega) (fun d hd => by
      rw [h4 d hd]
      unfold stp
      show _ = I (f d + (if d ∈ (sgs.getD k (0, [])).2.take 0 then _ else 0))
      rw [if_neg (by rw [List.take_zero]; simp)]; rfl)
    exact key
