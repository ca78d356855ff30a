
/-! the class's work -/
def whyO (n k dp : Nat) (bud : Int32) : Int32 := if k = n then I 0 else if I dp < bud then I 2 else I 1
theorem s_work {TG : List (Nat × List Sg)} {b N : Nat} {tm : Nat → Int64} {fs im fp doc pg sums : Nat → Int32} {sgs : List Sg} {bud dn dp wy : Int32} {clk dl : Int64} {Φ : Int32 → Int32 → Int32 → (Nat → Int32) → Prop}
    (hA : CA TG tm fs im fp doc) (hV : VT b N TG) (hl : sgs.length ≤ 320) (hs : ∀ i, i < sgs.length → ∃ g, pg i = I g ∧ (SLt TG)[g]? = some (sgs.getD i (0, []))) (hw : ∀ s ∈ sgs, s.2.length ≤ 40 ∧ s.2.Nodup ∧ ∀ d ∈ s.2, d < 40)
    (h : ∀ k dp f sums, wrun sgs bud clk dl sgs.length 0 0 (fun _ => 0) = (k, dp, f) → k ≤ sgs.length → dp ≤ 40 * k → (∀ d, d < 40 → sums d = I (f d)) → Φ (I k) (I dp) (whyO sgs.length k dp bud) sums) : P_X6_workThrough (I sgs.length) dn dp wy sums pg fp doc im bud dl clk Φ := by
  unfold P_X6_workThrough
  refine s_fill (by omega) (fun sums' hz => ⟨sgs.length + 1, ?_⟩)
  have key := l_work18 (wy := wy) (bud := bud) (clk := clk) (dl := dl) (K := fun doneSegments_24 donePostings_25 why_26 sums_27 l2_28 => J_X6_workThrough_140 (I sgs.length) doneSegments_24 donePostings_25 why_26 sums_27 pg fp doc im l2_28 Φ) (Φ := Φ) hA hV hl hs hw sgs.length 0 0 (fun _ => 0) sums' (by omega) (by omega) (by omega) hz (fun k' dp' f' sums2 e q1 q2 q3 => by
    have hh := h k' dp' f' sums2 e q1 q2 q3
    unfold whyO at hh
    unfold J_X6_workThrough_140
    rw [I_eq (by omega) (by omega)]
    refine ⟨fun z => ⟨fun y => ?_, fun y => ?_⟩, fun z => ?_⟩
    · rw [if_neg z, if_pos y] at hh; exact hh
    · rw [if_neg z, if_neg y] at hh; exact hh
    · rw [if_pos z] at hh; exact hh)
  exact key
