
/-! the reference's work, all of it -/
/-- what the reference's rows must hold for an entry -/
def RWE (TG : List (Nat × List Sg)) (S : List Nat) (pT' pI' pZ' : Nat → Int32) (i : Nat) (s : Sg) : Prop := ∃ a q, a < 64 ∧ a < (AsK (TG.map (fun q => q.1)) S).length ∧ TG[(AsK (TG.map (fun q => q.1)) S).getD a 0]? = some q ∧ s ∈ q.2 ∧ pT' i = I a ∧ pI' i = I s.1 ∧ pZ' i = I s.2.length
theorem clk_add {clk : Int64} {a b : Nat} (h : a + b < 2147483648) : clk + (I a).toInt64 + (I b).toInt64 = clk + (I (a + b)).toInt64 := by
  rw [IJ (by omega), IJ (by omega), IJ (by omega), Int64.add_assoc, J_add]
theorem l_rq190 {sl b c N : Nat} {TG : List (Nat × List Sg)} {S : List Nat} {sgs : List Sg} {clk dl : Int64} {bud th ta at' te pa hits l2 : Int32} {holds fresh tape word words letter asked size impact gap pT' pI' pZ' hit kept generation bits codec : Nat → Int32}
    {K : Int32 → Int32 → Int32 → Int64 → Int32 → Int32 → Int32 → Int32 → Int32 → Int32 → Int32 → (Nat → Int32) → (Nat → Int32) → (Nat → Int32) → (Nat → Int32) → (Nat → Int32) → (Nat → Int32) → (Nat → Int32) → (Nat → Int32) → (Nat → Int32) → Int32 → Prop} {Φ : Int32 → Int32 → Int32 → Int32 → Int64 → Int32 → Int32 → Int32 → Int32 → Int32 → Int32 → Int32 → (Nat → Int32) → (Nat → Int32) → (Nat → Int32) → (Nat → Int32) → (Nat → Int32) → (Nat → Int32) → (Nat → Int32) → (Nat → Int32) → (Nat → Int32) → Prop}
    (hsl : sl < 5) (hR : RX sl b c N TG bits codec size words letter impact) (hV : VT b N TG) (hAs : AskR (TG.map (fun q => q.1)) S asked) (hl : sgs.length ≤ 320) (hw : ∀ s ∈ sgs, s.2.length ≤ 40) (hE : ∀ i, i < sgs.length → RWE TG S pT' pI' pZ' i (sgs.getD i (0, []))) :
    ∀ m k dp f sums, sgs.length ≤ k + m → k ≤ sgs.length → dp ≤ 40 * k → (∀ d, d < 40 → sums d = I (f d)) → (∀ k' dp' f' sums', wrun sgs bud clk dl m k dp f = (k', dp', f') → k' ≤ sgs.length → dp' ≤ 40 * k' → (∀ d, d < 40 → sums' d = I (f' d)) → K th ta at' (clk + (I dp').toInt64) te (I sgs.length) (I k') (I dp') pa (whyO sgs.length k' dp' bud) hits fresh word asked gap pT' pI' pZ' sums' hit l2) →
      L_X9_query_190 (m + 2) th ta at' (clk + (I dp).toInt64) te (I sgs.length) (I k) (I dp) pa (I 0) hits holds fresh tape word words letter asked size impact gap pT' pI' pZ' sums hit kept generation l2 bud dl (I sl) K Φ := by
  intro m
  induction m with
  | zero =>
    intro k dp f sums h1 h2 h3 h4 h5
    have := h5 k dp f sums rfl h2 h3 h4
    unfold whyO at this
    rw [if_pos (by omega)] at this
    unfold L_X9_query_190
    rw [I_le (by omega) (by omega)]
    exact ⟨fun _ => this, fun z => absurd (by omega) z⟩
  | succ m ih =>
    intro k dp f sums h1 h2 h3 h4 h5
    unfold L_X9_query_190
    rw [I_le (by omega) (by omega)]
    unfold wrun at h5
    refine ⟨fun z => ?_, fun z => ⟨fun y => absurd rfl y, fun _ => ⟨fun y => ⟨fun x => ⟨fun w => absurd rfl w, fun _ => ?_⟩, fun x => ⟨fun _ => ?_, fun w => absurd w (by decide)⟩⟩, fun y => ⟨fun _ => ?_, fun w => absurd w (by decide)⟩⟩⟩⟩
    · have := h5 k dp f sums (by rw [if_pos z]) h2 h3 h4
      unfold whyO at this
      rw [if_pos (by omega)] at this
      exact this
    · obtain ⟨a, q, a1, a2, a3, a4, a5, a6, a7⟩ := hE k (by omega)
      have hm : sgs.getD k (0, []) ∈ sgs := by rw [List.getD_eq_getElem?_getD, List.getElem?_eq_getElem (by omega)]; exact List.getElem_mem _
      have hlen := hw _ hm
      refine r_works hsl hR hV hAs a2 a3 a4 (by omega) a5 a6 a7 h4 a1 (fun sums' hs' => ?_)
      rw [clk_add (by omega)]
      exact ih (k + 1) (dp + (sgs.getD k (0, [])).2.length) _ sums' (by omega) (by omega) (by omega) hs' (fun k' dp' f' sums2 e => h5 k' dp' f' sums2 (by rw [if_neg z, if_neg (Int32.not_le.mpr y), if_pos x]; exact e))
    · have := h5 k dp f sums (by rw [if_neg z, if_neg (Int32.not_le.mpr y), if_neg x]) h2 h3 h4
      unfold whyO at this
      rw [if_neg (by omega), if_pos y] at this
      unfold L_X9_query_190
      rw [I_le (by omega) (by omega)]
      exact ⟨fun w => absurd w z, fun _ => ⟨fun _ => this, fun w => absurd w (by decide)⟩⟩
    · have := h5 k dp f sums (by rw [if_neg z, if_pos (Int32.not_lt.mp y)]) h2 h3 h4
      unfold whyO at this
      rw [if_neg (by omega), if_neg y] at this
      unfold L_X9_query_190
      rw [I_le (by omega) (by omega)]
      exact ⟨fun w => absurd w z, fun _ => ⟨fun _ => this, fun w => absurd w (by decide)⟩⟩
