
/-! the reference's plan: the entries of one impact -/
def szE (TG : List (Nat × List Sg)) (S : List Nat) (N i m : Nat) : List (Nat × Nat × Nat × Nat) := (List.range m).flatMap (fun z => blkE TG S N i (z + 1) 64)
theorem szE_succ (TG : List (Nat × List Sg)) (S : List Nat) (N i m : Nat) : szE TG S N i (m + 1) = szE TG S N i m ++ blkE TG S N i (m + 1) 64 := by
  unfold szE
  rw [List.range_succ, List.flatMap_append]; simp
theorem l_pl98 {sl N i mx : Nat} {TG : List (Nat × List Sg)} {S : List Nat} {Q : List (Nat × Nat × Nat × Nat)} {te : Int32} {size impact asked fresh gap : Nat → Int32} {K : Int32 → Int32 → (Nat → Int32) → (Nat → Int32) → (Nat → Int32) → (Nat → Int32) → (Nat → Int32) → Int32 → Int32 → Prop} {Φ : Int32 → Int32 → (Nat → Int32) → (Nat → Int32) → (Nat → Int32) → (Nat → Int32) → (Nat → Int32) → Prop}
    (hAs : AskR (TG.map (fun q => q.1)) S asked) (hfr : ∀ t, t < 64 → fresh t = I (zF TG S N i t)) (hN : N ≤ 40) (hmx : mx ≤ 40) (hQ : ∀ w, w < mx → ∀ t, t ≤ 64 → (Q ++ szE TG S N i w).length + (blkE TG S N i (w + 1) t).length ≤ 599)
    (hK : ∀ pT' pI' pZ', R3 pT' pI' pZ' (Q ++ szE TG S N i mx) → K (I (Q ++ szE TG S N i mx).length) (I ((Q ++ szE TG S N i mx).map pZ).sum) fresh gap pT' pI' pZ' (I sl) (I i)) :
    ∀ k w pT' pI' pZ', mx ≤ w + k → w ≤ mx → R3 pT' pI' pZ' (Q ++ szE TG S N i w) → L_X9_plans_98 (k + 1) te (I (Q ++ szE TG S N i w).length) (I ((Q ++ szE TG S N i w).map pZ).sum) asked fresh size impact gap pT' pI' pZ' (I sl) (I i) (I mx) (I (w + 1)) K Φ := by
  intro k
  induction k with
  | zero =>
    intro w pT' pI' pZ' h1 h2 h3
    have e : w = mx := by omega
    subst e
    unfold L_X9_plans_98
    rw [I_lt (by omega) (by omega)]
    exact ⟨fun _ => hK _ _ _ h3, fun z => absurd (by omega) z⟩
  | succ k ih =>
    intro w pT' pI' pZ' h1 h2 h3
    unfold L_X9_plans_98
    by_cases e : w = mx
    · subst e
      rw [I_lt (by omega) (by omega)]
      exact ⟨fun _ => hK _ _ _ h3, fun z => absurd (by omega) z⟩
    · rw [I_lt (by omega) (by omega)]
      refine ⟨fun z => absurd z (by omega), fun _ => ⟨64 + 1, ?_⟩⟩
      have e0 : blkE TG S N i (w + 1) 0 = [] := rfl
      have key := l_pl110 (sl := sl) (i := i) (z := w + 1) (Q := Q ++ szE TG S N i w) (te := te) (l3 := I mx) (size := size) (impact := impact) (gap := gap) (K := fun segments_99 postingsAll_100 fresh_101 gap_102 planTerm_103 planImpact_104 planSize_105 l1_106 l2_107 l3_108 l4_109 => L_X9_plans_98 (k + 1) te segments_99 postingsAll_100 asked fresh_101 size impact gap_102 planTerm_103 planImpact_104 planSize_105 l1_106 l2_107 l3_108 (l4_109 + 1) K Φ) (Φ := Φ) hAs hfr hN (by omega) (hQ w (by omega)) (fun a b c hr => by
        have k2 := ih (w + 1) a b c (by omega) (by omega) (by rw [szE_succ, ← List.append_assoc]; exact hr)
        rw [szE_succ, ← List.append_assoc] at k2
        show L_X9_plans_98 _ _ _ _ _ _ _ _ _ _ _ _ _ _ _ (I (w + 1) + 1) _ _
        rw [i_1, I_add]
        exact k2) 64 0 pT' pI' pZ' (by omega) (by omega) (by rw [e0, List.append_nil]; exact h3)
      rw [e0, List.append_nil] at key
      exact key
