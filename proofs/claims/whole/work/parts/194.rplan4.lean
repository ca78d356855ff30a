
/-! the reference's plan: all of it, and that it is the class's plan -/
def rqE (TG : List (Nat × List Sg)) (S : List Nat) (N c : Nat) : List (Nat × Nat × Nat × Nat) := (List.range c).flatMap (fun u => szE TG S N (255 - u) 40)
theorem rqE_succ (TG : List (Nat × List Sg)) (S : List Nat) (N c : Nat) : rqE TG S N (c + 1) = rqE TG S N c ++ szE TG S N (255 - c) 40 := by
  unfold rqE
  rw [List.range_succ, List.flatMap_append]; simp
theorem blkE_nil {TG : List (Nat × List Sg)} {S : List Nat} {N i z : Nat} (h : ∀ t, t < 64 → zF TG S N i t < z) : blkE TG S N i z 64 = [] := by
  unfold blkE
  rw [List.map_eq_nil_iff, List.filter_eq_nil_iff]
  intro u hu
  have hu := List.mem_range.mp hu
  have := h u hu
  have e : decide (zF TG S N i u = z) = false := decide_eq_false (by omega)
  rw [e, Bool.and_false]; decide
theorem szE_mx {TG : List (Nat × List Sg)} {S : List Nat} {N i mx : Nat} (h : ∀ t, t < 64 → zF TG S N i t ≤ mx) : ∀ k, szE TG S N i (mx + k) = szE TG S N i mx := by
  intro k
  induction k with
  | zero => rfl
  | succ k ih =>
    rw [← Nat.add_assoc, szE_succ, ih, blkE_nil (fun t ht => by have := h t ht; omega), List.append_nil]
theorem blkE_mono {TG : List (Nat × List Sg)} {S : List Nat} {N i z t : Nat} : ∀ k, (blkE TG S N i z t).length ≤ (blkE TG S N i z (t + k)).length := by
  intro k
  induction k with
  | zero => exact Nat.le_refl _
  | succ k ih =>
    rw [← Nat.add_assoc, blkE_succ, List.length_append]; omega
theorem szE_mono {TG : List (Nat × List Sg)} {S : List Nat} {N i w : Nat} : ∀ k, (szE TG S N i w).length ≤ (szE TG S N i (w + k)).length := by
  intro k
  induction k with
  | zero => exact Nat.le_refl _
  | succ k ih =>
    rw [← Nat.add_assoc, szE_succ, List.length_append]; omega
theorem rqE_mono {TG : List (Nat × List Sg)} {S : List Nat} {N c : Nat} : ∀ k, (rqE TG S N c).length ≤ (rqE TG S N (c + k)).length := by
  intro k
  induction k with
  | zero => exact Nat.le_refl _
  | succ k ih =>
    rw [← Nat.add_assoc, rqE_succ, List.length_append]; omega
theorem rq_bd {TG : List (Nat × List Sg)} {S : List Nat} {N c w t : Nat} (hc : c < 255) (hw : w < 40) (ht : t ≤ 64) : (rqE TG S N c ++ szE TG S N (255 - c) w).length + (blkE TG S N (255 - c) (w + 1) t).length ≤ (rqE TG S N 255).length := by
  have h1 := rqE_mono (TG := TG) (S := S) (N := N) (c := c + 1) (255 - (c + 1))
  rw [show c + 1 + (255 - (c + 1)) = 255 by omega, rqE_succ, List.length_append] at h1
  have h2 := szE_mono (TG := TG) (S := S) (N := N) (i := 255 - c) (w := w + 1) (40 - (w + 1))
  rw [show w + 1 + (40 - (w + 1)) = 40 by omega, szE_succ, List.length_append] at h2
  have h3 := blkE_mono (TG := TG) (S := S) (N := N) (i := 255 - c) (z := w + 1) (t := t) (64 - t)
  rw [show t + (64 - t) = 64 by omega] at h3
  rw [List.length_append]; omega
theorem l_pl14 {sl b c N L : Nat} {TG : List (Nat × List Sg)} {S : List Nat} {bits codec size words letter impact asked : Nat → Int32} {K Φ : Int32 → Int32 → (Nat → Int32) → (Nat → Int32) → (Nat → Int32) → (Nat → Int32) → (Nat → Int32) → Prop}
    (hsl : sl < 5) (hR : RX sl b c N TG bits codec size words letter impact) (hV : VT b N TG) (hAs : AskR (TG.map (fun q => q.1)) S asked) (hL : (rqE TG S N 255).length ≤ 599) (hA : 0 < L ∧ L < 100000)
    (hK : ∀ fresh gap pT' pI' pZ', R3 pT' pI' pZ' (rqE TG S N 255) → K (I (rqE TG S N 255).length) (I ((rqE TG S N 255).map pZ).sum) fresh gap pT' pI' pZ') :
    ∀ k c fresh gap pT' pI' pZ', 255 ≤ c + k → c ≤ 255 → R3 pT' pI' pZ' (rqE TG S N c) → L_X9_plans_14 (k + 1) (I L) (I (rqE TG S N c).length) (I ((rqE TG S N c).map pZ).sum) asked fresh size impact gap pT' pI' pZ' (I sl) (I (255 - c)) K Φ := by
  have hN := hV.2.2.2.1
  intro k
  induction k with
  | zero =>
    intro c fresh gap pT' pI' pZ' h1 h2 h3
    have e : c = 255 := by omega
    subst e
    unfold L_X9_plans_14
    rw [i_0, I_le (by omega) (by omega)]
    exact ⟨fun _ => hK _ _ _ _ _ h3, fun z => absurd (by omega) z⟩
  | succ k ih =>
    intro c fresh gap pT' pI' pZ' h1 h2 h3
    unfold L_X9_plans_14
    by_cases e : c = 255
    · subst e
      rw [i_0, I_le (by omega) (by omega)]
      exact ⟨fun _ => hK _ _ _ _ _ h3, fun z => absurd (by omega) z⟩
    · rw [i_0, I_le (by omega) (by omega), I_le (by omega) (by omega)]
      refine ⟨fun z => absurd z (by omega), fun _ => ⟨fun z => absurd z (by omega), fun _ => ⟨64 + 1, ?_⟩⟩⟩
      refine l_pl30 hsl hR hV hAs (by omega) (fun fresh gap mx hfr hmx hz => ⟨mx + 1, ?_⟩) 64 0 fresh gap 0 (by omega) (by omega) (fun u hu => absurd hu (by omega)) (by omega) (fun u hu => absurd hu (by omega))
      have hb : ∀ w, w < mx → ∀ t, t ≤ 64 → (rqE TG S N c ++ szE TG S N (255 - c) w).length + (blkE TG S N (255 - c) (w + 1) t).length ≤ 599 := fun w hw t ht => by
        have := rq_bd (TG := TG) (S := S) (N := N) (c := c) (w := w) (t := t) (by omega) (by omega) ht
        omega
      have e40 : szE TG S N (255 - c) mx = szE TG S N (255 - c) 40 := by
        have := szE_mx hz (40 - mx)
        rw [show mx + (40 - mx) = 40 by omega] at this
        exact this.symm
      have e0 : szE TG S N (255 - c) 0 = [] := rfl
      have key := l_pl98 (sl := sl) (i := 255 - c) (mx := mx) (Q := rqE TG S N c) (te := I L) (size := size) (impact := impact) (gap := gap) (K := fun segments_119 postingsAll_120 fresh_121 gap_122 planTerm_123 planImpact_124 planSize_125 l1_126 l2_127 => L_X9_plans_14 (k + 1) (I L) segments_119 postingsAll_120 asked fresh_121 size impact gap_122 planTerm_123 planImpact_124 planSize_125 l1_126 (l2_127 + (-1)) K Φ) (Φ := Φ) hAs hfr hN hmx hb (fun a b c' hr => by
        rw [e40, ← rqE_succ] at hr ⊢
        have k2 := ih (c + 1) fresh gap a b c' (by omega) (by omega) hr
        show L_X9_plans_14 _ _ _ _ _ _ _ _ _ _ _ _ _ (I (255 - c) + (-1)) _ _
        rw [show (-1 : Int32) = - I 1 from rfl, I_n1 (by omega)]
        exact k2) mx 0 pT' pI' pZ' (by omega) (by omega) (by rw [e0, List.append_nil]; exact h3)
      rw [e0, List.append_nil] at key
      exact key
