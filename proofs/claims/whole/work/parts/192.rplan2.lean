
/-! the reference's plan: the entries of one impact and one size -/
/-- asked for -/
def isA (TG : List (Nat × List Sg)) (S : List Nat) (t : Nat) : Bool := decide (t < (TG.map (fun q => q.1)).length ∧ (TG.map (fun q => q.1)).getD t 0 ∈ S)
def cntA (TG : List (Nat × List Sg)) (S : List Nat) (t : Nat) : Nat := ((List.range t).filter (fun u => isA TG S u)).length
def blkE (TG : List (Nat × List Sg)) (S : List Nat) (N i z t : Nat) : List (Nat × Nat × Nat × Nat) := ((List.range t).filter (fun u => isA TG S u && decide (zF TG S N i u = z))).map (fun u => (i, z, cntA TG S u, 0))
def R3 (pT' pI' pZ' : Nat → Int32) (Q : List (Nat × Nat × Nat × Nat)) : Prop := Row pT' (Q.map pT) ∧ Row pI' (Q.map pI) ∧ Row pZ' (Q.map pZ)
theorem cntA_succ (TG : List (Nat × List Sg)) (S : List Nat) (t : Nat) : cntA TG S (t + 1) = cntA TG S t + (if isA TG S t = true then 1 else 0) := by
  unfold cntA
  rw [List.range_succ, List.filter_append, List.length_append, fltP]
theorem blkE_succ (TG : List (Nat × List Sg)) (S : List Nat) (N i z t : Nat) : blkE TG S N i z (t + 1) = blkE TG S N i z t ++ (if isA TG S t = true ∧ zF TG S N i t = z then [(i, z, cntA TG S t, 0)] else []) := by
  unfold blkE
  rw [List.range_succ, List.filter_append, List.map_append]
  congr 1
  by_cases w : isA TG S t = true ∧ zF TG S N i t = z
  · rw [if_pos w]; simp [w.1, w.2]
  · rw [if_neg w]
    have : (isA TG S t && decide (zF TG S N i t = z)) = false := by
      cases h1 : isA TG S t with
      | false => rfl
      | true => simp only [Bool.true_and, decide_eq_false_iff_not]; exact fun e => w ⟨h1, e⟩
    simp [this]
theorem cntA_le (TG : List (Nat × List Sg)) (S : List Nat) (t : Nat) : cntA TG S t ≤ t := by
  have := List.length_filter_le (fun u => isA TG S u) (List.range t)
  rwa [List.length_range] at this
theorem R3.put {a b c : Nat → Int32} {Q : List (Nat × Nat × Nat × Nat)} (h : R3 a b c Q) (e : Nat × Nat × Nat × Nat) : R3 (upd a Q.length (I (pT e))) (upd b Q.length (I (pI e))) (upd c Q.length (I (pZ e))) (Q ++ [e]) := by
  obtain ⟨h1, h2, h3⟩ := h
  have x1 := h1.put (pT e)
  have x2 := h2.put (pI e)
  have x3 := h3.put (pZ e)
  rw [List.length_map] at x1 x2 x3
  refine ⟨?_, ?_, ?_⟩
  · rw [List.map_append]; exact x1
  · rw [List.map_append]; exact x2
  · rw [List.map_append]; exact x3
theorem l_pl110 {sl N i z : Nat} {TG : List (Nat × List Sg)} {S : List Nat} {Q : List (Nat × Nat × Nat × Nat)} {te l3 : Int32} {size impact asked fresh gap : Nat → Int32} {K : Int32 → Int32 → (Nat → Int32) → (Nat → Int32) → (Nat → Int32) → (Nat → Int32) → (Nat → Int32) → Int32 → Int32 → Int32 → Int32 → Prop} {Φ : Int32 → Int32 → (Nat → Int32) → (Nat → Int32) → (Nat → Int32) → (Nat → Int32) → (Nat → Int32) → Prop}
    (hAs : AskR (TG.map (fun q => q.1)) S asked) (hfr : ∀ t, t < 64 → fresh t = I (zF TG S N i t)) (hN : N ≤ 40) (hz : z ≤ 40) (hQ : ∀ t, t ≤ 64 → Q.length + (blkE TG S N i z t).length ≤ 599)
    (hK : ∀ pT' pI' pZ', R3 pT' pI' pZ' (Q ++ blkE TG S N i z 64) → K (I (Q ++ blkE TG S N i z 64).length) (I (((Q ++ blkE TG S N i z 64).map pZ).sum)) fresh gap pT' pI' pZ' (I sl) (I i) l3 (I z)) :
    ∀ k t pT' pI' pZ', 64 ≤ t + k → t ≤ 64 → R3 pT' pI' pZ' (Q ++ blkE TG S N i z t) → L_X9_plans_110 (k + 1) te (I (Q ++ blkE TG S N i z t).length) (I ((Q ++ blkE TG S N i z t).map pZ).sum) asked fresh size impact gap pT' pI' pZ' (I sl) (I i) l3 (I z) (I (cntA TG S t)) (I t) K Φ := by
  intro k
  induction k with
  | zero =>
    intro t pT' pI' pZ' h1 h2 h3
    have e : t = 64 := by omega
    subst e
    unfold L_X9_plans_110
    rw [i_64, I_le (by omega) (by omega)]
    exact ⟨fun _ => hK _ _ _ h3, fun z => absurd (Nat.le_refl _) z⟩
  | succ k ih =>
    intro t pT' pI' pZ' h1 h2 h3
    unfold L_X9_plans_110
    by_cases e : t = 64
    · subst e
      rw [i_64, I_le (by omega) (by omega)]
      exact ⟨fun _ => hK _ _ _ h3, fun z => absurd (Nat.le_refl _) z⟩
    · have hq := hQ t h2
      have hzl := zF_le (TG := TG) (S := S) (N := N) (i := i) (t := t)
      have key := ih (t + 1)
      rw [blkE_succ, cntA_succ, ← List.append_assoc] at key
      have hlen : (Q ++ blkE TG S N i z t).length = Q.length + (blkE TG S N i z t).length := List.length_append
      rw [i_64, I_le (by omega) (by omega), I_in (by omega), I_cl (by omega), hAs t (by omega), hfr t (by omega), I_eq (by omega) (by omega), i_1, I_add, I_add, I_add, I_add]
      refine ⟨fun w => absurd w (by omega), fun _ => ⟨by omega, fun y => ⟨by omega, fun x => ?_, fun x => ?_⟩, fun y => ?_⟩⟩
      · have hA : isA TG S t = true := by
          unfold isA
          by_cases w : t < (TG.map (fun q => q.1)).length ∧ (TG.map (fun q => q.1)).getD t 0 ∈ S
          · exact decide_eq_true w
          · rw [if_neg w] at y; exact absurd rfl y
        rw [if_neg (fun w => x w.2), if_pos hA, List.append_nil] at key
        exact key _ _ _ (by omega) (by omega) h3
      · have hA : isA TG S t = true := by
          unfold isA
          by_cases w : t < (TG.map (fun q => q.1)).length ∧ (TG.map (fun q => q.1)).getD t 0 ∈ S
          · exact decide_eq_true w
          · rw [if_neg w] at y; exact absurd rfl y
        rw [if_pos ⟨hA, x⟩, if_pos hA] at key
        have k2 := key _ _ _ (by omega) (by omega) (h3.put (i, z, cntA TG S t, 0))
        rw [List.length_append, List.map_append, List.sum_append] at k2
        rw [I_in (by omega), I_cl (by omega)]
        exact ⟨by omega, by omega, by omega, k2⟩
      · have hA : isA TG S t = false := by
          unfold isA
          by_cases w : t < (TG.map (fun q => q.1)).length ∧ (TG.map (fun q => q.1)).getD t 0 ∈ S
          · rw [if_pos w] at y; exact absurd y (by decide)
          · exact decide_eq_false w
        rw [if_neg (fun w => by rw [hA] at w; exact absurd w.1 (by decide)), if_neg (by rw [hA]; decide), List.append_nil] at key
        exact key _ _ _ (by omega) (by omega) h3
