
/-! the class's plan: all terms -/
def sgN (TG : List (Nat × List Sg)) (t : Nat) : Nat := (TG.getD t (0, [])).2.length
def allE (TG : List (Nat × List Sg)) (A : List Nat) (n : Nat) : List (Nat × Nat × Nat × Nat) := (List.range n).flatMap (fun a => enJ TG (A.getD a 0) a (sgN TG (A.getD a 0)))
theorem allE_succ (TG : List (Nat × List Sg)) (A : List Nat) (n : Nat) : allE TG A (n + 1) = allE TG A n ++ enJ TG (A.getD n 0) n (sgN TG (A.getD n 0)) := by
  unfold allE
  rw [List.range_succ, List.flatMap_append]; simp
theorem enJ_len (TG : List (Nat × List Sg)) (t a j : Nat) : (enJ TG t a j).length = j := by unfold enJ; rw [List.length_map, List.length_range]
/-- the impact of a document for the a-th term that is asked for -/
def ioF (TG : List (Nat × List Sg)) (A : List Nat) (n c : Nat) : Nat := if c / 40 < n then impOf (TG.getD (A.getD (c / 40) 0) (0, [])).2 (c % 40) else 0
theorem enJ_bd {b N : Nat} {TG : List (Nat × List Sg)} (hV : VT b N TG) {t a : Nat} (ht : t < TG.length) : sgN TG t ≤ 40 ∧ ∀ j, j ≤ sgN TG t → (∀ e ∈ enJ TG t a j, pI e < 256 ∧ pZ e < 256 ∧ pT e = a) ∧ ((enJ TG t a j).map pZ).sum ≤ 40 * j := by
  obtain ⟨v1, v2, v3, v4, v5, v6, v7, v8⟩ := hV
  have h2b : 2 ^ b ≤ 256 := Nat.pow_le_pow_right (n := 2) (by omega) v2
  have hq : TG[t]? = some (TG.getD t (0, [])) := by rw [List.getD_eq_getElem?_getD, List.getElem?_eq_getElem ht]; rfl
  obtain ⟨-, -, hvs⟩ := v7 _ (List.mem_of_getElem? hq)
  obtain ⟨c1, c2⟩ := hvs.cnt
  have en : ∀ i, i < sgN TG t → ((TG.getD t (0, [])).2.getD i (0, [])).1 < 256 ∧ ((TG.getD t (0, [])).2.getD i (0, [])).2.length ≤ 40 := fun i hi => by
    have hi' : i < (TG.getD t (0, [])).2.length := hi
    have hm : (TG.getD t (0, [])).2.getD i (0, []) ∈ (TG.getD t (0, [])).2 := by
      rw [List.getD_eq_getElem?_getD (l := (TG.getD t (0, [])).2), List.getElem?_eq_getElem hi']; exact List.getElem_mem _
    have x1 := (hvs.2.1 _ hm).2.1
    have x2 := c2 _ hm
    exact ⟨by omega, by omega⟩
  refine ⟨by unfold sgN; omega, fun j hj => ⟨fun e he => ?_, ?_⟩⟩
  · unfold enJ at he
    rw [List.mem_map] at he
    obtain ⟨i, hi, rfl⟩ := he
    obtain ⟨x1, x2⟩ := en i (by have := List.mem_range.mp hi; omega)
    exact ⟨x1, by show ((TG.getD t (0, [])).2.getD i (0, [])).2.length < 256; omega, rfl⟩
  · induction j with
    | zero => exact Nat.le_refl _
    | succ j ih =>
      have := ih (by omega)
      obtain ⟨-, x2⟩ := en j (by omega)
      rw [enJ_succ, List.map_append, List.sum_append]
      show _ + (((TG.getD t (0, [])).2.getD j (0, [])).2.length + 0) ≤ _
      omega
theorem allE_bd {b N : Nat} {TG : List (Nat × List Sg)} {A : List Nat} (hV : VT b N TG) (hA : ∀ t ∈ A, t < TG.length) : ∀ n, n ≤ A.length → (∀ e ∈ allE TG A n, pI e < 256 ∧ pZ e < 256 ∧ pT e < n) ∧ (allE TG A n).length ≤ 40 * n ∧ ((allE TG A n).map pZ).sum ≤ 1600 * n := by
  intro n
  induction n with
  | zero => exact fun _ => ⟨fun e he => by simp [allE] at he, Nat.le_refl _, Nat.le_refl _⟩
  | succ n ih =>
    intro hn
    obtain ⟨i1, i2, i3⟩ := ih (by omega)
    obtain ⟨s1, s2⟩ := enJ_bd (a := n) hV (hA _ (getD_mem (ds := A) (i := n) (by omega)))
    obtain ⟨s3, s4⟩ := s2 _ (Nat.le_refl _)
    rw [allE_succ]
    refine ⟨fun e he => ?_, ?_, ?_⟩
    · rcases List.mem_append.mp he with y | y
      · have := i1 e y; exact ⟨this.1, this.2.1, by omega⟩
      · have := s3 e y; exact ⟨this.1, this.2.1, by omega⟩
    · rw [List.length_append, enJ_len]; omega
    · rw [List.map_append, List.sum_append]; omega
theorem l_mp28 {TG : List (Nat × List Sg)} {b N : Nat} {A : List Nat} {pkT : Int32} {tm : Nat → Int64} {picked fs im fp doc : Nat → Int32} {K Φ : Int32 → Int32 → Int32 → (Nat → Int32) → (Nat → Int32) → (Nat → Int32) → (Nat → Int32) → (Nat → Int32) → Prop}
    (hA : CA TG tm fs im fp doc) (hV : VT b N TG) (hAk : ∀ t ∈ A, t < TG.length) (hA8 : A.length ≤ 8) (hpk : Row picked A)
    (hK : ∀ P pa pb pc' pd io, P.Pairwise pord → (∀ x, x ∈ P ↔ x ∈ allE TG A A.length) → P.length = (allE TG A A.length).length → R4 pa pb pc' pd P → (∀ c, c < 320 → io c = I (ioF TG A A.length c)) → K (I A.length) (I P.length) (I ((allE TG A A.length).map pZ).sum) io pa pb pc' pd) :
    ∀ k a P pa pb pc' pd io, A.length ≤ a + k → a ≤ A.length → P.Pairwise pord → (∀ x, x ∈ P ↔ x ∈ allE TG A a) → P.length = (allE TG A a).length → R4 pa pb pc' pd P → (∀ c, c < 320 → io c = I (ioF TG A a c)) →
      L_X6_makePlan_28 (k + 1) pkT (I A.length) (I P.length) (I ((allE TG A a).map pZ).sum) io picked fs im fp pa pb pc' pd doc (I a) K Φ := by
  have h64 : TG.length ≤ 64 := hV.2.2.2.2.1
  have fin : ∀ a P pa pb pc' pd io, A.length ≤ a → a ≤ A.length → P.Pairwise pord → (∀ x, x ∈ P ↔ x ∈ allE TG A a) → P.length = (allE TG A a).length → R4 pa pb pc' pd P → (∀ c, c < 320 → io c = I (ioF TG A a c)) → K (I A.length) (I P.length) (I ((allE TG A a).map pZ).sum) io pa pb pc' pd := by
    intro a P pa pb pc' pd io q1 q2 q3 q4 q5 q6 q7
    have e : a = A.length := by omega
    subst e
    exact hK P pa pb pc' pd io q3 q4 q5 q6 q7
  intro k
  induction k with
  | zero =>
    intro a P pa pb pc' pd io q1 q2 q3 q4 q5 q6 q7
    unfold L_X6_makePlan_28
    rw [I_le (by omega) (by omega)]
    exact ⟨fun z => fin a P pa pb pc' pd io z q2 q3 q4 q5 q6 q7, fun z => absurd (by omega) z⟩
  | succ k ih =>
    intro a P pa pb pc' pd io q1 q2 q3 q4 q5 q6 q7
    unfold L_X6_makePlan_28
    rw [I_le (by omega) (by omega)]
    refine ⟨fun z => fin a P pa pb pc' pd io z q2 q3 q4 q5 q6 q7, fun z => ?_⟩
    have hm := hAk _ (getD_mem (ds := A) (i := a) (by omega))
    have hq : TG[A.getD a 0]? = some (TG.getD (A.getD a 0) (0, [])) := by
      rw [List.getD_eq_getElem?_getD (l := TG), List.getElem?_eq_getElem hm]; rfl
    obtain ⟨b1, b2, b3⟩ := allE_bd hV hAk a q2
    have hfs : fs (A.getD a 0) = I (fsF TG (A.getD a 0)) := hA.2.1 _ (by omega)
    rw [I_in (by omega), I_cl (by omega), hpk a (by omega), I_in (by omega), I_cl (by omega), hfs]
    refine ⟨by omega, by omega, sgN TG (A.getD a 0) + 1, ?_⟩
    have e0 : ((enJ TG (A.getD a 0) a 0).map pZ).sum = 0 := rfl
    have key := l_mp48 (K := fun terms_18 segments_19 postings_20 impactOf_21 planImpact_22 planSize_23 planTerm_24 planSegment_25 l2_26 => L_X6_makePlan_28 (k + 1) pkT terms_18 segments_19 postings_20 impactOf_21 picked fs im fp planImpact_22 planSize_23 planTerm_24 planSegment_25 doc (l2_26 + 1) K Φ) (Φ := Φ) (F0 := ioF TG A a) (B := allE TG A a) (pkT := pkT) (te := I A.length) (po0 := ((allE TG A a).map pZ).sum) hA hV hq (by omega) (hpk a (by omega)) b1 b2 b3 (fun P' pa' pb' pc2 pd' io' w1 w2 w3 w4 w5 => by
      show L_X6_makePlan_28 _ _ _ _ _ _ _ _ _ _ _ _ _ _ _ (I a + 1) _ _
      have key2 := ih (a + 1) P' pa' pb' pc2 pd' io' (by omega) (by omega) w1 (fun x => by rw [w2 x, allE_succ]; rfl) (by rw [w3, allE_succ, List.length_append, enJ_len]; rfl) w4 (fun c hc => by
        rw [w5 c hc]
        unfold ioF
        by_cases y : c / 40 = a
        · rw [if_pos y, if_pos (by omega), y]
        · rw [if_neg y]
          by_cases u : c / 40 < a
          · rw [if_pos u, if_pos (by omega)]
          · rw [if_neg u, if_neg (by omega)])
      rw [allE_succ, List.map_append, List.sum_append, w3] at key2
      rw [i_1, I_add]
      exact key2) (sgN TG (A.getD a 0)) 0 P pa pb pc' pd io (by show (TG.getD (A.getD a 0) (0, [])).2.length ≤ 0 + (TG.getD (A.getD a 0) (0, [])).2.length; omega) (Nat.zero_le _) q3 (fun x => by rw [q4 x, List.mem_append]; exact ⟨Or.inl, fun y => by rcases y with y | y; exact y; simp [enJ] at y⟩) (by rw [q5]; rfl) q6 (fun c hc => by
        rw [q7 c hc]
        by_cases y : c / 40 = a
        · rw [if_pos y, List.take_zero]
          unfold ioF
          rw [if_neg (by omega)]; rfl
        · rw [if_neg y]) (Nat.le_refl _)
    rw [e0, Nat.add_zero, Nat.add_zero, ← q5] at key
    exact key
