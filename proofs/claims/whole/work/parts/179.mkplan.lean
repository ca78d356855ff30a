
/-! the class's plan: all of one term -/
theorem VS.cnt {b N : Nat} {segs : List Sg} (h : VS b N segs) : segs.length ≤ N ∧ (∀ s ∈ segs, s.2.length ≤ N) := by
  obtain ⟨h1, h2, h3⟩ := h
  have a := PL_len_le segs (fun s hs => (h2 s hs).2.2.1)
  have c := List.Nodup.length_le_of_subset (l₂ := List.range N) h3 (fun d hd => by
    unfold PL at hd
    rw [List.mem_flatMap] at hd
    obtain ⟨s, hs, hd⟩ := hd
    exact List.mem_range.mpr ((h2 s hs).2.2.2.2 d hd))
  rw [List.length_range] at c
  refine ⟨by omega, fun s hs => ?_⟩
  have e := List.Nodup.length_le_of_subset (l₂ := List.range N) (h2 s hs).2.2.2.1.nodup (fun d hd => List.mem_range.mpr ((h2 s hs).2.2.2.2 d hd))
  rwa [List.length_range] at e
/-- the entries of the first j segments of a term, asked for as the a-th -/
def enJ (TG : List (Nat × List Sg)) (t a j : Nat) : List (Nat × Nat × Nat × Nat) := (List.range j).map (fun i => (((TG.getD t (0, [])).2.getD i (0, [])).1, ((TG.getD t (0, [])).2.getD i (0, [])).2.length, a, fsF TG t + i))
theorem enJ_succ (TG : List (Nat × List Sg)) (t a j : Nat) : enJ TG t a (j + 1) = enJ TG t a j ++ [(((TG.getD t (0, [])).2.getD j (0, [])).1, ((TG.getD t (0, [])).2.getD j (0, [])).2.length, a, fsF TG t + j)] := by
  unfold enJ
  rw [List.range_succ, List.map_append]; rfl
theorem l_mp48 {TG : List (Nat × List Sg)} {b N t a po0 : Nat} {q : Nat × List Sg} {B : List (Nat × Nat × Nat × Nat)} {F0 : Nat → Nat} {pkT te : Int32} {tm : Nat → Int64} {picked fs im fp doc : Nat → Int32} {K : Int32 → Int32 → Int32 → (Nat → Int32) → (Nat → Int32) → (Nat → Int32) → (Nat → Int32) → (Nat → Int32) → Int32 → Prop} {Φ : Int32 → Int32 → Int32 → (Nat → Int32) → (Nat → Int32) → (Nat → Int32) → (Nat → Int32) → (Nat → Int32) → Prop}
    (hA : CA TG tm fs im fp doc) (hV : VT b N TG) (hq : TG[t]? = some q) (ha : a < 8) (hpk : picked a = I t) (hB : ∀ e ∈ B, pI e < 256 ∧ pZ e < 256 ∧ pT e < a) (hBl : B.length ≤ 40 * a) (hpo : po0 ≤ 1600 * a)
    (hK : ∀ P pa pb pc' pd io, P.Pairwise pord → (∀ x, x ∈ P ↔ x ∈ B ++ enJ TG t a q.2.length) → P.length = B.length + q.2.length → R4 pa pb pc' pd P → (∀ c, c < 320 → io c = I (if c / 40 = a then impOf q.2 (c % 40) else F0 c)) → K te (I (B.length + q.2.length)) (I (po0 + ((enJ TG t a q.2.length).map pZ).sum)) io pa pb pc' pd (I a)) :
    ∀ k j P pa pb pc' pd io, q.2.length ≤ j + k → j ≤ q.2.length → P.Pairwise pord → (∀ x, x ∈ P ↔ x ∈ B ++ enJ TG t a j) → P.length = B.length + j → R4 pa pb pc' pd P → (∀ c, c < 320 → io c = I (if c / 40 = a then impOf (q.2.take j) (c % 40) else F0 c)) → ((enJ TG t a j).map pZ).sum ≤ 40 * j →
      L_X6_makePlan_48 (k + 1) pkT te (I (B.length + j)) (I (po0 + ((enJ TG t a j).map pZ).sum)) io picked fs im fp pa pb pc' pd doc (I a) (I (fsF TG t + j)) K Φ := by
  obtain ⟨v1, v2, v3, v4, v5, v6, v7, v8⟩ := id hV
  have ht : t < TG.length := Classical.byContradiction fun z => by rw [List.getElem?_eq_none (by omega)] at hq; simp at hq
  have hqm := List.mem_of_getElem? hq
  obtain ⟨-, -, hvs⟩ := v7 q hqm
  obtain ⟨c1, c2⟩ := hvs.cnt
  have hgq : TG.getD t (0, []) = q := by rw [List.getD_eq_getElem?_getD, hq]; rfl
  have hsl := hV.sl TG.length
  rw [List.take_length] at hsl
  have h2b : 2 ^ b ≤ 256 := Nat.pow_le_pow_right (n := 2) (by omega) v2
  have e1 : fsF TG (t + 1) = fsF TG t + q.2.length := by
    have := congrArg List.length (flat_take (g := fun q : Nat × List Sg => q.2) hq)
    rw [List.length_append] at this
    exact this
  have hfs : fs (t + 1) = I (fsF TG t + q.2.length) := by rw [hA.2.1 (t + 1) (by omega), e1]
  have hle : fsF TG (t + 1) ≤ (SLt TG).length := flat_take_le TG (fun q : Nat × List Sg => q.2) (t + 1)
  have hen : ∀ j, j ≤ q.2.length → ∀ e ∈ enJ TG t a j, pI e < 256 ∧ pZ e < 256 ∧ pT e = a := fun j hj e he => by
    unfold enJ at he
    rw [List.mem_map] at he
    obtain ⟨i, hi, rfl⟩ := he
    have hi := List.mem_range.mp hi
    rw [hgq]
    have hm : q.2.getD i (0, []) ∈ q.2 := by rw [List.getD_eq_getElem?_getD, List.getElem?_eq_getElem (by omega)]; exact List.getElem_mem _
    have x1 := (hvs.2.1 _ hm).2.1
    have x2 := c2 _ hm
    exact ⟨by show (q.2.getD i (0, [])).1 < 256; omega, by show (q.2.getD i (0, [])).2.length < 256; omega, rfl⟩
  have fin : ∀ j P pa pb pc' pd io, q.2.length ≤ j → j ≤ q.2.length → P.Pairwise pord → (∀ x, x ∈ P ↔ x ∈ B ++ enJ TG t a j) → P.length = B.length + j → R4 pa pb pc' pd P → (∀ c, c < 320 → io c = I (if c / 40 = a then impOf (q.2.take j) (c % 40) else F0 c)) → K te (I (B.length + j)) (I (po0 + ((enJ TG t a j).map pZ).sum)) io pa pb pc' pd (I a) := by
    intro j P pa pb pc' pd io q1 q2 q3 q4 q5 q6 q7
    have e : j = q.2.length := by omega
    subst e
    rw [List.take_length] at q7
    exact hK P pa pb pc' pd io q3 q4 q5 q6 q7
  intro k
  induction k with
  | zero =>
    intro j P pa pb pc' pd io q1 q2 q3 q4 q5 q6 q7 q8
    unfold L_X6_makePlan_48
    rw [I_in (by omega), I_cl (by omega), hpk, i_1, I_add, I_in (by omega), I_cl (by omega), hfs, I_le (by omega) (by omega)]
    exact ⟨ha, by omega, fun z => fin j P pa pb pc' pd io (by omega) q2 q3 q4 q5 q6 q7, fun z => absurd (by omega) z⟩
  | succ k ih =>
    intro j P pa pb pc' pd io q1 q2 q3 q4 q5 q6 q7 q8
    unfold L_X6_makePlan_48
    rw [I_in (by omega), I_cl (by omega), hpk, i_1, I_add, I_in (by omega), I_cl (by omega), hfs, I_le (by omega) (by omega), I_add]
    refine ⟨ha, by omega, fun z => fin j P pa pb pc' pd io (by omega) q2 q3 q4 q5 q6 q7, fun z => ?_⟩
    have hjl : j < q.2.length := by omega
    have hs : q.2[j]? = some (q.2.getD j (0, [])) := by rw [List.getD_eq_getElem?_getD, List.getElem?_eq_getElem hjl]; rfl
    have hm := List.mem_of_getElem? hs
    have hg : (SLt TG)[fsF TG t + j]? = some (q.2.getD j (0, [])) := by
      have := flat_get (g := fun q : Nat × List Sg => q.2) hq hjl
      rw [hs] at this; exact this
    have hse := hvs.2.1 _ hm
    have hsz := c2 _ hm
    have hes := enJ_succ TG t a j
    rw [hgq] at hes
    have hsum : ((enJ TG t a (j + 1)).map pZ).sum = ((enJ TG t a j).map pZ).sum + (q.2.getD j (0, [])).2.length := by
      rw [hes, List.map_append, List.sum_append]; rfl
    have htk : q.2.take (j + 1) = q.2.take j ++ [q.2.getD j (0, [])] := by rw [List.take_succ, hs]; rfl
    rw [← q5]
    refine s_planOne (F := fun c => if c / 40 = a then impOf (q.2.take j) (c % 40) else F0 c) hA hg hsl v8 (by omega) (by omega) (fun d hd => by have := hse.2.2.2.2 d hd; omega) ha (by omega) (fun e he => ?_) (by omega) q6 q7 q3 (fun x hx => ?_) (fun P' pa' pb' pc2 pd' io' w1 w2 w3 w4 w5 => ?_)
    · rcases List.mem_append.mp ((q4 e).mp he) with y | y
      · exact ⟨(hB e y).1, (hB e y).2.1⟩
      · exact ⟨(hen j (by omega) e y).1, (hen j (by omega) e y).2.1⟩
    · rcases List.mem_append.mp ((q4 x).mp hx) with y | y
      · exact Or.inl (hB x y).2.2
      · refine Or.inr ⟨(hen j (by omega) x y).2.2, ?_⟩
        unfold enJ at y
        rw [List.mem_map] at y
        obtain ⟨i, hi, rfl⟩ := y
        have hi := List.mem_range.mp hi
        rw [hgq]
        show (q.2.getD j (0, [])).1 < (q.2.getD i (0, [])).1
        have := List.pairwise_iff_getElem.mp hvs.1 i j (by omega) hjl hi
        rw [List.getD_eq_getElem?_getD, List.getD_eq_getElem?_getD, List.getElem?_eq_getElem hjl, List.getElem?_eq_getElem (show i < q.2.length by omega)]
        exact this
    · have key := ih (j + 1) P' pa' pb' pc2 pd' io' (by omega) (by omega) w1 (fun x => by
        rw [w2 x, q4 x, hes, List.mem_append, List.mem_append, List.mem_append, List.mem_singleton]
        constructor
        · rintro (y | y | y)
          · exact Or.inr (Or.inr y)
          · exact Or.inl y
          · exact Or.inr (Or.inl y)
        · rintro (y | y | y)
          · exact Or.inr (Or.inl y)
          · exact Or.inr (Or.inr y)
          · exact Or.inl y) (by omega) w4 (fun c hc => by
        rw [w5 c hc, htk]
        by_cases y : c / 40 = a
        · simp only [if_pos y]
          have hnd : ∀ d ∈ (q.2.getD j (0, [])).2, d ∉ PL (q.2.take j) := fun d hd hd2 => by
            have hn := hvs.2.2
            have ee : q.2 = q.2.take j ++ (q.2.getD j (0, []) :: q.2.drop (j + 1)) := split_at hs
            rw [ee, PL_app] at hn
            have := (List.nodup_append.mp hn).2.2 d hd2 d (by
              unfold PL
              rw [List.flatMap_cons]
              exact List.mem_append.mpr (Or.inl hd))
            exact this rfl
          rw [impOf_app hnd]
          unfold fset
          by_cases u : c % 40 ∈ (q.2.getD j (0, [])).2
          · rw [if_pos ⟨y, u⟩, if_pos u]
          · rw [if_neg (fun x => u x.2), if_neg u]
        · rw [if_neg y, if_neg (fun x => y x.1)]
          simp only [if_neg y]) (by omega)
      rw [hsum, ← Nat.add_assoc, ← Nat.add_assoc] at key
      rw [q5]
      exact key
