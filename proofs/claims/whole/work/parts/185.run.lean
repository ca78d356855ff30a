
/-! the class runs a search -/
theorem allE_sg {b N : Nat} {TG : List (Nat × List Sg)} {A : List Nat} (hV : VT b N TG) (hA : ∀ t ∈ A, t < TG.length) {n : Nat} (hn : n ≤ A.length) {e : Nat × Nat × Nat × Nat} (he : e ∈ allE TG A n) :
    ∃ s, (SLt TG)[pG e]? = some s ∧ s.1 = pI e ∧ s.2.length = pZ e ∧ s.2.length ≤ 40 ∧ s.2.Nodup ∧ (∀ d ∈ s.2, d < 40) ∧ s.1 < 256 := by
  obtain ⟨v1, v2, v3, v4, v5, v6, v7, v8⟩ := hV
  have h2b : 2 ^ b ≤ 256 := Nat.pow_le_pow_right (n := 2) (by omega) v2
  unfold allE at he
  rw [List.mem_flatMap] at he
  obtain ⟨a, ha, he⟩ := he
  have ha := List.mem_range.mp ha
  unfold enJ at he
  rw [List.mem_map] at he
  obtain ⟨i, hi, rfl⟩ := he
  have hi := List.mem_range.mp hi
  have ht := hA _ (getD_mem (ds := A) (i := a) (by omega))
  have hq : TG[A.getD a 0]? = some (TG.getD (A.getD a 0) (0, [])) := by rw [List.getD_eq_getElem?_getD (l := TG), List.getElem?_eq_getElem ht]; rfl
  have hi' : i < (TG.getD (A.getD a 0) (0, [])).2.length := hi
  have hs : (TG.getD (A.getD a 0) (0, [])).2[i]? = some ((TG.getD (A.getD a 0) (0, [])).2.getD i (0, [])) := by rw [List.getD_eq_getElem?_getD (l := (TG.getD (A.getD a 0) (0, [])).2), List.getElem?_eq_getElem hi']; rfl
  obtain ⟨-, -, hvs⟩ := v7 _ (List.mem_of_getElem? hq)
  have hm := List.mem_of_getElem? hs
  have hse := hvs.2.1 _ hm
  have hsz := hvs.cnt.2 _ hm
  refine ⟨_, ?_, rfl, rfl, by omega, hse.2.2.2.1.nodup, fun d hd => by have := hse.2.2.2.2 d hd; omega, by omega⟩
  have := flat_get (g := fun q : Nat × List Sg => q.2) hq hi'
  rw [hs] at this
  exact this
theorem wrun_bd {sgs : List Sg} {bud : Int32} {clk dl : Int64} (hw : ∀ s ∈ sgs, s.1 < 256) : ∀ m k dp f k' dp' f', wrun sgs bud clk dl m k dp f = (k', dp', f') → (∀ d, f d ≤ 256 * k) → ∀ d, f' d ≤ 256 * k' := by
  intro m
  induction m with
  | zero =>
    intro k dp f k' dp' f' e h d
    unfold wrun at e
    cases e; exact h d
  | succ m ih =>
    intro k dp f k' dp' f' e h d
    unfold wrun at e
    split at e
    · cases e; exact h d
    · split at e
      · cases e; exact h d
      · split at e
        · refine ih _ _ _ _ _ _ e (fun d => ?_) d
          have hm : sgs.getD k (0, []) ∈ sgs := by rw [List.getD_eq_getElem?_getD, List.getElem?_eq_getElem (by omega)]; exact List.getElem_mem _
          have := hw _ hm
          have := h d
          unfold stp
          split <;> omega
        · cases e; exact h d
