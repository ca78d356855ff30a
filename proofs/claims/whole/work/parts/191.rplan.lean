
/-! the reference's plan: the sizes at one impact -/
def zF (TG : List (Nat × List Sg)) (S : List Nat) (N i t : Nat) : Nat := if t < (TG.map (fun q => q.1)).length ∧ (TG.map (fun q => q.1)).getD t 0 ∈ S then (dsOf N (TG.getD t (0, [])).2 i).length else 0
theorem dsOf_le (N : Nat) (segs : List Sg) (i : Nat) : (dsOf N segs i).length ≤ N := by
  unfold dsOf
  have := List.length_filter_le (fun d => decide (impOf segs d = i)) (List.range N)
  rwa [List.length_range] at this
theorem zF_le {TG : List (Nat × List Sg)} {S : List Nat} {N i t : Nat} : zF TG S N i t ≤ N := by
  unfold zF
  have := dsOf_le N (TG.getD t (0, [])).2 i
  split <;> omega
theorem l_pl30 {sl b c N i : Nat} {TG : List (Nat × List Sg)} {S : List Nat} {te sg po : Int32} {bits codec size words letter impact asked pT' pI' pZ' : Nat → Int32} {K : Int32 → Int32 → (Nat → Int32) → (Nat → Int32) → (Nat → Int32) → (Nat → Int32) → (Nat → Int32) → Int32 → Int32 → Int32 → Prop} {Φ : Int32 → Int32 → (Nat → Int32) → (Nat → Int32) → (Nat → Int32) → (Nat → Int32) → (Nat → Int32) → Prop}
    (hsl : sl < 5) (hR : RX sl b c N TG bits codec size words letter impact) (hV : VT b N TG) (hAs : AskR (TG.map (fun q => q.1)) S asked) (hi : i < 256)
    (hK : ∀ fresh gap mx, (∀ t, t < 64 → fresh t = I (zF TG S N i t)) → mx ≤ 40 → (∀ t, t < 64 → zF TG S N i t ≤ mx) → K sg po fresh gap pT' pI' pZ' (I sl) (I i) (I mx)) :
    ∀ k t fresh gap mx, 64 ≤ t + k → t ≤ 64 → (∀ u, u < t → fresh u = I (zF TG S N i u)) → mx ≤ 40 → (∀ u, u < t → zF TG S N i u ≤ mx) → L_X9_plans_30 (k + 1) te sg po asked fresh size impact gap pT' pI' pZ' (I sl) (I i) (I mx) (I t) K Φ := by
  have hN := hV.2.2.2.1
  intro k
  induction k with
  | zero =>
    intro t fresh gap mx h1 h2 h3 h4 h5
    unfold L_X9_plans_30
    rw [i_64, I_le (by omega) (by omega)]
    exact ⟨fun _ => hK fresh gap mx (fun u hu => h3 u (by omega)) h4 (fun u hu => h5 u (by omega)), fun z => absurd (by omega) z⟩
  | succ k ih =>
    intro t fresh gap mx h1 h2 h3 h4 h5
    unfold L_X9_plans_30
    rw [i_64, I_le (by omega) (by omega)]
    refine ⟨fun _ => hK fresh gap mx (fun u hu => h3 u (by omega)) h4 (fun u hu => h5 u (by omega)), fun z => ?_⟩
    rw [I_in (by omega), I_cl (by omega), hAs t (by omega)]
    have step : ∀ gap' z, z = zF TG S N i t → J_X9_plans_65 te sg po asked fresh size impact gap' pT' pI' pZ' (I sl) (I i) (I mx) (I t) (I t) (I z) (fun segments_24 postingsAll_25 fresh_26 gap_27 planTerm_28 planImpact_29 planSize_30 l1_31 l2_32 l3_33 l4_34 => L_X9_plans_30 (k + 1) te segments_24 postingsAll_25 asked fresh_26 size impact gap_27 planTerm_28 planImpact_29 planSize_30 l1_31 l2_32 l3_33 l4_34 K Φ) K Φ := by
      intro gap' z hz
      have hzl := zF_le (TG := TG) (S := S) (N := N) (i := i) (t := t)
      have hrow : ∀ u, u < t + 1 → upd fresh t (I z) u = I (zF TG S N i u) := fun u hu => by
        unfold upd
        by_cases e : u = t
        · subst e; rw [if_pos rfl, hz]
        · rw [if_neg e]; exact h3 u (by omega)
      unfold J_X9_plans_65
      rw [I_in (by omega), I_cl (by omega), hrow t (by omega), I_le (by omega) (by omega), i_1, I_add]
      refine ⟨by omega, by omega, fun y => ih (t + 1) _ gap' mx (by omega) (by omega) hrow h4 (fun u hu => ?_), fun y => ⟨by omega, ih (t + 1) _ gap' _ (by omega) (by omega) hrow (by omega) (fun u hu => ?_)⟩⟩
      · by_cases e : u = t
        · subst e; exact y
        · exact h5 u (by omega)
      · by_cases e : u = t
        · subst e; exact Nat.le_refl _
        · have := h5 u (by omega); omega
    refine ⟨by omega, fun y => ?_, fun y => ?_⟩
    · by_cases w : t < (TG.map (fun q => q.1)).length ∧ (TG.map (fun q => q.1)).getD t 0 ∈ S
      · have ht : t < TG.length := by have := w.1; rwa [List.length_map] at this
        have hq : TG[t]? = some (TG.getD t (0, [])) := by rw [List.getD_eq_getElem?_getD, List.getElem?_eq_getElem ht]; rfl
        refine r_gaps hsl hR hV hq (by omega) (fun gap' _ => ?_)
        refine step gap' _ ?_
        unfold zF
        rw [if_pos w]
        exact gp_len _ _
      · rw [if_neg w] at y
        exact absurd rfl y
    · have e : zF TG S N i t = 0 := by
        unfold zF
        by_cases w : t < (TG.map (fun q => q.1)).length ∧ (TG.map (fun q => q.1)).getD t 0 ∈ S
        · rw [if_pos w] at y; exact absurd y (by decide)
        · rw [if_neg w]
      exact step gap 0 e.symm
