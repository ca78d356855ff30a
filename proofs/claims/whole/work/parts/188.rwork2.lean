
/-! the reference works through a segment -/
theorem VS.same {b N : Nat} {segs : List Sg} (h : VS b N segs) {s s' : Sg} (hs : s ∈ segs) (hs' : s' ∈ segs) (e : s'.1 = s.1) : s' = s := by
  obtain ⟨i, hi, ei⟩ := List.mem_iff_getElem.mp hs
  obtain ⟨j, hj, ej⟩ := List.mem_iff_getElem.mp hs'
  have p := List.pairwise_iff_getElem.mp h.1
  rcases Nat.lt_trichotomy i j with q | q | q
  · have := p i j hi hj q; rw [ei, ej] at this; omega
  · subst q; rw [← ei, ← ej]
  · have := p j i hj hi q; rw [ei, ej] at this; omega
theorem VS.at {b N : Nat} {segs : List Sg} (h : VS b N segs) {s : Sg} (hs : s ∈ segs) (d : Nat) : impOf segs d = s.1 ↔ d ∈ s.2 := by
  constructor
  · intro e
    obtain ⟨s', h1, h2, h3⟩ := impOf_some (h.2.1 s hs).1 e
    rw [← h.same hs h1 h3]; exact h2
  · exact fun hd => impOf_mem h.2.2 hs hd
theorem l_works38 {sl b c N t k : Nat} {TG : List (Nat × List Sg)} {q : Nat × List Sg} {s : Sg} {f : Nat → Nat} {clk : Int64} {pd : Int32} {pT' asked pI' pZ' bits codec size words letter impact : Nat → Int32} {K Φ : Int64 → Int32 → Int32 → (Nat → Int32) → Prop} (hsl : sl < 5) (hR : RX sl b c N TG bits codec size words letter impact) (hV : VT b N TG) (hq : TG[t]? = some q) (hs : s ∈ q.2) (hk : k < 600) (hpi : pI' k = I s.1)
    (hK : ∀ sums, (∀ d, d < 40 → sums d = I (stp f s d)) → K clk (I k) pd sums) :
    ∀ m i sums, N ≤ i + m → i ≤ N → (∀ d, d < 40 → sums d = I (stp f (s.1, s.2.filter (fun x => decide (x < i))) d)) → L_X9_works_38 (m + 1) clk (I k) pd pT' asked size impact pI' sums pZ' (I sl) (I t) (I i) K Φ := by
  obtain ⟨v1, v2, v3, v4, v5, v6, v7, v8⟩ := id hV
  have ht : t < TG.length := Classical.byContradiction fun z => by rw [List.getElem?_eq_none (by omega)] at hq; simp at hq
  obtain ⟨-, -, hvs⟩ := v7 q (List.mem_of_getElem? hq)
  have hse := hvs.2.1 s hs
  have h2b : 2 ^ b ≤ 256 := Nat.pow_le_pow_right (n := 2) (by omega) v2
  have fin : ∀ i sums, N ≤ i → (∀ d, d < 40 → sums d = I (stp f (s.1, s.2.filter (fun x => decide (x < i))) d)) → K clk (I k) pd sums := fun i sums a h => hK sums (fun d hd => by
    have e : s.2.filter (fun x => decide (x < i)) = s.2 := by
      rw [List.filter_eq_self]
      intro x hx
      have := hse.2.2.2.2 x hx
      exact decide_eq_true (by omega)
    have := h d hd
    rw [e] at this; exact this)
  intro m
  induction m with
  | zero =>
    intro i sums h1 h2 h3
    unfold L_X9_works_38
    rw [I_in (by omega), I_cl (by omega), hR.2.2.1, I_le (by omega) (by omega)]
    exact ⟨hsl, fun z => fin i sums z h3, fun z => absurd (by omega) z⟩
  | succ m ih =>
    intro i sums h1 h2 h3
    unfold L_X9_works_38
    rw [I_in (by omega), I_cl (by omega), hR.2.2.1, I_le (by omega) (by omega)]
    refine ⟨hsl, fun z => fin i sums z h3, fun z => ?_⟩
    unfold P_X9_cell
    have hc := hR.2.2.2.2.2 t q hq i (by omega)
    have hlt := impOf_lt2 hvs i
    rw [i_2560, i_40, I_mul, I_mul, I_add, I_add]
    show _ ∧ _
    rw [I_in (by omega), I_cl (by omega), I_in (by omega), I_cl (by omega), hc, hpi, I_eq (by omega) (by omega), hvs.at hs i, I_in (by omega), I_cl (by omega), i_1, I_add]
    refine ⟨by omega, hk, fun y => ih (i + 1) sums (by omega) (by omega) (fun d hd => ?_), fun y => ⟨by omega, hk, by omega, ih (i + 1) _ (by omega) (by omega) (fun d hd => ?_)⟩⟩
    · rw [h3 d hd]
      unfold stp
      simp only [List.mem_filter, decide_eq_true_eq]
      by_cases w : d ∈ s.2 ∧ d < i
      · rw [if_pos w, if_pos ⟨w.1, by omega⟩]
      · rw [if_neg w, if_neg (fun x => by
          by_cases u : d = i
          · subst u; exact y x.1
          · exact w ⟨x.1, by omega⟩)]
    · unfold upd
      by_cases u : d = i
      · subst u
        rw [if_pos rfl, h3 d hd, I_add]
        unfold stp
        simp only [List.mem_filter, decide_eq_true_eq]
        rw [if_neg (fun x => Nat.lt_irrefl _ x.2), if_pos ⟨y, by omega⟩]
        rfl
      · rw [if_neg u, h3 d hd]
        unfold stp
        simp only [List.mem_filter, decide_eq_true_eq]
        by_cases w : d ∈ s.2 ∧ d < i
        · rw [if_pos w, if_pos ⟨w.1, by omega⟩]
        · rw [if_neg w, if_neg (fun x => w ⟨x.1, by omega⟩)]
