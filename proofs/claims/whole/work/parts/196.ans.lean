
/-! what the last search left: hit, sum, last, plan -/
theorem s_hit {hs : List Nat} {f : Nat → Nat} {hit sums : Nat → Int32} {l1 l2 : Int32} {Φ : Int32 → Prop} {X : String → Prop} (hR : Row hit hs) (hf : ∀ d, d < 40 → sums d = I (f d)) (hl : hs.length ≤ 40) (hb : ∀ d ∈ hs, d < 40)
    (hX : (¬ ∃ i w, i < hs.length ∧ w ≤ 1 ∧ l1 = I i ∧ l2 = I w) → X eNS) (h : ∀ i w, i < hs.length → w ≤ 1 → l1 = I i → l2 = I w → Φ (if w = 0 then I (hs.getD i 0) else I (f (hs.getD i 0)))) : P_X8_hit (I hs.length) hit sums l1 l2 Φ X := by
  unfold P_X8_hit
  rw [i_0, i_1]
  refine ⟨fun z => hX ?_, fun z => ?_⟩
  · rintro ⟨i, w, h1, h2, rfl, rfl⟩
    rw [I_lt (by omega) (by omega)] at z; omega
  obtain ⟨i, hi, rfl⟩ := I_surj z
  rw [I_le (by omega) (by omega)]
  refine ⟨fun z => hX ?_, fun z => ⟨fun y => hX ?_, fun y => ?_⟩⟩
  · rintro ⟨i', w, h1, h2, e, -⟩
    rw [I_eq (by omega) (by omega)] at e; omega
  · rintro ⟨i', w, h1, h2, e, rfl⟩
    rw [I_lt (by omega) (by omega)] at y; omega
  obtain ⟨w, hw, rfl⟩ := I_surj y
  have hd : hs.getD i 0 < 40 := hb _ (getD_mem (by omega))
  rw [I_le (by omega) (by omega), I_eq (by omega) (by omega), I_in (by omega), I_cl (by omega), hR i (by omega), I_in (by omega), I_cl (by omega), hf _ hd]
  refine ⟨fun x => ?_, fun x => hX ?_⟩
  · have hh := h i w (by omega) x rfl rfl
    refine ⟨by omega, fun v => ?_, fun v => ?_⟩
    · rw [if_neg v] at hh
      exact ⟨hd, hh⟩
    · rw [if_pos v] at hh
      exact hh
  · rintro ⟨i', w', h1, h2, -, e⟩
    rw [I_eq (by omega) (by omega)] at e; omega
theorem r_hit {hs : List Nat} {f : Nat → Nat} {hit sums : Nat → Int32} {th l1 l2 : Int32} {Φ : Int32 → Int32 → Prop} (hR : Row hit hs) (hf : ∀ d, d < 40 → sums d = I (f d)) (hl : hs.length ≤ 40) (hb : ∀ d ∈ hs, d < 40)
    (hX : (¬ ∃ i w, i < hs.length ∧ w ≤ 1 ∧ l1 = I i ∧ l2 = I w) → Φ (I 0) (I 1)) (h : ∀ i w, i < hs.length → w ≤ 1 → l1 = I i → l2 = I w → Φ (if w = 0 then I (hs.getD i 0) else I (f (hs.getD i 0))) (I 0)) : P_X9_hit th (I hs.length) hit sums l1 l2 Φ := by
  have n10 : ¬ (I 1 = I 0) := by rw [I_eq (by omega) (by omega)]; omega
  have bad : (¬ ∃ i w, i < hs.length ∧ w ≤ 1 ∧ l1 = I i ∧ l2 = I w) → J_X9_hit_27 th (I hs.length) hit sums l1 l2 Φ := fun q => by
    unfold J_X9_hit_27 J_X9_hit_32
    rw [i_1]
    exact r_fails1 ⟨fun z => absurd z n10, fun _ => hX q⟩
  unfold P_X9_hit
  refine r_withinP (by omega) (fun i hi e => ⟨fun z => absurd z n10, fun _ => ?_⟩) (fun hno => ⟨fun _ => bad (fun ⟨i, w, h1, h2, h3, h4⟩ => hno i h1 h3), fun z => absurd rfl z⟩)
  rw [show (0 : Int64) = J 0 from rfl, show (1 : Int64) = J 1 from rfl]
  refine r_withinS (by omega) (by omega) (fun w _ hw e2 => ⟨fun _ => ?_, fun z => absurd z n10⟩) (fun hno => ⟨fun z => absurd rfl z, fun _ => bad (fun ⟨i, w, h1, h2, h3, h4⟩ => hno w (by omega) h2 h4)⟩)
  have hd : hs.getD i 0 < 40 := hb _ (getD_mem (by omega))
  have hh := h i w hi hw e e2
  subst e e2
  unfold J_X9_hit_32
  rw [i_0, i_1]
  refine r_fails0 ⟨fun _ => ?_, fun z => absurd rfl z⟩
  rw [I_eq (by omega) (by omega), I_in (by omega), I_cl (by omega), hR i (by omega), I_in (by omega), I_cl (by omega), hf _ hd]
  refine ⟨fun v => ?_, fun v => ?_⟩
  · rw [if_neg v] at hh
    exact ⟨by omega, hd, hh⟩
  · rw [if_pos v] at hh
    exact ⟨by omega, hh⟩
theorem s_sum {f : Nat → Nat} {sums : Nat → Int32} {l1 : Int32} {Φ : Int32 → Prop} {X : String → Prop} (hf : ∀ d, d < 40 → sums d = I (f d))
    (hX : (∀ d, d < 40 → l1 ≠ I d) → X eIA) (h : ∀ d, d < 40 → l1 = I d → Φ (I (f d))) : P_X8_sum sums l1 Φ X := by
  unfold P_X8_sum
  rw [i_0, i_40]
  refine ⟨fun z => hX (fun d hd e => ?_), fun z => ?_⟩
  · subst e
    rw [I_lt (by omega) (by omega)] at z; omega
  obtain ⟨i, hi, rfl⟩ := I_surj z
  rw [I_lt (by omega) (by omega), I_in (by omega), I_cl (by omega)]
  refine ⟨fun y => ⟨y, ?_⟩, fun y => hX (fun d hd e => ?_)⟩
  · rw [hf i y]; exact h i y rfl
  · rw [I_eq (by omega) (by omega)] at e; omega
theorem r_sum {f : Nat → Nat} {sums : Nat → Int32} {th l1 : Int32} {Φ : Int32 → Int32 → Prop} (hf : ∀ d, d < 40 → sums d = I (f d))
    (hX : (∀ d, d < 40 → l1 ≠ I d) → Φ (I 0) (I 1)) (h : ∀ d, d < 40 → l1 = I d → Φ (I (f d)) (I 0)) : P_X9_sum th sums l1 Φ := by
  have n10 : ¬ (I 1 = I 0) := by rw [I_eq (by omega) (by omega)]; omega
  unfold P_X9_sum
  rw [show (0 : Int64) = J 0 from rfl, show (39 : Int64) = J 39 from rfl]
  refine r_withinS (by omega) (by omega) (fun d _ hd e => ⟨fun _ => ?_, fun z => absurd z n10⟩) (fun hno => ⟨fun z => absurd rfl z, fun _ => ?_⟩)
  · unfold J_X9_sum_18
    rw [i_0]
    refine r_fails0 ⟨fun _ => ?_, fun z => absurd rfl z⟩
    subst e
    rw [I_in (by omega), I_cl (by omega), hf d (by omega)]
    exact ⟨by omega, h d (by omega) rfl⟩
  · unfold J_X9_sum_18
    rw [i_1]
    exact r_fails1 ⟨fun z => absurd z n10, fun _ => hX (fun d hd => hno d (by omega) (by omega))⟩
theorem s_last {a0 a1 a2 a3 a4 a5 l1 : Int32} {Φ : Int32 → Prop} {X : String → Prop}
    (hX : (∀ n, n ≤ 5 → l1 ≠ I n) → X eNS) (h : ∀ n, n ≤ 5 → l1 = I n → Φ (if n = 0 then a0 else if n = 1 then a1 else if n = 2 then a2 else if n = 3 then a3 else if n = 4 then a4 else a5)) : P_X8_last a0 a1 a2 a3 a4 a5 l1 Φ X := by
  unfold P_X8_last
  rw [i_0, i_1, i_2, i_3, i_4, i_5]
  refine ⟨fun e => h 0 (by omega) e, fun e => h 1 (by omega) e, fun e => h 2 (by omega) e, fun e => h 3 (by omega) e, fun e => h 4 (by omega) e, fun e => h 5 (by omega) e, fun e0 e1 e2 e3 e4 e5 => hX (fun n hn e => ?_)⟩
  match n, hn with
  | 0, _ => exact e0 e
  | 1, _ => exact e1 e
  | 2, _ => exact e2 e
  | 3, _ => exact e3 e
  | 4, _ => exact e4 e
  | 5, _ => exact e5 e
theorem r_last {a0 a1 a2 a3 a4 a5 th l1 : Int32} {Φ : Int32 → Int32 → Prop}
    (hX : (∀ n, n ≤ 5 → l1 ≠ I n) → Φ (I 0) (I 1)) (h : ∀ n, n ≤ 5 → l1 = I n → Φ (if n = 0 then a0 else if n = 1 then a1 else if n = 2 then a2 else if n = 3 then a3 else if n = 4 then a4 else a5) (I 0)) : P_X9_last th a0 a1 a2 a3 a4 a5 l1 Φ := by
  have n10 : ¬ (I 1 = I 0) := by rw [I_eq (by omega) (by omega)]; omega
  unfold P_X9_last
  rw [show (0 : Int64) = J 0 from rfl, show (5 : Int64) = J 5 from rfl]
  refine r_withinS (by omega) (by omega) (fun d _ hd e => ⟨fun _ => ?_, fun z => absurd z n10⟩) (fun hno => ⟨fun z => absurd rfl z, fun _ => ?_⟩)
  · unfold J_X9_last_18
    have hh := h d hd e
    subst e
    rw [i_0, i_1, i_2, i_3, i_4]
    refine r_fails0 ⟨fun _ => ?_, fun z => absurd rfl z⟩
    rw [I_eq (by omega) (by omega), I_eq (by omega) (by omega), I_eq (by omega) (by omega), I_eq (by omega) (by omega), I_eq (by omega) (by omega)]
    refine ⟨fun e => ?_, fun e => ?_, fun e => ?_, fun e => ?_, fun e => ?_, fun e0 e1 e2 e3 e4 => ?_⟩
    · subst e; exact hh
    · subst e; exact hh
    · subst e; exact hh
    · subst e; exact hh
    · subst e; exact hh
    · rw [if_neg e0, if_neg e1, if_neg e2, if_neg e3, if_neg e4] at hh; exact hh
  · unfold J_X9_last_18
    rw [i_1]
    exact r_fails1 ⟨fun z => absurd z n10, fun _ => hX (fun d hd => hno d (by omega) (by omega))⟩
def plV (P : List (Nat × Nat × Nat × Nat)) (i w : Nat) : Int32 := if w = 0 then I (pT (P.getD i (0, 0, 0, 0))) else if w = 1 then I (pI (P.getD i (0, 0, 0, 0))) else I (pZ (P.getD i (0, 0, 0, 0)))
theorem s_plan {P : List (Nat × Nat × Nat × Nat)} {pa pb pc' : Nat → Int32} {l1 l2 : Int32} {Φ : Int32 → Prop} {X : String → Prop} (hR : Row pa (P.map pI) ∧ Row pb (P.map pZ) ∧ Row pc' (P.map pT)) (hl : P.length ≤ 320)
    (hX : (¬ ∃ i w, i < P.length ∧ w ≤ 2 ∧ l1 = I i ∧ l2 = I w) → X eNS) (h : ∀ i w, i < P.length → w ≤ 2 → l1 = I i → l2 = I w → Φ (plV P i w)) : P_X8_plan (I P.length) pb pa pc' l1 l2 Φ X := by
  unfold P_X8_plan
  rw [i_0, i_1, i_2]
  refine ⟨fun z => hX ?_, fun z => ?_⟩
  · rintro ⟨i, w, h1, h2, rfl, rfl⟩
    rw [I_lt (by omega) (by omega)] at z; omega
  obtain ⟨i, hi, rfl⟩ := I_surj z
  rw [I_lt (by omega) (by omega)]
  refine ⟨fun z => ?_, fun z => hX ?_⟩
  · obtain ⟨r1, r2, r3⟩ := hR
    have x1 := r1 i (by rw [List.length_map]; exact z)
    have x2 := r2 i (by rw [List.length_map]; exact z)
    have x3 := r3 i (by rw [List.length_map]; exact z)
    rw [mget rfl] at x1 x2 x3
    rw [show (320 : Nat) = 320 from rfl, I_in (by omega), I_cl (by omega), x1, x2, x3]
    refine ⟨fun e => ⟨by omega, h i 0 z (by omega) rfl e⟩, fun e => ⟨by omega, h i 1 z (by omega) rfl e⟩, fun e => ⟨by omega, h i 2 z (by omega) rfl e⟩, fun e0 e1 e2 => hX ?_⟩
    rintro ⟨i', w, h1, h2, -, e⟩
    match w, h2 with
    | 0, _ => exact e0 e
    | 1, _ => exact e1 e
    | 2, _ => exact e2 e
  · rintro ⟨i', w, h1, h2, e, -⟩
    rw [I_eq (by omega) (by omega)] at e; omega
theorem r_plan {P : List (Nat × Nat × Nat × Nat)} {pT' pI' pZ' : Nat → Int32} {th l1 l2 : Int32} {Φ : Int32 → Int32 → Prop} (hR : R3 pT' pI' pZ' P) (hl : P.length ≤ 320)
    (hX : (¬ ∃ i w, i < P.length ∧ w ≤ 2 ∧ l1 = I i ∧ l2 = I w) → Φ (I 0) (I 1)) (h : ∀ i w, i < P.length → w ≤ 2 → l1 = I i → l2 = I w → Φ (plV P i w) (I 0)) : P_X9_plan th (I P.length) pT' pI' pZ' l1 l2 Φ := by
  have n10 : ¬ (I 1 = I 0) := by rw [I_eq (by omega) (by omega)]; omega
  have bad : (¬ ∃ i w, i < P.length ∧ w ≤ 2 ∧ l1 = I i ∧ l2 = I w) → J_X9_plan_29 th (I P.length) pT' pI' pZ' l1 l2 Φ := fun q => by
    unfold J_X9_plan_29 J_X9_plan_34
    rw [i_1]
    exact r_fails1 ⟨fun z => absurd z n10, fun _ => hX q⟩
  unfold P_X9_plan
  refine r_withinP (by omega) (fun i hi e => ⟨fun z => absurd z n10, fun _ => ?_⟩) (fun hno => ⟨fun _ => bad (fun ⟨i, w, h1, h2, h3, h4⟩ => hno i h1 h3), fun z => absurd rfl z⟩)
  rw [show (0 : Int64) = J 0 from rfl, show (2 : Int64) = J 2 from rfl]
  refine r_withinS (by omega) (by omega) (fun w _ hw e2 => ⟨fun _ => ?_, fun z => absurd z n10⟩) (fun hno => ⟨fun z => absurd rfl z, fun _ => bad (fun ⟨i, w, h1, h2, h3, h4⟩ => hno w (by omega) h2 h4)⟩)
  have hh := h i w hi hw e e2
  subst e e2
  obtain ⟨r1, r2, r3⟩ := hR
  have x1 := r1 i (by rw [List.length_map]; exact hi)
  have x2 := r2 i (by rw [List.length_map]; exact hi)
  have x3 := r3 i (by rw [List.length_map]; exact hi)
  rw [mget rfl] at x1 x2 x3
  unfold J_X9_plan_34
  rw [i_0, i_1]
  refine r_fails0 ⟨fun _ => ?_, fun z => absurd rfl z⟩
  rw [I_eq (by omega) (by omega), I_eq (by omega) (by omega), I_in (by omega), I_cl (by omega), x1, x2, x3]
  unfold plV at hh
  refine ⟨fun v => ⟨fun u => ?_, fun u => ?_⟩, fun v => ?_⟩
  · rw [if_neg v, if_neg u] at hh
    exact ⟨by omega, hh⟩
  · rw [if_neg v, if_pos u] at hh
    exact ⟨by omega, hh⟩
  · rw [if_pos v] at hh
    exact ⟨by omega, hh⟩
