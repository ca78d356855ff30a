
/-! generations: copies, publish -/
/-- the arrays agree at a slot -/
def SF (s : Nat) (b c z w l i b' c' z' w' l' i' : Nat → Int32) : Prop := b' s = b s ∧ c' s = c s ∧ z' s = z s ∧ w' s = w s ∧ (∀ j, j < 512 → l' (512 * s + j) = l (512 * s + j)) ∧ ∀ j, j < 2560 → i' (2560 * s + j) = i (2560 * s + j)
theorem RX.frame {s b c N : Nat} {TG : List (Nat × List Sg)} {bits codec size words letter impact bits' codec' size' words' letter' impact' : Nat → Int32} (h : RX s b c N TG bits codec size words letter impact) (h64 : TG.length ≤ 64) (hS : SF s bits codec size words letter impact bits' codec' size' words' letter' impact') : RX s b c N TG bits' codec' size' words' letter' impact' := by
  obtain ⟨a1, a2, a3, a4, a5, a6⟩ := h
  obtain ⟨b1, b2, b3, b4, b5, b6⟩ := hS
  refine ⟨by rw [b1]; exact a1, by rw [b2]; exact a2, by rw [b3]; exact a3, by rw [b4]; exact a4, fun i hi k hk => ?_, fun t q hq d hd => ?_⟩
  · have := b5 (8 * i + k) (by rw [List.length_map] at hi; omega)
    rw [← Nat.add_assoc] at this
    rw [this]; exact a5 i hi k hk
  · have ht : t < TG.length := Classical.byContradiction fun z => by rw [List.getElem?_eq_none (by omega)] at hq; simp at hq
    have := b6 (40 * t + d) (by omega)
    rw [← Nat.add_assoc] at this
    rw [this]; exact a6 t q hq d hd
theorem RX.move {s b c N : Nat} {TG : List (Nat × List Sg)} {bits codec size words letter impact bits' codec' size' words' letter' impact' : Nat → Int32} (h : RX 4 b c N TG bits codec size words letter impact) (h64 : TG.length ≤ 64)
    (h1 : bits' s = bits 4) (h2 : codec' s = codec 4) (h3 : size' s = size 4) (h4 : words' s = words 4) (h5 : ∀ j, j < 512 → letter' (512 * s + j) = letter (2048 + j)) (h6 : ∀ j, j < 2560 → impact' (2560 * s + j) = impact (10240 + j)) : RX s b c N TG bits' codec' size' words' letter' impact' := by
  obtain ⟨a1, a2, a3, a4, a5, a6⟩ := h
  refine ⟨by rw [h1]; exact a1, by rw [h2]; exact a2, by rw [h3]; exact a3, by rw [h4]; exact a4, fun i hi k hk => ?_, fun t q hq d hd => ?_⟩
  · have := h5 (8 * i + k) (by rw [List.length_map] at hi; omega)
    rw [← Nat.add_assoc, ← Nat.add_assoc] at this
    rw [this]; exact a5 i hi k hk
  · have ht : t < TG.length := Classical.byContradiction fun z => by rw [List.getElem?_eq_none (by omega)] at hq; simp at hq
    have := h6 (40 * t + d) (by omega)
    rw [← Nat.add_assoc, ← Nat.add_assoc] at this
    rw [this]; exact a6 t q hq d hd
theorem r_copies {s : Nat} {bits codec size words letter impact : Nat → Int32} {Φ : (Nat → Int32) → (Nat → Int32) → (Nat → Int32) → (Nat → Int32) → (Nat → Int32) → (Nat → Int32) → Prop} (hs : s < 4)
    (h : ∀ letter' impact', (∀ j, j < 512 → letter' (512 * s + j) = letter (2048 + j)) → (∀ j, (j < 512 * s ∨ 512 * s + 512 ≤ j) → letter' j = letter j) → (∀ j, j < 2560 → impact' (2560 * s + j) = impact (10240 + j)) → (∀ j, (j < 2560 * s ∨ 2560 * s + 2560 ≤ j) → impact' j = impact j) →
      Φ (upd bits s (bits 4)) (upd codec s (codec 4)) (upd size s (size 4)) (upd words s (words 4)) letter' impact') : P_X9_copies bits codec size words letter impact (I 4) (I s) Φ := by
  have key2 : ∀ b c z w l', (∀ imp, (∀ j, j < 2560 → imp (2560 * s + j) = impact (10240 + j)) → (∀ j, (j < 2560 * s ∨ 2560 * s + 2560 ≤ j) → imp j = impact j) → Φ b c z w l' imp) → ∀ k i imp, 2560 ≤ i + k → i ≤ 2560 → (∀ j, j < i → imp (2560 * s + j) = impact (10240 + j)) → (∀ j, (j < 2560 * s ∨ 2560 * s + 2560 ≤ j) → imp j = impact j) → L_X9_copies_89 (k + 1) b c z w l' imp (I 4) (I s) (I i) (fun bits_23 codec_24 size_25 words_26 letter_27 impact_28 => Φ bits_23 codec_24 size_25 words_26 letter_27 impact_28) Φ := by
    intro b c z w l' hΦ k
    induction k with
    | zero =>
      intro i imp h1 h2 h3 h4
      unfold L_X9_copies_89
      rw [i_2560, I_le (by omega) (by omega)]
      exact ⟨fun _ => hΦ imp (fun j hj => h3 j (by omega)) h4, fun z => absurd (by omega) z⟩
    | succ k ih =>
      intro i imp h1 h2 h3 h4
      unfold L_X9_copies_89
      rw [i_2560, I_le (by omega) (by omega), I_mul, I_mul, I_add, I_add, I_in (by omega), I_in (by omega), I_cl (by omega), I_cl (by omega), i_1, I_add]
      refine ⟨fun _ => hΦ imp (fun j hj => h3 j (by omega)) h4, fun z => ⟨by omega, by omega, ih (i + 1) _ (by omega) (by omega) (fun j hj => ?_) (fun j hj => ?_)⟩⟩
      · unfold upd
        by_cases e : j = i
        · subst e
          rw [if_pos rfl, h4 _ (by omega)]
        · rw [if_neg (by omega)]; exact h3 j (by omega)
      · unfold upd
        rw [if_neg (by omega)]; exact h4 j hj
  have key1 : ∀ b c z w, (∀ l', (∀ j, j < 512 → l' (512 * s + j) = letter (2048 + j)) → (∀ j, (j < 512 * s ∨ 512 * s + 512 ≤ j) → l' j = letter j) → ∃ n, L_X9_copies_89 n b c z w l' impact (I 4) (I s) 0 (fun bits_23 codec_24 size_25 words_26 letter_27 impact_28 => Φ bits_23 codec_24 size_25 words_26 letter_27 impact_28) Φ) → ∀ k i l', 512 ≤ i + k → i ≤ 512 → (∀ j, j < i → l' (512 * s + j) = letter (2048 + j)) → (∀ j, (j < 512 * s ∨ 512 * s + 512 ≤ j) → l' j = letter j) → L_X9_copies_50 (k + 1) b c z w l' impact (I 4) (I s) (I i) (fun bits_9 codec_10 size_11 words_12 letter_13 impact_14 l1_15 l2_16 => ∃ n, L_X9_copies_89 n bits_9 codec_10 size_11 words_12 letter_13 impact_14 l1_15 l2_16 0 (fun bits_23 codec_24 size_25 words_26 letter_27 impact_28 => Φ bits_23 codec_24 size_25 words_26 letter_27 impact_28) Φ) Φ := by
    intro b c z w hK k
    induction k with
    | zero =>
      intro i l' h1 h2 h3 h4
      unfold L_X9_copies_50
      rw [i_512, I_le (by omega) (by omega)]
      exact ⟨fun _ => hK l' (fun j hj => h3 j (by omega)) h4, fun z => absurd (by omega) z⟩
    | succ k ih =>
      intro i l' h1 h2 h3 h4
      unfold L_X9_copies_50
      rw [i_512, I_le (by omega) (by omega), I_mul, I_mul, I_add, I_add, I_in (by omega), I_in (by omega), I_cl (by omega), I_cl (by omega), i_1, I_add]
      refine ⟨fun _ => hK l' (fun j hj => h3 j (by omega)) h4, fun z => ⟨by omega, by omega, ih (i + 1) _ (by omega) (by omega) (fun j hj => ?_) (fun j hj => ?_)⟩⟩
      · unfold upd
        by_cases e : j = i
        · subst e
          rw [if_pos rfl, h4 _ (by omega)]
        · rw [if_neg (by omega)]; exact h3 j (by omega)
      · unfold upd
        rw [if_neg (by omega)]; exact h4 j hj
  unfold P_X9_copies
  rw [I_in (by omega), I_in (by omega), I_cl (by omega), I_cl (by omega)]
  refine ⟨by omega, by omega, by omega, by omega, by omega, by omega, by omega, by omega, 512 + 1, ?_⟩
  exact key1 _ _ _ _ (fun l' a1 a2 => ⟨2560 + 1, key2 _ _ _ _ l' (fun imp b1 b2 => h l' imp a1 a2 b1 b2) 2560 0 impact (by omega) (by omega) (fun j hj => by omega) (fun j _ => rfl)⟩) 512 0 letter (by omega) (by omega) (fun j hj => by omega) (fun j _ => rfl)
/-- the generations of both sides -/
def GI (lat : Nat) (num : Nat → Nat) (kp : Nat → Bool) (gn : Nat → Nat) (hl : Nat → Option Nat) : Prop :=
  (∀ p, p < 3 → num p ≠ 0 → num p = lat ∨ isH hl (num p)) ∧ (∀ p, p < 3 → ∀ q, q < 3 → num p = num q → num p ≠ 0 → p = q) ∧ (∀ s, s < 4 → kp s = true → gn s ≠ 0 ∧ ∃ p, p < 3 ∧ num p = gn s) ∧ (∀ p, p < 3 → num p ≠ 0 → ∃ s, s < 4 ∧ kp s = true ∧ gn s = num p) ∧
  (∀ s, s < 4 → ∀ t, t < 4 → kp s = true → kp t = true → gn s = gn t → s = t) ∧ (lat ≠ 0 → ∃ p, p < 3 ∧ num p = lat) ∧ (∀ h, isH hl h → h ≠ 0 → ∃ p, p < 3 ∧ num p = h) ∧ (∀ p, p < 3 → num p ≤ lat) ∧ ∀ h, isH hl h → h ≤ lat
def Rel (lat : Nat) (hl : Nat → Option Nat) : Prop := lat ≠ 0 ∧ ¬ isH hl lat
theorem GI.count {lat : Nat} {num : Nat → Nat} {kp : Nat → Bool} {gn : Nat → Nat} {hl : Nat → Option Nat} (h : GI lat num kp gn hl) : ctN num 3 = ctK kp 4 := by
  obtain ⟨g1, g2, g3, g4, g5, -⟩ := h
  have n1 : (((List.range 3).filter (fun p => decide (num p ≠ 0))).map num).Nodup := by
    unfold List.Nodup
    rw [List.pairwise_map]
    refine List.Pairwise.imp_of_mem (R := (· ≠ ·)) (fun {a b} ha hb hne e => ?_) (List.Pairwise.filter _ List.nodup_range)
    rw [List.mem_filter, List.mem_range, decide_eq_true_eq] at ha hb
    exact hne (g2 a ha.1 b hb.1 e ha.2)
  have n2 : (((List.range 4).filter (fun s => kp s)).map gn).Nodup := by
    unfold List.Nodup
    rw [List.pairwise_map]
    refine List.Pairwise.imp_of_mem (R := (· ≠ ·)) (fun {a b} ha hb hne e => ?_) (List.Pairwise.filter _ List.nodup_range)
    rw [List.mem_filter, List.mem_range] at ha hb
    exact hne (g5 a ha.1 b hb.1 ha.2 hb.2 e)
  have e := len_of_same n1 n2 (fun w => by
    rw [List.mem_map, List.mem_map]
    constructor
    · rintro ⟨p, hp, rfl⟩
      rw [List.mem_filter, List.mem_range, decide_eq_true_eq] at hp
      obtain ⟨s, s1, s2, s3⟩ := g4 p hp.1 hp.2
      exact ⟨s, by rw [List.mem_filter, List.mem_range]; exact ⟨s1, s2⟩, s3⟩
    · rintro ⟨s, hs, rfl⟩
      rw [List.mem_filter, List.mem_range] at hs
      obtain ⟨z, p, p1, p2⟩ := g3 s hs.1 hs.2
      exact ⟨p, by rw [List.mem_filter, List.mem_range, decide_eq_true_eq]; exact ⟨p1, by rw [p2]; exact z⟩, p2⟩)
  rw [List.length_map, List.length_map] at e
  exact e
