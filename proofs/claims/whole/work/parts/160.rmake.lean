
/-! the reference makes an index -/
def rk (R : List Nat) (w : Nat) : Nat := (R.filter (fun v => decide (v < w))).length
theorem rk_perm {R T : List Nat} (h : R.Perm T) (w : Nat) : rk R w = rk T w := (h.filter _).length_eq
theorem rk_get {T : List Nat} (hs : srt T) {i : Nat} (hi : i < T.length) : rk T (T.getD i 0) = i := by
  have e : T.filter (fun v => decide (v < T.getD i 0)) = T.take i := by
    have h1 : (T.take i).filter (fun v => decide (v < T.getD i 0)) = T.take i := by
      rw [List.filter_eq_self]
      intro a ha
      obtain ⟨j, hj, e⟩ := List.mem_iff_getElem.mp ha
      rw [List.length_take] at hj
      have := hs.get (i := j) (j := i) (by omega) hi
      rw [List.getElem_take] at e
      have e2 : T.getD j 0 = a := by rw [List.getD_eq_getElem?_getD, List.getElem?_eq_getElem (by omega), ← e]; rfl
      rw [e2] at this
      exact decide_eq_true this
    have h2 : (T.drop i).filter (fun v => decide (v < T.getD i 0)) = [] := by
      rw [List.filter_eq_nil_iff]
      intro a ha
      obtain ⟨j, hj, e⟩ := List.mem_iff_getElem.mp ha
      rw [List.length_drop] at hj
      rw [List.getElem_drop] at e
      have e2 : T.getD (i + j) 0 = a := by rw [List.getD_eq_getElem?_getD, List.getElem?_eq_getElem (by omega), ← e]; rfl
      have : ¬ a < T.getD i 0 := by
        by_cases z : j = 0
        · subst z; rw [← e2]; exact Nat.lt_irrefl _
        · have := hs.get (i := i) (j := i + j) (by omega) (by omega)
          rw [e2] at this; omega
      simp only [decide_eq_true_eq]; exact this
    conv => lhs; rw [← List.take_append_drop i T]
    rw [List.filter_append]
    rw [List.take_append_drop i T] at *
    rw [h1, h2, List.append_nil]
  unfold rk
  rw [e, List.length_take]; omega
def LoR (D : List (List Nat)) (T : List Nat) (i : Nat) (v : UInt64) : Prop := (∃ c, c < i ∧ cellP D T c ∧ cellV D T c = v) ∧ ∀ c, c < i → cellP D T c → v.toNat ≤ (cellV D T c).toNat
def HiR (D : List (List Nat)) (T : List Nat) (i : Nat) (v : UInt64) : Prop := (∃ c, c < i ∧ cellP D T c ∧ cellV D T c = v) ∧ ∀ c, c < i → cellP D T c → (cellV D T c).toNat ≤ v.toNat
theorem LoR.to {D : List (List Nat)} {T : List Nat} {i : Nat} {v v' : UInt64} (h : LoR D T i v) (hp : cellP D T i) (h1 : v'.toNat ≤ v.toNat) (h2 : v'.toNat ≤ (cellV D T i).toNat) (h3 : v' = v ∨ v' = cellV D T i) : LoR D T (i + 1) v' := by
  obtain ⟨⟨c, a1, a2, a3⟩, b⟩ := h
  refine ⟨?_, fun c' hc hq => ?_⟩
  · rcases h3 with e | e
    · exact ⟨c, by omega, a2, by rw [e]; exact a3⟩
    · exact ⟨i, by omega, hp, e.symm⟩
  · by_cases z : c' = i
    · subst z; exact h2
    · have := b c' (by omega) hq; omega
theorem HiR.to {D : List (List Nat)} {T : List Nat} {i : Nat} {v v' : UInt64} (h : HiR D T i v) (hp : cellP D T i) (h1 : v.toNat ≤ v'.toNat) (h2 : (cellV D T i).toNat ≤ v'.toNat) (h3 : v' = v ∨ v' = cellV D T i) : HiR D T (i + 1) v' := by
  obtain ⟨⟨c, a1, a2, a3⟩, b⟩ := h
  refine ⟨?_, fun c' hc hq => ?_⟩
  · rcases h3 with e | e
    · exact ⟨c, by omega, a2, by rw [e]; exact a3⟩
    · exact ⟨i, by omega, hp, e.symm⟩
  · by_cases z : c' = i
    · subst z; exact h2
    · have := b c' (by omega) hq; omega
def AnyI (D : List (List Nat)) (R : List Nat) (i : Nat) (a : Int32) (lo hi : UInt64) : Prop := (a = I 0 ∧ ∀ c, c < i → ¬ cellP D R c) ∨ (a = I 1 ∧ LoR D R i lo ∧ HiR D R i hi)
theorem AnyI.skip {D : List (List Nat)} {R : List Nat} {i : Nat} {a : Int32} {lo hi : UInt64} (h : AnyI D R i a lo hi) (hn : ¬ cellP D R i) : AnyI D R (i + 1) a lo hi := by
  have st : ∀ c, c < i + 1 → cellP D R c → c < i := fun c hc hp => by
    by_cases e : c = i
    · subst e; exact absurd hp hn
    · omega
  rcases h with ⟨a, b⟩ | ⟨e, ⟨⟨c, a1, a2, a3⟩, b⟩, ⟨⟨c', b1, b2, b3⟩, b'⟩⟩
  · exact Or.inl ⟨a, fun c hc hp => b c (st c hc hp) hp⟩
  · exact Or.inr ⟨e, ⟨⟨c, by omega, a2, a3⟩, fun x hc hp => b x (st x hc hp) hp⟩, ⟨⟨c', by omega, b2, b3⟩, fun x hc hp => b' x (st x hc hp) hp⟩⟩
theorem l_mk48 {D : List (List Nat)} {R : List Nat} {tm word of len bits codec size words letter impact : Nat → Int32} {l1 l3 : Int32} {K : (Nat → Int32) → (Nat → Int32) → (Nat → Int32) → (Nat → Int32) → (Nat → Int32) → (Nat → Int32) → (Nat → Int32) → Int32 → Int32 → UInt64 → UInt64 → Prop} {Φ : (Nat → Int32) → (Nat → Int32) → (Nat → Int32) → (Nat → Int32) → (Nat → Int32) → (Nat → Int32) → (Nat → Int32) → Prop}
    (hD : docsOK D) (hne : ∀ doc ∈ D, doc ≠ []) (hR : RT D R tm of) (hL : LN D len) (h64 : R.length ≤ 64)
    (hK : ∀ a lo hi, AnyI D R (40 * R.length) a lo hi → K bits codec size words word letter impact l1 l3 lo hi) :
    ∀ k i a lo hi, 40 * R.length ≤ i + k → i ≤ 40 * R.length → AnyI D R i a lo hi → L_X9_makes_48 (k + 1) (I D.length) (I R.length) bits codec size words of len tm word letter impact l1 l3 lo hi a (I i) K Φ := by
  have h40 := hD.1
  intro k
  induction k with
  | zero =>
    intro i a lo hi h1 h2 h3
    unfold L_X9_makes_48
    simp (disch := omega) only [i_0, i_1, i_2, i_3, i_4, i_5, i_6, i_7, i_8, i_9, i_10, i_11, i_12, i_15, i_16, i_20, i_24, i_30, i_31, i_32, i_40, i_57, i_60, i_61, i_63, i_64, i_65, i_73, i_90, i_97, i_100, i_101, i_109, i_115, i_122, i_127, i_128, i_255, i_256, i_320, i_512, i_600, i_601, i_1100, i_1500, i_2560, i_3000, i_6650, i_12800, i_16000, i_65521, i_65536, I_of, I_le, I_lt, I_eq, I_add, I_sub, I_mul, I_cl, I_in, I_an, I_n1]
    exact ⟨fun _ => hK a lo hi (by rwa [show i = 40 * R.length from by omega] at h3), fun z => absurd (by omega) z⟩
  | succ k ih =>
    intro i a lo hi h1 h2 h3
    unfold L_X9_makes_48
    have em : I i - I i / 40 * 40 = I (i % 40) := by rw [i_40, I_mod (by omega) (by omega)]
    have ed : I i / 40 = I (i / 40) := by rw [i_40, I_div (by omega) (by omega)]
    rw [em, ed]
    rw [i_40, I_mul, I_le (by omega) (by omega), I_le (by omega) (by omega), I_in (by omega), I_cl (by omega), i_1, I_add]
    refine ⟨fun z => hK a lo hi (by rwa [show i = 40 * R.length from by omega] at h3), fun z => ⟨fun y => ih (i + 1) a lo hi (by omega) (by omega) (h3.skip (fun q => by have := q.2.1; omega)), fun y => ⟨by omega, ?_, ?_⟩⟩⟩
    · have hcn := cnt_le hD (R.getD (i / 40) 0) (i % 40)
      have eo : of i = I (cnt D (R.getD (i / 40) 0) (i % 40)) := by
        have := hR.2 (i / 40) (by omega) (i % 40) (by omega)
        rwa [show 40 * (i / 40) + i % 40 = i from by omega] at this
      rw [eo, i_0, I_eq (by omega) (by omega)]
      intro x
      have hp : cellP D R i := ⟨by omega, by omega, x⟩
      refine r_scoreOf hD hne hR hL (by omega) (by omega) x ?_
      have ov := cell_ok hD hne hp
      show _ ∧ _
      have fold : sf D (R.getD (i / 40) 0) (i % 40) = cellV D R i := rfl
      rw [fold]
      rcases id h3 with ⟨e, b⟩ | ⟨e, b1, b2⟩
      · subst e
        refine ⟨fun _ => ?_, fun w => absurd rfl w⟩
        unfold J_X9_makes_114 J_X9_makes_121
        refine ⟨fun _ => ?_, fun w => absurd rfl w⟩
        rw [i_1, I_add]
        refine ih (i + 1) _ _ _ (by omega) (by omega) (Or.inr ⟨rfl, ⟨⟨i, by omega, hp, rfl⟩, fun c hc hq => ?_⟩, ⟨⟨i, by omega, hp, rfl⟩, fun c hc hq => ?_⟩⟩)
        · by_cases z : c = i
          · subst z; exact Nat.le_refl _
          · exact absurd hq (b c (by omega))
        · by_cases z : c = i
          · subst z; exact Nat.le_refl _
          · exact absurd hq (b c (by omega))
      · subst e
        have n10 : ¬ (I 1 = I 0) := by rw [I_eq (by omega) (by omega)]; omega
        obtain ⟨c1, c11, c12, c13⟩ := b1.1
        obtain ⟨c2, c21, c22, c23⟩ := b2.1
        have ol : scOK lo := c13 ▸ cell_ok hD hne c12
        have oh : scOK hi := c23 ▸ cell_ok hD hne c22
        have tail : ∀ s0, LoR D R (i + 1) s0 → J_X9_makes_121 (I D.length) (I R.length) bits codec size words of len tm word letter impact l1 l3 hi (I 1) (I i) (cellV D R i) s0 (fun bits_50 codec_51 size_52 words_53 word_54 letter_55 impact_56 l1_57 l3_58 l4_59 l6_60 l8_61 l9_62 => L_X9_makes_48 (k + 1) (I D.length) (I R.length) bits_50 codec_51 size_52 words_53 of len tm word_54 letter_55 impact_56 l1_57 l3_58 l4_59 l6_60 l8_61 l9_62 K Φ) K Φ := by
          intro s0 hs0
          unfold J_X9_makes_121
          refine ⟨fun w => absurd w n10, fun _ => ?_⟩
          rw [cl_le ov oh, i_1, I_add]
          refine ⟨fun w => ih (i + 1) _ _ _ (by omega) (by omega) (Or.inr ⟨rfl, hs0, b2.to hp (Nat.le_refl _) w (Or.inl rfl)⟩), fun w => ih (i + 1) _ _ _ (by omega) (by omega) (Or.inr ⟨rfl, hs0, b2.to hp (by omega) (Nat.le_refl _) (Or.inr rfl)⟩)⟩
        refine ⟨fun w => absurd w n10, fun _ => ?_⟩
        rw [← i_0, cg_ge ov ol]
        exact ⟨fun w => tail lo (b1.to hp (Nat.le_refl _) w (Or.inl rfl)), fun w => tail _ (b1.to hp (by omega) (Nat.le_refl _) (Or.inr rfl))⟩
    · have hcn := cnt_le hD (R.getD (i / 40) 0) (i % 40)
      have eo : of i = I (cnt D (R.getD (i / 40) 0) (i % 40)) := by
        have := hR.2 (i / 40) (by omega) (i % 40) (by omega)
        rwa [show 40 * (i / 40) + i % 40 = i from by omega] at this
      rw [eo, i_0, I_eq (by omega) (by omega)]
      intro x
      exact ih (i + 1) a lo hi (by omega) (by omega) (h3.skip (fun q => q.2.2 x))
theorem flt1 (x y : Nat) : ([y].filter (fun v => decide (v < x))).length = if y < x then 1 else 0 := by
  by_cases q : y < x <;> simp [q]
theorem r_rank {R : List Nat} {term word : Nat → Int32} {r : Nat} {Φ : Int32 → (Nat → Int32) → Prop} (hT : TW term 0 R) (h64 : R.length ≤ 64) (hR : ∀ w ∈ R, w < 18446744073709551616) (hr : r < R.length) (h : ∀ word', Φ (I (rk R (R.getD r 0))) word') : P_X9_rank (I R.length) term word (I r) Φ := by
  have hw := hR _ (getD_mem hr)
  have key2 : ∀ word', WR word' (R.getD r 0) → ∀ k i, R.length ≤ i + k → i ≤ R.length → L_X9_rank_35 (k + 1) (I R.length) term word' (I (rk (R.take i) (R.getD r 0))) (I i) (fun word_8 l2_9 => Φ l2_9 word_8) Φ := by
    intro word' hW k
    have hrk : ∀ i, rk (R.take i) (R.getD r 0) ≤ 64 := fun i => by
      have a := List.length_filter_le (fun v => decide (v < R.getD r 0)) (R.take i)
      rw [List.length_take] at a
      unfold rk; omega
    have fin : ∀ i, R.length ≤ i → Φ (I (rk (R.take i) (R.getD r 0))) word' := fun i hi => by rw [List.take_of_length_le hi]; exact h word'
    induction k with
    | zero =>
      intro i h1 h2
      unfold L_X9_rank_35
      rw [I_le (by omega) (by omega)]
      exact ⟨fun z => fin i z, fun z => absurd (by omega) z⟩
    | succ k ih =>
      intro i h1 h2
      unfold L_X9_rank_35
      rw [I_le (by omega) (by omega), i_8, I_mul]
      refine ⟨fun z => fin i z, fun z => ?_⟩
      have hv := hR _ (getD_mem (ds := R) (i := i) (by omega))
      have e : rk (R.take (i + 1)) (R.getD r 0) = rk (R.take i) (R.getD r 0) + (if R.getD i 0 < R.getD r 0 then 1 else 0) := by
        unfold rk
        rw [take_succ_getD (by omega), List.filter_append, List.length_append]
        rw [flt1]
      have hrki := hrk i
      have skip : ¬ R.getD i 0 < R.getD r 0 → L_X9_rank_35 (k + 1) (I R.length) term word' (I (rk (R.take i) (R.getD r 0)) + 0) (I i + 1) (fun word_8 l2_9 => Φ l2_9 word_8) Φ := fun q => by
        rw [i_0, i_1, I_add, I_add]
        have := ih (i + 1) (by omega) (by omega)
        rw [e, if_neg q] at this; exact this
      refine r_compared (o := 8 * i) hW (fun k hk => by have := hT i (by omega) k hk; rwa [Nat.zero_add] at this) (by omega) (by omega) hw hv (fun q => ?_) (fun x q1 q2 q3 => ?_) (fun x q1 q2 q3 => ?_)
      · exact ⟨fun _ => skip (by omega), fun w => absurd (Int32.le_refl _) w⟩
      · refine ⟨fun _ => skip (by omega), fun w => absurd ?_ w⟩
        exact Int32.le_of_lt q2
      · rw [i_0, I_le (by omega) (by omega)]
        refine ⟨fun w => by omega, fun _ => ?_⟩
        rw [i_1, I_add, I_add]
        have := ih (i + 1) (by omega) (by omega)
        rw [e, if_pos q1] at this; exact this
  have key1 : ∀ k i word', 8 ≤ i + k → i ≤ 8 → (∀ k, k < i → word' k = I (lw (R.getD r 0) k)) → L_X9_rank_4 (k + 1) (I R.length) term word' (I r) (I 0) (I i) (fun word_3 l2_4 => ∃ n, L_X9_rank_35 n (I R.length) term word_3 l2_4 (I 0) (fun word_8 l2_9 => Φ l2_9 word_8) Φ) Φ := by
    intro k
    induction k with
    | zero =>
      intro i word' h1 h2 h3
      unfold L_X9_rank_4
      rw [i_8, I_le (by omega) (by omega)]
      exact ⟨fun _ => ⟨R.length + 1, key2 word' (fun k hk => h3 k (by omega)) R.length 0 (by omega) (by omega)⟩, fun z => absurd (by omega) z⟩
    | succ k ih =>
      intro i word' h1 h2 h3
      unfold L_X9_rank_4
      rw [i_8, I_le (by omega) (by omega), I_mul, I_add, I_in (by omega), I_in (by omega), I_cl (by omega), I_cl (by omega), i_1, I_add]
      refine ⟨fun _ => ⟨R.length + 1, key2 word' (fun k hk => h3 k (by omega)) R.length 0 (by omega) (by omega)⟩, fun z => ⟨by omega, by omega, ih (i + 1) _ (by omega) (by omega) (fun k hk => ?_)⟩⟩
      unfold upd
      by_cases e : k = i
      · subst e
        rw [if_pos rfl]
        have := hT r hr k (by omega)
        rwa [Nat.zero_add] at this
      · rw [if_neg e]; exact h3 k (by omega)
  exact ⟨8 + 1, key1 8 0 word (by omega) (by omega) (fun k hk => by omega)⟩
