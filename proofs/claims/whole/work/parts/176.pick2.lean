
/-! which terms are asked for: the count, and the class's pick -/
theorem l_zeroC {K : Int32 → (Nat → Int32) → (Nat → Int32) → Int32 → Int32 → Int32 → Prop} {Φ : Int32 → Int32 → (Nat → Int32) → (Nat → Int32) → Prop} {a l1 l2 l3 : Int32} {tape word words letter : Nat → Int32} (hK : ∀ asked, (∀ t, t < 64 → asked t = I 0) → K a asked word l1 l2 l3) :
    ∀ k i asked, 64 ≤ i + k → i ≤ 64 → (∀ t, t < i → asked t = I 0) → L_X9_countAsked_10 (k + 1) a asked tape word words letter l1 l2 l3 (I i) K Φ := by
  intro k
  induction k with
  | zero =>
    intro i asked h1 h2 h3
    unfold L_X9_countAsked_10
    rw [i_64, I_le (by omega) (by omega)]
    exact ⟨fun _ => hK asked (fun t ht => h3 t (by omega)), fun z => absurd (by omega) z⟩
  | succ k ih =>
    intro i asked h1 h2 h3
    unfold L_X9_countAsked_10
    rw [i_64, I_le (by omega) (by omega), I_in (by omega), I_cl (by omega), i_1, I_add]
    refine ⟨fun _ => hK asked (fun t ht => h3 t (by omega)), fun z => ⟨by omega, ih (i + 1) _ (by omega) (by omega) (fun t ht => ?_)⟩⟩
    unfold upd
    by_cases e : t = i
    · rw [if_pos e]; rfl
    · rw [if_neg e]; exact h3 t (by omega)
theorem l_cntA {bs T : List Nat} {tape words letter : Nat → Int32} {l1 : Int32} {K : Int32 → (Nat → Int32) → (Nat → Int32) → Int32 → Prop} {Φ : Int32 → Int32 → (Nat → Int32) → (Nat → Int32) → Prop} (hb : Row tape bs) (hy : byt bs) (hn : bs.length ≤ 3000) (hT : T.Nodup) (h64 : T.length ≤ 64) (hTo : ∀ w ∈ T, w < 18446744073709551616) (hS : SlW l1 T words letter)
    (hK : ∀ a asked word, AskR T (stems bs) asked → K a asked word (I (AsK T (stems bs)).length)) :
    ∀ k i S asked word, (toks [] (bs.drop i)).length ≤ k → i ≤ bs.length → (∀ w, w ∈ stems bs ↔ w ∈ S ∨ w ∈ (toks [] (bs.drop i)).map stem) → AskR T S asked → L_X9_countAsked_31 (k + 1) (I i) asked tape word words letter l1 (I bs.length) (I (AsK T S).length) K Φ := by
  have n10 : ¬ (I 1 = I 0) := by rw [I_eq (by omega) (by omega)]; omega
  have go : ∀ k i S asked word, (toks [] (bs.drop i)).length ≤ k → i ≤ bs.length → (∀ w, w ∈ stems bs ↔ w ∈ S ∨ w ∈ (toks [] (bs.drop i)).map stem) → AskR T S asked → (∀ i' r R w', k ≠ 0 → toks [] (bs.drop i) = r :: R → i' ≤ bs.length → toks [] (bs.drop i') = R → ∀ S' asked', (∀ w, w ∈ stems bs ↔ w ∈ S' ∨ w ∈ R.map stem) → AskR T S' asked' → L_X9_countAsked_31 k (I i') asked' tape w' words letter l1 (I bs.length) (I (AsK T S').length) K Φ) → L_X9_countAsked_31 (k + 1) (I i) asked tape word words letter l1 (I bs.length) (I (AsK T S).length) K Φ := by
    intro k i S asked word h1 h2 h3 h4 next
    unfold L_X9_countAsked_31
    refine r_takesWord hb hy hn h2 (fun e0 => ⟨fun _ => ?_, fun z => absurd rfl z⟩) (fun r R i' w' e1 hi' e2 hW => ⟨fun z => absurd z n10, fun _ => ?_⟩)
    · have hm : ∀ w, w ∈ S ↔ w ∈ stems bs := fun w => by rw [h3 w, e0]; simp
      rw [AsK_congr hm]
      refine hK _ asked _ (fun t ht => ?_)
      rw [h4 t ht]
      by_cases q : t < T.length ∧ T.getD t 0 ∈ S
      · rw [if_pos q, if_pos ⟨q.1, (hm _).mp q.2⟩]
      · rw [if_neg q, if_neg (fun x => q ⟨x.1, (hm _).mpr x.2⟩)]
    · have hk0 : k ≠ 0 := fun q => by rw [e1, q] at h1; simp at h1
      have hst : stem r ∈ stems bs := by rw [h3, e1]; exact Or.inr (List.mem_cons_self ..)
      have hws : stem r < 18446744073709551616 := by have := (stems_ok bs _ hst).lt; omega
      have nxt : ∀ asked', AskR T (stem r :: S) asked' → L_X9_countAsked_31 k (I i') asked' tape w' words letter l1 (I bs.length) (I (AsK T (stem r :: S)).length) K Φ := fun asked' ha => next i' r R w' hk0 e1 hi' e2 (stem r :: S) asked' (fun w => by
        rw [h3 w, e1, List.map_cons, List.mem_cons, List.mem_cons]
        constructor
        · rintro (a | a | a)
          · exact Or.inl (Or.inr a)
          · exact Or.inl (Or.inl a)
          · exact Or.inr a
        · rintro ((a | a) | a)
          · exact Or.inr (Or.inl a)
          · exact Or.inl a
          · exact Or.inr (Or.inr a)) ha
      -- not found
      have miss : stem r ∉ T → L_X9_countAsked_31 k (I i') asked tape w' words letter l1 (I bs.length) (I (AsK T S).length) K Φ := fun hno => by
        have key := nxt asked (fun t ht => by
          rw [h4 t ht]
          by_cases q : t < T.length ∧ T.getD t 0 ∈ S
          · rw [if_pos q, if_pos ⟨q.1, List.mem_cons_of_mem _ q.2⟩]
          · rw [if_neg q, if_neg (fun x => by
              rcases List.mem_cons.mp x.2 with y | y
              · exact hno (y ▸ getD_mem x.1)
              · exact q ⟨x.1, y⟩)])
        rwa [AsK_old (Or.inr hno)] at key
      rcases hS with ⟨s1, s2⟩ | ⟨s, s1, s2, s3, s4⟩
      · subst s1
        refine ⟨fun z => absurd z (by decide), fun _ => ?_⟩
        unfold J_X9_countAsked_66
        exact ⟨fun _ => miss (by rw [s2]; simp), fun z => absurd (by decide) z⟩
      · subst s2
        rw [i_0, I_le (by omega) (by omega), i_512, I_mul, I_in (by omega), I_cl (by omega), s3]
        refine ⟨fun _ => ⟨s1, ?_⟩, fun z => absurd (Nat.zero_le _) z⟩
        refine r_finds (o := 512 * s) hW s4 (by omega) (by omega) hws hTo (fun hno => ?_) (fun t ht e => ?_)
        · unfold J_X9_countAsked_66
          exact ⟨fun _ => miss hno, fun z => absurd (by decide) z⟩
        · unfold J_X9_countAsked_66
          rw [i_0, I_lt (by omega) (by omega), I_in (by omega), I_cl (by omega), h4 t (by omega)]
          refine ⟨fun z => absurd z (Nat.not_lt_zero _), fun _ => ⟨by omega, ?_⟩⟩
          by_cases q : T.getD t 0 ∈ S
          · rw [if_pos ⟨ht, q⟩]
            refine ⟨fun z => absurd rfl z, fun _ => ?_⟩
            have key := nxt asked (fun t' ht' => by
              rw [h4 t' ht']
              by_cases x : t' < T.length ∧ T.getD t' 0 ∈ S
              · rw [if_pos x, if_pos ⟨x.1, List.mem_cons_of_mem _ x.2⟩]
              · rw [if_neg x, if_neg (fun y => by
                  rcases List.mem_cons.mp y.2 with z | z
                  · exact x ⟨y.1, by rw [z, ← e]; exact q⟩
                  · exact x ⟨y.1, z⟩)])
            rwa [AsK_old (Or.inl (by rw [← e]; exact q))] at key
          · rw [if_neg (fun x => q x.2)]
            refine ⟨fun _ => ⟨by omega, ?_⟩, fun z => absurd z (by decide)⟩
            have key := nxt (upd asked t 1) (fun t' ht' => by
              unfold upd
              by_cases x : t' = t
              · subst x
                rw [if_pos rfl, if_pos ⟨ht, by rw [e]; exact List.mem_cons_self ..⟩]; rfl
              · rw [if_neg x, h4 t' ht']
                by_cases y : t' < T.length ∧ T.getD t' 0 ∈ S
                · rw [if_pos y, if_pos ⟨y.1, List.mem_cons_of_mem _ y.2⟩]
                · rw [if_neg y, if_neg (fun z => by
                    rcases List.mem_cons.mp z.2 with u | u
                    · exact x (getD_inj hT z.1 ht (by rw [u, e]))
                    · exact y ⟨z.1, u⟩)])
            have el := AsK_new hT ht q
            rw [e] at el
            rw [el] at key
            have hle := AsK_le T S
            rw [i_1, I_add]
            exact key
  intro k
  induction k with
  | zero => exact fun i S asked word h1 h2 h3 h4 => go 0 i S asked word h1 h2 h3 h4 (fun _ _ _ _ q => absurd rfl q)
  | succ k ih =>
    refine fun i S asked word h1 h2 h3 h4 => go (k + 1) i S asked word h1 h2 h3 h4 (fun i' r R w' _ e1 hi' e2 S' asked' a b => ih i' S' asked' w' ?_ hi' (by rw [e2]; exact a) b)
    rw [e1, List.length_cons] at h1
    rw [e2]; omega
theorem r_countAsked {bs T : List Nat} {tape words letter asked word : Nat → Int32} {l1 a : Int32} {Φ : Int32 → Int32 → (Nat → Int32) → (Nat → Int32) → Prop} (hb : Row tape bs) (hy : byt bs) (hn : bs.length ≤ 3000) (hT : T.Nodup) (h64 : T.length ≤ 64) (hTo : ∀ w ∈ T, w < 18446744073709551616) (hS : SlW l1 T words letter)
    (h : ∀ a asked word, AskR T (stems bs) asked → Φ (I (AsK T (stems bs)).length) a asked word) : P_X9_countAsked a asked tape word words letter l1 (I bs.length) Φ := by
  refine ⟨64 + 1, l_zeroC (fun asked' hz => ⟨(toks [] (bs.drop 0)).length + 1, ?_⟩) 64 0 asked (by omega) (by omega) (fun t ht => by omega)⟩
  have e : AsK T [] = [] := by
    rw [List.eq_nil_iff_forall_not_mem]
    exact fun t ht => by have := (mem_AsK.mp ht).2; simp at this
  have key := l_cntA (K := fun at_53 asked_54 word_55 l3_56 => Φ l3_56 at_53 asked_54 word_55) (Φ := Φ) hb hy hn hT h64 hTo hS h _ 0 [] asked' word (Nat.le_refl _) (Nat.zero_le _) (fun w => by
    rw [List.drop_zero]
    exact ⟨Or.inr, fun q => by rcases q with q | q; simp at q; exact q⟩) (fun t ht => by
    rw [if_neg (fun q => by have := q.2; simp at this)]; exact hz t ht)
  rw [e] at key
  exact key

theorem s_has {ds : List Nat} {f : Nat → Int64} {w : Nat} {Φ : Int32 → Prop} (hf : LRow f ds) (hb : ∀ v ∈ ds, v < 9223372036854775808) (hw : w < 9223372036854775808) (hn : ds.length ≤ 1500) (h0 : w ∉ ds → Φ (I 0)) (h1 : w ∈ ds → Φ (I 1)) : P_X7_has (I ds.length) f (J w) Φ := by
  unfold P_X7_has
  refine s_find hf hb hw hn (fun q => ⟨fun _ => h0 q, fun z => absurd (Int32.le_refl _) z⟩) (fun i hi e => ?_)
  rw [I_le (by omega) (by omega)]
  exact ⟨fun z => absurd z (by omega), fun _ => h1 (e ▸ getD_mem hi)⟩
theorem AsK_take {T S : List Nat} (i : Nat) : ∀ A, A = (List.range i).filter (fun t => decide (T.getD t 0 ∈ S)) → (List.range (i + 1)).filter (fun t => decide (T.getD t 0 ∈ S)) = A ++ (if T.getD i 0 ∈ S then [i] else []) := by
  intro A hA
  rw [List.range_succ, List.filter_append, ← hA]
  congr 1
  by_cases q : T.getD i 0 ∈ S
  · rw [if_pos q]; simp only [List.filter_cons, List.filter_nil, decide_eq_true q, if_true]
  · rw [if_neg q]; simp only [List.filter_cons, List.filter_nil, decide_eq_false q, Bool.false_eq_true, if_false]
theorem l_pick {T ds : List Nat} {term wt : Nat → Int64} {pk0 : Int32} {K : Int32 → (Nat → Int32) → Int32 → Prop} {Φ : Int32 → Int32 → (Nat → Int32) → Prop} (hT : LRow term T) (h64 : T.length ≤ 64) (hTb : ∀ v ∈ T, v < 9223372036854775808) (hf : LRow wt ds) (hb : ∀ v ∈ ds, v < 9223372036854775808) (hn : ds.length ≤ 1500)
    (hK : ∀ picked, Row picked ((AsK T ds).take 8) → K pk0 picked (I (AsK T ds).length)) :
    ∀ k i A picked, T.length ≤ i + k → i ≤ T.length → A = (List.range i).filter (fun t => decide (T.getD t 0 ∈ ds)) → Row picked (A.take 8) → L_X6_pick_5 (k + 1) (I T.length) term (I ds.length) wt pk0 picked (I A.length) (I i) K Φ := by
  have n10 : ¬ (I 1 = I 0) := by rw [I_eq (by omega) (by omega)]; omega
  have fin : ∀ i A picked, T.length ≤ i → i ≤ T.length → A = (List.range i).filter (fun t => decide (T.getD t 0 ∈ ds)) → Row picked (A.take 8) → K pk0 picked (I A.length) := fun i A picked a b c d => by
    have e : i = T.length := by omega
    subst e
    subst c
    exact hK picked d
  intro k
  induction k with
  | zero =>
    intro i A picked h1 h2 h3 h4
    unfold L_X6_pick_5
    rw [I_le (by omega) (by omega)]
    exact ⟨fun z => fin i A picked z h2 h3 h4, fun z => absurd (by omega) z⟩
  | succ k ih =>
    intro i A picked h1 h2 h3 h4
    have hAl : A.length ≤ i := by
      have := List.length_filter_le (fun t => decide (T.getD t 0 ∈ ds)) (List.range i)
      rw [List.length_range, ← h3] at this; exact this
    unfold L_X6_pick_5
    rw [I_le (by omega) (by omega)]
    refine ⟨fun z => fin i A picked z h2 h3 h4, fun z => ?_⟩
    rw [I_in (by omega), I_cl (by omega), hT i (by omega), i_1, I_add, I_add]
    have hst := AsK_take (T := T) (S := ds) i A h3
    refine ⟨by omega, s_has hf hb (hTb _ (getD_mem (by omega))) hn (fun q => ⟨fun _ => ?_, fun y => absurd rfl y⟩) (fun q => ⟨fun y => absurd y n10, fun _ => ?_⟩)⟩
    · rw [if_neg q, List.append_nil] at hst
      exact ih (i + 1) A picked (by omega) (by omega) hst.symm h4
    · rw [if_pos q] at hst
      have hl : (A ++ [i]).length = A.length + 1 := by rw [List.length_append]; rfl
      have key := fun picked' hp => ih (i + 1) (A ++ [i]) picked' (by omega) (by omega) hst.symm hp
      rw [hl] at key
      rw [i_8, I_le (by omega) (by omega)]
      refine ⟨fun y => key picked ?_, fun y => ?_⟩
      · rw [List.take_append_of_le_length y]; exact h4
      · rw [I_in (by omega), I_cl (by omega)]
        refine ⟨by omega, key _ ?_⟩
        rw [List.take_of_length_le (by omega)] at h4
        rw [List.take_of_length_le (by omega)]
        exact h4.put i
theorem s_pick {T ds : List Nat} {term wt : Nat → Int64} {pk0 : Int32} {picked : Nat → Int32} {Φ : Int32 → Int32 → (Nat → Int32) → Prop} (hT : LRow term T) (h64 : T.length ≤ 64) (hTb : ∀ v ∈ T, v < 9223372036854775808) (hf : LRow wt ds) (hb : ∀ v ∈ ds, v < 9223372036854775808) (hn : ds.length ≤ 1500)
    (h : ∀ picked, Row picked ((AsK T ds).take 8) → Φ (I (AsK T ds).length) (I (min (AsK T ds).length 8)) picked) : P_X6_pick (I T.length) term (I ds.length) wt pk0 picked Φ := by
  refine ⟨T.length + 1, ?_⟩
  have hle := AsK_le T ds
  have key := l_pick (pk0 := pk0) (K := fun pickedTerms_5 picked_6 l3_7 => Φ l3_7 (imin l3_7 8) picked_6) (Φ := Φ) hT h64 hTb hf hb hn (fun picked hp => by
    show Φ _ (imin _ _) _
    rw [i_8, imin_I (by omega) (by omega)]; exact h picked hp) T.length 0 [] picked (by omega) (by omega) rfl (fun j hj => by simp at hj)
  exact key
