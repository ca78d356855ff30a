
/-! the class's plan -/
theorem s_fill {n : Nat} {a : Nat → Int32} {Φ : (Nat → Int32) → Prop} (hn : n < 2147483648) (h : ∀ a', (∀ c, c < n → a' c = I 0) → Φ a') : P_J7_fill_53178 n a 0 Φ := by
  have key : ∀ k i a, n ≤ i + k → i ≤ n → (∀ c, c < i → a c = I 0) → L_J7_fill_53178_5 (k + 1) n a 0 (I i) (I n) (fun a0_2 => Φ a0_2) Φ := by
    intro k
    induction k with
    | zero =>
      intro i a h1 h2 h3
      unfold L_J7_fill_53178_5
      rw [I_le (by omega) (by omega)]
      exact ⟨fun _ => h a (fun c hc => h3 c (by omega)), fun z => absurd (by omega) z⟩
    | succ k ih =>
      intro i a h1 h2 h3
      unfold L_J7_fill_53178_5
      rw [I_le (by omega) (by omega), I_in (by omega), I_cl (by omega), i_1, I_add]
      refine ⟨fun _ => h a (fun c hc => h3 c (by omega)), fun z => ⟨by omega, ih (i + 1) _ (by omega) (by omega) (fun c hc => ?_)⟩⟩
      unfold upd
      by_cases e : c = i
      · rw [if_pos e]; rfl
      · rw [if_neg e]; exact h3 c (by omega)
  exact ⟨n + 1, key n 0 a (by omega) (by omega) (fun c hc => by omega)⟩
theorem s_makePlan {TG : List (Nat × List Sg)} {b N : Nat} {A : List Nat} {tm : Nat → Int64} {picked fs im fp doc pa pb pc' pd io : Nat → Int32} {te sg po : Int32} {Φ : Int32 → Int32 → Int32 → (Nat → Int32) → (Nat → Int32) → (Nat → Int32) → (Nat → Int32) → (Nat → Int32) → Prop}
    (hA : CA TG tm fs im fp doc) (hV : VT b N TG) (hAk : ∀ t ∈ A, t < TG.length) (hA8 : A.length ≤ 8) (hpk : Row picked A)
    (hK : ∀ P pa pb pc' pd io, P.Pairwise pord → (∀ x, x ∈ P ↔ x ∈ allE TG A A.length) → P.length = (allE TG A A.length).length → R4 pa pb pc' pd P → (∀ c, c < 320 → io c = I (ioF TG A A.length c)) → Φ (I A.length) (I P.length) (I ((allE TG A A.length).map pZ).sum) io pa pb pc' pd) :
    P_X6_makePlan (I A.length) te sg po io picked fs im fp pa pb pc' pd doc Φ := by
  unfold P_X6_makePlan
  refine s_fill (by omega) (fun io' hz => ⟨A.length + 1, ?_⟩)
  have key := l_mp28 (pkT := I A.length) (K := fun terms_35 segments_36 postings_37 impactOf_38 planImpact_39 planSize_40 planTerm_41 planSegment_42 => Φ terms_35 segments_36 postings_37 impactOf_38 planImpact_39 planSize_40 planTerm_41 planSegment_42) (Φ := Φ) hA hV hAk hA8 hpk hK A.length 0 [] pa pb pc' pd io' (by omega) (Nat.zero_le _) List.Pairwise.nil (fun x => Iff.rfl) rfl ⟨fun j hj => by simp at hj, fun j hj => by simp at hj, fun j hj => by simp at hj, fun j hj => by simp at hj⟩ (fun c hc => by
    rw [hz c hc]
    unfold ioF
    rw [if_neg (by omega)])
  exact key
