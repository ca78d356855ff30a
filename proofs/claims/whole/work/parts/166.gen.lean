
/-! generations -/
def hv : Option Nat → Int32
  | none => -1
  | some h => I h
def HH (hl : Nat → Option Nat) (held : Nat → Int32) : Prop := ∀ r, r < 4 → held r = hv (hl r) ∧ ∀ h, hl r = some h → h < 100000
theorem I_neg1 {a : Nat} (h : a < 2147483648) : ¬ (-1 : Int32) = I a := fun e => by
  have := congrArg Int32.toInt e
  rw [I_toInt h] at this
  have e2 : (-1 : Int32).toInt = -1 := by decide
  rw [e2] at this
  omega
theorem hv_eq {o : Option Nat} {g : Nat} (hg : g < 2147483648) (ho : ∀ h, o = some h → h < 100000) : (hv o = I g) = (o = some g) := by
  apply propext
  cases o with
  | none => exact ⟨fun e => absurd e (I_neg1 hg), fun e => by simp at e⟩
  | some h =>
    have := ho h rfl
    show I h = I g ↔ _
    rw [I_eq (by omega) hg]
    exact ⟨fun e => by rw [e], fun e => Option.some.inj e⟩
theorem s_isHeld {hl : Nat → Option Nat} {held : Nat → Int32} {g : Nat} {Φ : Int32 → Prop} (hH : HH hl held) (hg : g < 2147483648) (h1 : (∃ r, r < 4 ∧ hl r = some g) → Φ (I 1)) (h0 : (∀ r, r < 4 → hl r ≠ some g) → Φ (I 0)) : P_X3_isHeld held (I g) Φ := by
  have key : ∀ k i, 4 ≤ i + k → i ≤ 4 → (∀ r, r < i → hl r ≠ some g) → L_X3_isHeld_2 (k + 1) held (I g) (I i) (Φ 0) Φ := by
    intro k
    induction k with
    | zero =>
      intro i a b c
      unfold L_X3_isHeld_2
      rw [i_4, I_le (by omega) (by omega)]
      exact ⟨fun _ => h0 (fun r hr => c r (by omega)), fun z => absurd (by omega) z⟩
    | succ k ih =>
      intro i a b c
      unfold L_X3_isHeld_2
      rw [i_4, I_le (by omega) (by omega), I_in (by omega), I_cl (by omega), i_1, I_add]
      refine ⟨fun _ => h0 (fun r hr => c r (by omega)), fun z => ⟨by omega, ?_⟩⟩
      obtain ⟨e1, e2⟩ := hH i (by omega)
      rw [e1, hv_eq hg e2]
      refine ⟨fun y => ih (i + 1) (by omega) (by omega) (fun r hr => ?_), fun y => h1 ⟨i, by omega, y⟩⟩
      by_cases e : r = i
      · subst e; exact y
      · exact c r (by omega)
  exact ⟨4 + 1, key 4 0 (by omega) (by omega) (fun r hr => by omega)⟩
theorem r_isHeld {hl : Nat → Option Nat} {held : Nat → Int32} {g : Nat} {Φ : Int32 → Prop} (hH : HH hl held) (hg : g < 2147483648) (h1 : (∃ r, r < 4 ∧ hl r = some g) → Φ (I 1)) (h0 : (∀ r, r < 4 → hl r ≠ some g) → Φ (I 0)) : P_X9_isHeld held (I g) Φ := by
  have n10 : ¬ (I 1 = I 0) := by rw [I_eq (by omega) (by omega)]; omega
  have key1 : ∀ k i, 4 ≤ i + k → i ≤ 4 → (∃ r, r < 4 ∧ hl r = some g) → L_X9_isHeld_4 (k + 1) held (I g) (I 1) (I i) (fun l2_2 => zok l2_2 ∧ Φ l2_2) Φ := by
    intro k
    induction k with
    | zero =>
      intro i a b c
      unfold L_X9_isHeld_4
      rw [i_4, I_le (by omega) (by omega)]
      exact ⟨fun _ => ⟨zok1, h1 c⟩, fun z => absurd (by omega) z⟩
    | succ k ih =>
      intro i a b c
      unfold L_X9_isHeld_4
      rw [i_4, I_le (by omega) (by omega), i_1, I_add]
      exact ⟨fun _ => ⟨zok1, h1 c⟩, fun z => ⟨fun _ => ih (i + 1) (by omega) (by omega) c, fun y => absurd y n10⟩⟩
  have key : ∀ k i, 4 ≤ i + k → i ≤ 4 → (∀ r, r < i → hl r ≠ some g) → L_X9_isHeld_4 (k + 1) held (I g) (I 0) (I i) (fun l2_2 => zok l2_2 ∧ Φ l2_2) Φ := by
    intro k
    induction k with
    | zero =>
      intro i a b c
      unfold L_X9_isHeld_4
      rw [i_4, I_le (by omega) (by omega)]
      exact ⟨fun _ => ⟨zok0, h0 (fun r hr => c r (by omega))⟩, fun z => absurd (by omega) z⟩
    | succ k ih =>
      intro i a b c
      unfold L_X9_isHeld_4
      rw [i_4, I_le (by omega) (by omega), i_1, i_0, I_add, I_in (by omega), I_cl (by omega)]
      refine ⟨fun _ => ⟨zok0, h0 (fun r hr => c r (by omega))⟩, fun z => ⟨fun y => absurd rfl y, fun _ => ⟨by omega, ?_⟩⟩⟩
      obtain ⟨e1, e2⟩ := hH i (by omega)
      rw [e1, hv_eq hg e2]
      refine ⟨fun y => ih (i + 1) (by omega) (by omega) (fun r hr => ?_), fun y => key1 k (i + 1) (by omega) (by omega) ⟨i, by omega, y⟩⟩
      by_cases e : r = i
      · subst e; exact y
      · exact c r (by omega)
  exact ⟨4 + 1, key 4 0 (by omega) (by omega) (fun r hr => by omega)⟩
def NN (num : Nat → Nat) (number : Nat → Int32) : Prop := ∀ p, p < 3 → number p = I (num p) ∧ num p < 100000
/-- is a generation held -/
def isH (hl : Nat → Option Nat) (g : Nat) : Prop := ∃ r, r < 4 ∧ hl r = some g
theorem s_place3 {num : Nat → Nat} {hl : Nat → Option Nat} {number held : Nat → Int32} {Φ : Int32 → Prop} (hN : NN num number) (hH : HH hl held)
    (ha : ∀ p, p < 3 → num p ≠ 0 → ¬ isH hl (num p) → Φ (I p)) (hb : (∀ p, p < 3 → num p ≠ 0 → isH hl (num p)) → ∀ p, p < 3 → num p = 0 → Φ (I p)) (hc : (∀ p, p < 3 → num p ≠ 0 ∧ isH hl (num p)) → Φ (-1)) : P_X3_placeForNext number held Φ := by
  have n10 : ¬ (I 1 = I 0) := by rw [I_eq (by omega) (by omega)]; omega
  have key2 : (∀ p, p < 3 → num p ≠ 0 → isH hl (num p)) → ∀ k i, 3 ≤ i + k → i ≤ 3 → (∀ p, p < i → num p ≠ 0) → L_X3_placeForNext_39 (k + 1) number held (I i) (Φ (-1)) Φ := by
    intro hall k
    induction k with
    | zero =>
      intro i a b c
      unfold L_X3_placeForNext_39
      rw [i_3, I_le (by omega) (by omega)]
      exact ⟨fun _ => hc (fun p hp => ⟨c p (by omega), hall p hp (c p (by omega))⟩), fun z => absurd (by omega) z⟩
    | succ k ih =>
      intro i a b c
      unfold L_X3_placeForNext_39
      rw [i_3, I_le (by omega) (by omega), I_in (by omega), I_cl (by omega), i_1, I_add, i_0]
      refine ⟨fun _ => hc (fun p hp => ⟨c p (by omega), hall p hp (c p (by omega))⟩), fun z => ⟨by omega, ?_⟩⟩
      obtain ⟨e1, e2⟩ := hN i (by omega)
      rw [e1, I_eq (by omega) (by omega)]
      refine ⟨fun y => ih (i + 1) (by omega) (by omega) (fun p hp => ?_), fun y => hb hall i (by omega) y⟩
      by_cases e : p = i
      · subst e; exact y
      · exact c p (by omega)
  have key : ∀ k i, 3 ≤ i + k → i ≤ 3 → (∀ p, p < i → num p ≠ 0 → isH hl (num p)) → L_X3_placeForNext_2 (k + 1) number held (I i) (∃ n, L_X3_placeForNext_39 n number held 0 (Φ (-1)) Φ) Φ := by
    intro k
    induction k with
    | zero =>
      intro i a b c
      unfold L_X3_placeForNext_2
      rw [i_3, I_le (by omega) (by omega)]
      exact ⟨fun _ => ⟨3 + 1, key2 (fun p hp => c p (by omega)) 3 0 (by omega) (by omega) (fun p hp => by omega)⟩, fun z => absurd (by omega) z⟩
    | succ k ih =>
      intro i a b c
      unfold L_X3_placeForNext_2
      rw [i_3, I_le (by omega) (by omega), I_in (by omega), I_cl (by omega), i_1, I_add]
      refine ⟨fun _ => ⟨3 + 1, key2 (fun p hp => c p (by omega)) 3 0 (by omega) (by omega) (fun p hp => by omega)⟩, fun z => ⟨by omega, ?_⟩⟩
      obtain ⟨e1, e2⟩ := hN i (by omega)
      rw [e1, i_0, I_eq (by omega) (by omega)]
      refine ⟨fun y => ih (i + 1) (by omega) (by omega) (fun p hp hz => ?_), fun y => ⟨by omega, s_isHeld hH (by omega) (fun hh => ⟨fun _ => ih (i + 1) (by omega) (by omega) (fun p hp hz => ?_), fun x => absurd x n10⟩) (fun hh => ⟨fun x => absurd rfl x, fun _ => ha i (by omega) y (fun ⟨r, r1, r2⟩ => hh r r1 r2)⟩)⟩⟩
      · by_cases e : p = i
        · subst e; exact absurd y hz
        · exact c p (by omega) hz
      · by_cases e : p = i
        · subst e; exact hh
        · exact c p (by omega) hz
  exact ⟨3 + 1, key 3 0 (by omega) (by omega) (fun p hp => by omega)⟩
/-- the reference's slots -/
def KK (kp : Nat → Bool) (gn : Nat → Nat) (kept generation : Nat → Int32) : Prop := ∀ s, s < 4 → kept s = (if kp s then I 1 else I 0) ∧ (kp s = true → generation s = I (gn s) ∧ gn s < 100000)
theorem kk_eq {b : Bool} : ((if b then I 1 else I 0 : Int32) = 0) = (b = false) := by
  apply propext
  cases b
  · exact ⟨fun _ => rfl, fun _ => rfl⟩
  · exact ⟨fun z => absurd z (by decide), fun z => absurd z (by decide)⟩
theorem r_slotOf {kp : Nat → Bool} {gn : Nat → Nat} {kept generation : Nat → Int32} {g : Nat} {Φ : Int32 → Prop} (hK : KK kp gn kept generation) (hg : g < 2147483648)
    (h1 : ∀ s, s < 4 → kp s = true → gn s = g → Φ (I s)) (h0 : (∀ s, s < 4 → kp s = true → gn s ≠ g) → Φ (-1)) : P_X9_slotOf kept generation (I g) Φ := by
  have key : ∀ k i, 4 ≤ i + k → i ≤ 4 → (∀ s, s < i → kp s = true → gn s ≠ g) → L_X9_slotOf_2 (k + 1) kept generation (I g) (I i) (Φ (-1)) Φ := by
    intro k
    induction k with
    | zero =>
      intro i a b c
      unfold L_X9_slotOf_2
      rw [i_4, I_le (by omega) (by omega)]
      exact ⟨fun _ => h0 (fun s hs => c s (by omega)), fun z => absurd (by omega) z⟩
    | succ k ih =>
      intro i a b c
      unfold L_X9_slotOf_2
      rw [i_4, I_le (by omega) (by omega), I_in (by omega), I_cl (by omega), i_1, I_add]
      refine ⟨fun _ => h0 (fun s hs => c s (by omega)), fun z => ⟨by omega, ?_⟩⟩
      obtain ⟨e1, e2⟩ := hK i (by omega)
      rw [e1, kk_eq]
      refine ⟨fun y => ih (i + 1) (by omega) (by omega) (fun s hs hk => ?_), fun y => ⟨by omega, ?_⟩⟩
      · by_cases e : s = i
        · subst e; rw [y] at hk; exact absurd hk (by decide)
        · exact c s (by omega) hk
      · have y2 : kp i = true := by cases h : kp i <;> simp_all
        obtain ⟨e3, e4⟩ := e2 y2
        rw [e3, I_eq (by omega) hg]
        refine ⟨fun x => ih (i + 1) (by omega) (by omega) (fun s hs hk => ?_), fun x => h1 i (by omega) y2 x⟩
        by_cases e : s = i
        · subst e; exact x
        · exact c s (by omega) hk
  exact ⟨4 + 1, key 4 0 (by omega) (by omega) (fun s hs => by omega)⟩
def ctK (kp : Nat → Bool) (n : Nat) : Nat := ((List.range n).filter (fun s => kp s)).length
def ctN (num : Nat → Nat) (n : Nat) : Nat := ((List.range n).filter (fun p => decide (num p ≠ 0))).length
theorem ctK_succ (kp : Nat → Bool) (n : Nat) : ctK kp (n + 1) = ctK kp n + (if kp n = true then 1 else 0) := by
  unfold ctK
  rw [List.range_succ, List.filter_append, List.length_append]
  congr 1
  by_cases z : kp n = true <;> simp [z]
theorem ctN_succ (num : Nat → Nat) (n : Nat) : ctN num (n + 1) = ctN num n + (if num n ≠ 0 then 1 else 0) := by
  unfold ctN
  rw [List.range_succ, List.filter_append, List.length_append]
  congr 1
  by_cases z : num n = 0 <;> simp [z]
theorem ctK_le (kp : Nat → Bool) (n : Nat) : ctK kp n ≤ n := by
  have := List.length_filter_le (fun s => kp s) (List.range n)
  rwa [List.length_range] at this
theorem ctN_le (num : Nat → Nat) (n : Nat) : ctN num n ≤ n := by
  have := List.length_filter_le (fun p => decide (num p ≠ 0)) (List.range n)
  rwa [List.length_range] at this
theorem r_keptMany {kp : Nat → Bool} {gn : Nat → Nat} {kept generation : Nat → Int32} {Φ : Int32 → Prop} (hK : KK kp gn kept generation) (h : Φ (I (ctK kp 4))) : P_X9_keptMany kept Φ := by
  have key : ∀ k i, 4 ≤ i + k → i ≤ 4 → L_X9_keptMany_4 (k + 1) kept (I (ctK kp i)) (I i) (fun l1_2 => Φ l1_2) Φ := by
    intro k
    induction k with
    | zero =>
      intro i a b
      unfold L_X9_keptMany_4
      rw [i_4, I_le (by omega) (by omega)]
      exact ⟨fun _ => by rw [show i = 4 from by omega]; exact h, fun z => absurd (by omega) z⟩
    | succ k ih =>
      intro i a b
      have hl := ctK_le kp i
      unfold L_X9_keptMany_4
      rw [i_4, I_le (by omega) (by omega), I_in (by omega), I_cl (by omega), i_1, I_add, I_add]
      refine ⟨fun _ => by rw [show i = 4 from by omega]; exact h, fun z => ⟨by omega, ?_⟩⟩
      have key := ih (i + 1) (by omega) (by omega)
      rw [ctK_succ] at key
      obtain ⟨e1, -⟩ := hK i (by omega)
      rw [e1, kk_eq]
      refine ⟨fun y => ?_, fun y => ?_⟩
      · rw [if_neg (by rw [y]; decide)] at key
        rw [i_0, I_add]; exact key
      · have y2 : kp i = true := by cases h : kp i <;> simp_all
        rw [if_pos y2] at key
        exact key
  exact ⟨4 + 1, key 4 0 (by omega) (by omega)⟩
theorem s_howMany {num : Nat → Nat} {number : Nat → Int32} {Φ : Int32 → Prop} (hN : NN num number) (h : Φ (I (ctN num 3))) : P_X3_howManyKept number Φ := by
  have key : ∀ k i, 3 ≤ i + k → i ≤ 3 → L_X3_howManyKept_4 (k + 1) number (I (ctN num i)) (I i) (fun l1_2 => Φ l1_2) Φ := by
    intro k
    induction k with
    | zero =>
      intro i a b
      unfold L_X3_howManyKept_4
      rw [i_3, I_le (by omega) (by omega)]
      exact ⟨fun _ => by rw [show i = 3 from by omega]; exact h, fun z => absurd (by omega) z⟩
    | succ k ih =>
      intro i a b
      have hl := ctN_le num i
      unfold L_X3_howManyKept_4
      rw [i_3, I_le (by omega) (by omega), I_in (by omega), I_cl (by omega), i_1, I_add, I_add]
      refine ⟨fun _ => by rw [show i = 3 from by omega]; exact h, fun z => ⟨by omega, ?_⟩⟩
      have key := ih (i + 1) (by omega) (by omega)
      rw [ctN_succ] at key
      obtain ⟨e1, e2⟩ := hN i (by omega)
      rw [e1, i_0, I_eq (by omega) (by omega)]
      refine ⟨fun y => ?_, fun y => ?_⟩
      · rw [if_neg (fun q => q y)] at key
        exact key
      · rw [if_pos y] at key
        exact key
  exact ⟨3 + 1, key 3 0 (by omega) (by omega)⟩
