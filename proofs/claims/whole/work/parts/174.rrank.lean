
/-! the reference ranks -/
def ah (s : Nat → Nat) (e d : Nat) : Bool := decide (s d < s e ∨ (s e = s d ∧ e < d))
theorem fltP (p : Nat → Bool) (i : Nat) : ([i].filter p).length = if p i = true then 1 else 0 := by
  by_cases q : p i = true <;> simp [q]
def rkS (s : Nat → Nat) (d : Nat) : Nat := ((List.range 40).filter (fun e => ah s e d)).length
theorem ah_iff {s : Nat → Nat} {e d : Nat} : ah s e d = true ↔ ahead s e d := by unfold ah ahead; exact decide_eq_true_iff
theorem HO.mem {s : Nat → Nat} {i : Nat} {hs : List Nat} (h : HO s i hs) {d : Nat} (hd : d < i) (hz : s d ≠ 0) : ∃ j, j < hs.length ∧ hs.getD j 0 = d := by
  obtain ⟨j, hj, e⟩ := List.mem_iff_getElem.mp ((h.2 d).mpr ⟨hd, hz⟩)
  exact ⟨j, hj, by rw [List.getD_eq_getElem?_getD, List.getElem?_eq_getElem hj, Option.getD_some]; exact e⟩
theorem mem_takeD {l : List Nat} {n d : Nat} : d ∈ l.take n ↔ ∃ j, j < n ∧ j < l.length ∧ l.getD j 0 = d := by
  constructor
  · intro h
    obtain ⟨j, hj, e⟩ := List.mem_iff_getElem.mp h
    rw [List.length_take] at hj
    rw [List.getElem_take] at e
    exact ⟨j, by omega, by omega, by rw [List.getD_eq_getElem?_getD, List.getElem?_eq_getElem (by omega), Option.getD_some]; exact e⟩
  · rintro ⟨j, a, b, e⟩
    rw [List.mem_iff_getElem]
    refine ⟨j, by rw [List.length_take]; omega, ?_⟩
    rw [List.getElem_take]
    rw [List.getD_eq_getElem?_getD, List.getElem?_eq_getElem b, Option.getD_some] at e
    exact e
theorem HO.rk {s : Nat → Nat} {hs : List Nat} (h : HO s 40 hs) {j : Nat} (hj : j < hs.length) : rkS s (hs.getD j 0) = j := by
  have hmj := (h.2 _).mp (getD_mem hj)
  have e := len_of_same (l := (List.range 40).filter (fun e => ah s e (hs.getD j 0))) (m := hs.take j) (List.Pairwise.filter _ List.nodup_range) (List.Nodup.sublist (List.take_sublist _ _) h.nodup) (fun w => by
    rw [List.mem_filter, List.mem_range, ah_iff, mem_takeD]
    constructor
    · rintro ⟨a, b⟩
      have hw : s w ≠ 0 := by rcases b with q | q <;> omega
      obtain ⟨t, t1, t2⟩ := h.mem a hw
      refine ⟨t, Classical.byContradiction fun z => ?_, t1, t2⟩
      by_cases e : t = j
      · subst e; rw [t2] at b; rcases b with q | q <;> omega
      · have c := h.get (a := j) (b := t) (by omega) t1
        rw [t2] at c
        rcases b with q | q <;> rcases c with r | r <;> omega
    · rintro ⟨t, t1, t2, t3⟩
      have := h.get t1 hj
      rw [t3] at this
      exact ⟨((h.2 w).mp (t3 ▸ getD_mem t2)).1, this⟩)
  unfold rkS
  rw [e, List.length_take]; omega
theorem l_rk18 {s : Nat → Nat} {d m : Nat} {sums hit : Nat → Int32} {hits : Int32} {K : Int32 → (Nat → Int32) → Int32 → Int32 → Int32 → Prop} {Φ : Int32 → (Nat → Int32) → Prop} (hS : ∀ d, d < 40 → sums d = I (s d) ∧ s d < 2147483648) (hd : d < 40) (hK : K hits hit (I m) (I d) (I (rkS s d))) :
    ∀ k i, 40 ≤ i + k → i ≤ 40 → L_X9_ranks_18 (k + 1) hits sums hit (I m) (I d) (I ((List.range i).filter (fun e => ah s e d)).length) (I i) K Φ := by
  intro k
  induction k with
  | zero =>
    intro i h1 h2
    have e : i = 40 := by omega
    subst e
    unfold L_X9_ranks_18
    rw [i_40, I_le (by omega) (by omega)]
    exact ⟨fun _ => hK, fun z => absurd (Nat.le_refl _) z⟩
  | succ k ih =>
    intro i h1 h2
    unfold L_X9_ranks_18
    by_cases e40 : i = 40
    · subst e40
      rw [i_40, I_le (by omega) (by omega)]
      exact ⟨fun _ => hK, fun z => absurd (Nat.le_refl _) z⟩
    · have hl := List.length_filter_le (fun e => ah s e d) (List.range i)
      rw [List.length_range] at hl
      obtain ⟨e1, e2⟩ := hS i (by omega)
      obtain ⟨e3, e4⟩ := hS d hd
      have key := ih (i + 1) (by omega) (by omega)
      rw [List.range_succ, List.filter_append, List.length_append, fltP] at key
      have up : ah s i d = true → L_X9_ranks_18 (k + 1) hits sums hit (I m) (I d) (I ((List.range i).filter (fun e => ah s e d)).length + 1) (I i + 1) K Φ := fun q => by
        rw [if_pos q] at key
        rw [i_1, I_add, I_add]; exact key
      have st : ¬ ah s i d = true → L_X9_ranks_18 (k + 1) hits sums hit (I m) (I d) (I ((List.range i).filter (fun e => ah s e d)).length + 0) (I i + 1) K Φ := fun q => by
        rw [if_neg q] at key
        rw [i_0, i_1, I_add, I_add]; exact key
      rw [i_40, I_le (by omega) (by omega), I_in (by omega), I_in (by omega), I_cl (by omega), I_cl (by omega), e1, e3, I_lt e4 e2, I_eq e2 e4, I_le (by omega) (by omega)]
      refine ⟨fun z => absurd z (by omega), fun _ => ⟨by omega, hd, fun y => up (ah_iff.mpr (Or.inl y)), fun y => ⟨by omega, hd, fun x => st (fun q => ?_), fun x => ⟨fun w => st (fun q => ?_), fun w => up (ah_iff.mpr (Or.inr ⟨x, by omega⟩))⟩⟩⟩⟩
      · rcases ah_iff.mp q with r | r <;> omega
      · rcases ah_iff.mp q with r | r <;> omega
def cR (s : Nat → Nat) (m i : Nat) : Nat := ((List.range i).filter (fun e => decide (s e ≠ 0 ∧ rkS s e < m))).length
theorem cR_succ (s : Nat → Nat) (m i : Nat) : cR s m (i + 1) = cR s m i + (if s i ≠ 0 ∧ rkS s i < m then 1 else 0) := by
  unfold cR
  rw [List.range_succ, List.filter_append, List.length_append, fltP]
  congr 1
  by_cases z : s i ≠ 0 ∧ rkS s i < m
  · rw [if_pos z, if_pos (decide_eq_true z)]
  · rw [if_neg z, if_neg (by rw [decide_eq_true_eq]; exact z)]
theorem cR_all {s : Nat → Nat} {m : Nat} {hs : List Nat} (h : HO s 40 hs) : cR s m 40 = min hs.length m := by
  have e := len_of_same (l := (List.range 40).filter (fun e => decide (s e ≠ 0 ∧ rkS s e < m))) (m := hs.take m) (List.Pairwise.filter _ List.nodup_range) (List.Nodup.sublist (List.take_sublist _ _) h.nodup) (fun w => by
    rw [List.mem_filter, List.mem_range, decide_eq_true_eq, mem_takeD]
    constructor
    · rintro ⟨a, b, c⟩
      obtain ⟨j, j1, j2⟩ := h.mem a b
      have := h.rk j1
      rw [j2] at this
      exact ⟨j, by omega, j1, j2⟩
    · rintro ⟨j, j1, j2, j3⟩
      have hm := (h.2 w).mp (j3 ▸ getD_mem j2)
      have := h.rk j2
      rw [j3] at this
      exact ⟨hm.1, hm.2, by omega⟩)
  unfold cR
  rw [e, List.length_take]; omega
theorem l_rk7 {s : Nat → Nat} {m : Nat} {hs : List Nat} {sums : Nat → Int32} {K : Int32 → (Nat → Int32) → Prop} {Φ : Int32 → (Nat → Int32) → Prop} (hm : m ≤ 40) (hS : ∀ d, d < 40 → sums d = I (s d) ∧ s d < 2147483648) (h : HO s 40 hs)
    (hK : ∀ hit, Row hit (hs.take m) → K (I (min hs.length m)) hit) :
    ∀ k i hit, 40 ≤ i + k → i ≤ 40 → (∀ e, e < i → s e ≠ 0 → rkS s e < m → hit (rkS s e) = I e) → L_X9_ranks_7 (k + 1) (I (cR s m i)) sums hit (I m) (I i) K Φ := by
  have fin : ∀ i hit, 40 ≤ i → i ≤ 40 → (∀ e, e < i → s e ≠ 0 → rkS s e < m → hit (rkS s e) = I e) → K (I (cR s m i)) hit := by
    intro i hit a b c
    have e : i = 40 := by omega
    subst e
    rw [cR_all h]
    refine hK hit (fun j hj => ?_)
    rw [List.length_take] at hj
    have hmm := (h.2 _).mp (getD_mem (ds := hs) (i := j) (by omega))
    have r := h.rk (j := j) (by omega)
    have := c _ hmm.1 hmm.2 (by omega)
    rw [r] at this
    rw [this, List.getD_eq_getElem?_getD, List.getD_eq_getElem?_getD, List.getElem?_take_of_lt (by omega)]
  intro k
  induction k with
  | zero =>
    intro i hit h1 h2 h3
    unfold L_X9_ranks_7
    rw [i_40, I_le (by omega) (by omega)]
    exact ⟨fun z => fin i hit z h2 h3, fun z => absurd (by omega) z⟩
  | succ k ih =>
    intro i hit h1 h2 h3
    have hc := List.length_filter_le (fun e => decide (s e ≠ 0 ∧ rkS s e < m)) (List.range i)
    rw [List.length_range] at hc
    have hc2 : cR s m i ≤ i := hc
    unfold L_X9_ranks_7
    rw [i_40, I_le (by omega) (by omega)]
    refine ⟨fun z => fin i hit z h2 h3, fun z => ⟨40 + 1, ?_⟩⟩
    obtain ⟨e1, e2⟩ := hS i (by omega)
    have hrk : rkS s i ≤ 40 := by
      have := List.length_filter_le (fun e => ah s e i) (List.range 40)
      rwa [List.length_range] at this
    have key := ih (i + 1)
    rw [cR_succ] at key
    refine l_rk18 hS (by omega) ?_ 40 0 (by omega) (by omega)
    show _ ∧ _
    rw [I_in (by omega), I_cl (by omega), e1, i_0, I_eq e2 (by omega), I_lt (by omega) (by omega), i_1, I_add, I_add]
    refine ⟨by omega, fun y => ?_, fun y => ⟨fun x => ?_, fun x => ?_⟩⟩
    · rw [if_neg (fun q => q.1 y)] at key
      refine key hit (by omega) (by omega) (fun e he hz hr => ?_)
      by_cases w : e = i
      · subst w; exact absurd y hz
      · exact h3 e (by omega) hz hr
    · rw [if_pos ⟨y, x⟩] at key
      rw [I_in (by omega), I_cl (by omega)]
      refine ⟨by omega, key _ (by omega) (by omega) (fun e he hz hr => ?_)⟩
      unfold upd
      by_cases w : e = i
      · subst w; rw [if_pos rfl]
      · have hne : rkS s e ≠ rkS s i := fun q => by
          obtain ⟨a, a1, a2⟩ := h.mem (d := e) (by omega) hz
          obtain ⟨b, b1, b2⟩ := h.mem (d := i) (by omega) y
          have r1 := h.rk a1
          have r2 := h.rk b1
          rw [a2] at r1
          rw [b2] at r2
          have : a = b := by omega
          subst this
          exact w (by rw [← a2, b2])
        rw [if_neg hne]; exact h3 e (by omega) hz hr
    · rw [if_neg (fun q => x q.2)] at key
      refine key hit (by omega) (by omega) (fun e he hz hr => ?_)
      by_cases w : e = i
      · subst w; exact absurd hr x
      · exact h3 e (by omega) hz hr
theorem r_ranks {s : Nat → Nat} {m : Nat} {hs : List Nat} {sums hit : Nat → Int32} {hits : Int32} {Φ : Int32 → (Nat → Int32) → Prop} (hm : m ≤ 40) (hS : ∀ d, d < 40 → sums d = I (s d) ∧ s d < 2147483648) (h : HO s 40 hs)
    (hΦ : ∀ hit, Row hit (hs.take m) → Φ (I (min hs.length m)) hit) : P_X9_ranks hits sums hit (I m) Φ :=
  ⟨40 + 1, l_rk7 (K := fun hits_13 hit_14 => Φ hits_13 hit_14) hm hS h hΦ 40 0 hit (by omega) (by omega) (fun e he => by omega)⟩
