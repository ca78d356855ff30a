
/-! ranks -/
def ahead (s : Nat → Nat) (a b : Nat) : Prop := s b < s a ∨ (s a = s b ∧ a < b)
/-- the documents before i that have a sum, in their order -/
def HO (s : Nat → Nat) (i : Nat) (hs : List Nat) : Prop := hs.Pairwise (ahead s) ∧ ∀ d, d ∈ hs ↔ d < i ∧ s d ≠ 0
theorem HO.nodup {s : Nat → Nat} {i : Nat} {hs : List Nat} (h : HO s i hs) : hs.Nodup := by
  refine List.Pairwise.imp (fun {a b} q e => ?_) h.1
  subst e
  rcases q with q | q <;> omega
theorem HO.len {s : Nat → Nat} {i : Nat} {hs : List Nat} (h : HO s i hs) : hs.length ≤ i := by
  have := List.Nodup.length_le_of_subset (l₂ := List.range i) h.nodup (fun d hd => List.mem_range.mpr ((h.2 d).mp hd).1)
  rwa [List.length_range] at this
theorem HO.get {s : Nat → Nat} {i : Nat} {hs : List Nat} (h : HO s i hs) {a b : Nat} (hab : a < b) (hb : b < hs.length) : ahead s (hs.getD a 0) (hs.getD b 0) := by
  have := List.pairwise_iff_getElem.mp h.1 a b (by omega) hb hab
  rw [List.getD_eq_getElem?_getD, List.getD_eq_getElem?_getD, List.getElem?_eq_getElem hb, List.getElem?_eq_getElem (show a < hs.length by omega)]
  exact this
theorem HO.skip {s : Nat → Nat} {i : Nat} {hs : List Nat} (h : HO s i hs) (hz : s i = 0) : HO s (i + 1) hs :=
  ⟨h.1, fun d => by
    rw [h.2 d]
    constructor
    · exact fun q => ⟨by omega, q.2⟩
    · rintro ⟨a, b⟩
      by_cases e : d = i
      · subst e; exact absurd hz b
      · exact ⟨by omega, b⟩⟩
theorem HO.ins {s : Nat → Nat} {i p : Nat} {hs : List Nat} (h : HO s i hs) (hz : s i ≠ 0) (hp : p ≤ hs.length) (h1 : ∀ j, j < p → s i ≤ s (hs.getD j 0)) (h2 : ∀ j, p ≤ j → j < hs.length → s (hs.getD j 0) < s i) : HO s (i + 1) (hs.take p ++ i :: hs.drop p) := by
  have hm : ∀ d, d ∈ hs.take p → s i ≤ s d ∧ d < i := fun d hd => by
    obtain ⟨j, hj, e⟩ := List.mem_iff_getElem.mp hd
    rw [List.length_take] at hj
    rw [List.getElem_take] at e
    have := h1 j (by omega)
    rw [List.getD_eq_getElem?_getD, List.getElem?_eq_getElem (by omega), Option.getD_some, e] at this
    exact ⟨this, ((h.2 d).mp (List.mem_of_mem_take hd)).1⟩
  have hm2 : ∀ d, d ∈ hs.drop p → s d < s i := fun d hd => by
    obtain ⟨j, hj, e⟩ := List.mem_iff_getElem.mp hd
    rw [List.length_drop] at hj
    rw [List.getElem_drop] at e
    have := h2 (p + j) (by omega) (by omega)
    rwa [List.getD_eq_getElem?_getD, List.getElem?_eq_getElem (by omega), Option.getD_some, e] at this
  have hp1 : (hs.take p ++ hs.drop p).Pairwise (ahead s) := by rw [List.take_append_drop]; exact h.1
  rw [List.pairwise_append] at hp1
  obtain ⟨p1, p2, p3⟩ := hp1
  refine ⟨?_, fun d => ?_⟩
  · rw [List.pairwise_append, List.pairwise_cons]
    refine ⟨p1, ⟨fun d hd => Or.inl (hm2 d hd), p2⟩, fun a ha d hd => ?_⟩
    rcases List.mem_cons.mp hd with e | e
    · subst e
      obtain ⟨x, y⟩ := hm a ha
      by_cases z : s d = s a
      · exact Or.inr ⟨z.symm, y⟩
      · exact Or.inl (by omega)
    · exact p3 a ha d e
  · have e : d ∈ hs ↔ d ∈ hs.take p ∨ d ∈ hs.drop p := by rw [← List.mem_append, List.take_append_drop]
    rw [List.mem_append, List.mem_cons]
    constructor
    · rintro (q | q | q)
      · have := (h.2 d).mp (e.mpr (Or.inl q)); exact ⟨by omega, this.2⟩
      · subst q; exact ⟨by omega, hz⟩
      · have := (h.2 d).mp (e.mpr (Or.inr q)); exact ⟨by omega, this.2⟩
    · rintro ⟨a, b⟩
      by_cases z : d = i
      · exact Or.inr (Or.inl z)
      · rcases e.mp ((h.2 d).mpr ⟨by omega, b⟩) with q | q
        · exact Or.inl q
        · exact Or.inr (Or.inr q)
theorem l_rank22 {s : Nat → Nat} {i m : Nat} {hs : List Nat} {sums : Nat → Int32} {hits : Int32} {K : Int32 → (Nat → Int32) → Int32 → Int32 → Int32 → Int32 → Prop} {Φ : Int32 → (Nat → Int32) → Prop} (hS : ∀ d, d < 40 → sums d = I (s d) ∧ s d < 2147483648) (h : HO s i hs) (hi : i < 40)
    (hK : ∀ p hit, p ≤ hs.length → (∀ j, j < p → s i ≤ s (hs.getD j 0)) → (∀ j, p ≤ j → j < hs.length → s (hs.getD j 0) < s i) → (∀ j, j < p → hit j = I (hs.getD j 0)) → (∀ j, p ≤ j → j < hs.length → hit (j + 1) = I (hs.getD j 0)) → K hits hit (I m) (I hs.length) (I i) (I p)) :
    ∀ k q hit, q ≤ k → q ≤ hs.length → (∀ j, q ≤ j → j < hs.length → s (hs.getD j 0) < s i) → (∀ j, j < q → hit j = I (hs.getD j 0)) → (∀ j, q ≤ j → j < hs.length → hit (j + 1) = I (hs.getD j 0)) → L_X6_rank_22 (k + 1) hits sums hit (I m) (I hs.length) (I i) (I q) K Φ := by
  have hl := h.len
  intro k
  induction k with
  | zero =>
    intro q hit h1 h2 h3 h4 h5
    unfold L_X6_rank_22
    rw [i_0, I_le (by omega) (by omega)]
    exact ⟨fun _ => hK q hit h2 (fun j hj => by omega) h3 h4 h5, fun z => absurd (by omega) z⟩
  | succ k ih =>
    intro q hit h1 h2 h3 h4 h5
    unfold L_X6_rank_22
    rw [i_0, I_le (by omega) (by omega)]
    refine ⟨fun _ => hK q hit h2 (fun j hj => by omega) h3 h4 h5, fun z => ?_⟩
    have hg : hs.getD (q - 1) 0 ∈ hs := getD_mem (by omega)
    have hg2 := ((h.2 _).mp hg).1
    obtain ⟨e1, e2⟩ := hS (hs.getD (q - 1) 0) (by omega)
    obtain ⟨e3, e4⟩ := hS i hi
    rw [i_1, I_sub (by omega), I_in (by omega), I_in (by omega), I_in (by omega), I_cl (by omega), I_cl (by omega), I_cl (by omega), h4 (q - 1) (by omega), I_in (by omega), I_cl (by omega), e1, e3, I_le e4 e2]
    refine ⟨by omega, by omega, hi, fun y => hK q hit h2 (fun j hj => ?_) h3 h4 h5, fun y => ⟨by omega, by omega, ?_⟩⟩
    · by_cases e : j = q - 1
      · subst e; exact y
      · have := h.get (a := j) (b := q - 1) (by omega) (by omega)
        rcases this with w | w <;> omega
    · rw [show I q + -I 1 = I (q - 1) from by rw [← I_sub (by omega), Int32.sub_eq_add_neg]]
      refine ih (q - 1) _ (by omega) (by omega) (fun j hj hj2 => ?_) (fun j hj => ?_) (fun j hj hj2 => ?_)
      · by_cases e : j = q - 1
        · subst e; omega
        · exact h3 j (by omega) hj2
      · unfold upd
        rw [if_neg (by omega)]; exact h4 j (by omega)
      · unfold upd
        by_cases e : j = q - 1
        · subst e; rw [if_pos (by omega)]
        · rw [if_neg (by omega)]; exact h5 j (by omega) hj2
theorem l_rank4 {s : Nat → Nat} {m : Nat} {sums : Nat → Int32} {hits : Int32} {K : Int32 → (Nat → Int32) → Int32 → Int32 → Prop} {Φ : Int32 → (Nat → Int32) → Prop} (hS : ∀ d, d < 40 → sums d = I (s d) ∧ s d < 2147483648)
    (hK : ∀ hs hit, HO s 40 hs → Row hit hs → K hits hit (I m) (I hs.length)) :
    ∀ k i hs hit, 40 ≤ i + k → i ≤ 40 → HO s i hs → Row hit hs → L_X6_rank_4 (k + 1) hits sums hit (I m) (I hs.length) (I i) K Φ := by
  intro k
  induction k with
  | zero =>
    intro i hs hit h1 h2 h3 h4
    unfold L_X6_rank_4
    rw [i_40, I_le (by omega) (by omega)]
    exact ⟨fun _ => hK hs hit (by rwa [show i = 40 from by omega] at h3) h4, fun z => absurd (by omega) z⟩
  | succ k ih =>
    intro i hs hit h1 h2 h3 h4
    have hl := h3.len
    unfold L_X6_rank_4
    rw [i_40, I_le (by omega) (by omega)]
    refine ⟨fun z => hK hs hit (by rwa [show i = 40 from by omega] at h3) h4, fun z => ?_⟩
    obtain ⟨e3, e4⟩ := hS i (by omega)
    rw [I_in (by omega), I_cl (by omega), e3, i_0, I_le e4 (by omega), i_1, I_add]
    refine ⟨by omega, fun y => ih (i + 1) hs hit (by omega) (by omega) (h3.skip (by omega)) h4, fun y => ⟨hs.length + 1, ?_⟩⟩
    refine l_rank22 hS h3 (by omega) (fun p hit2 p1 p2 p3 p4 p5 => ?_) hs.length hs.length hit (Nat.le_refl _) (Nat.le_refl _) (fun j a b => by omega) (fun j hj => h4 j hj) (fun j a b => by omega)
    show _ ∧ _
    rw [I_in (by omega), I_cl (by omega), I_add, I_add]
    refine ⟨by omega, ?_⟩
    have hn := h3.ins (by omega) p1 p2 p3
    have hlen : (hs.take p ++ i :: hs.drop p).length = hs.length + 1 := by rw [List.length_append, List.length_cons, List.length_take, List.length_drop]; omega
    have key := ih (i + 1) _ (upd hit2 p (I i)) (by omega) (by omega) hn (fun j hj => by
      rw [hlen] at hj
      unfold upd
      rw [List.getD_eq_getElem?_getD]
      by_cases e : j = p
      · subst e
        rw [if_pos rfl, List.getElem?_append_right (by rw [List.length_take]; omega), List.length_take, show j - min j hs.length = 0 from by omega]; rfl
      · rw [if_neg e]
        by_cases lt : j < p
        · rw [List.getElem?_append_left (by rw [List.length_take]; omega), List.getElem?_take_of_lt lt, p4 j lt, List.getD_eq_getElem?_getD]
        · obtain ⟨j', rfl⟩ : ∃ j', j = j' + 1 := ⟨j - 1, by omega⟩
          rw [List.getElem?_append_right (by rw [List.length_take]; omega), List.length_take, show j' + 1 - min p hs.length = (j' - p) + 1 from by omega, List.getElem?_cons_succ, List.getElem?_drop, show p + (j' - p) = j' from by omega, p5 j' (by omega) (by omega), List.getD_eq_getElem?_getD])
    rw [hlen] at key
    exact key
theorem s_rankC {s : Nat → Nat} {m : Nat} {sums hit : Nat → Int32} {hits : Int32} {Φ : Int32 → (Nat → Int32) → Prop} (hm : m ≤ 40) (hS : ∀ d, d < 40 → sums d = I (s d) ∧ s d < 2147483648)
    (h : ∀ hs hit, HO s 40 hs → Row hit hs → Φ (I (min hs.length m)) hit) : P_X6_rank hits sums hit (I m) Φ := by
  refine ⟨40 + 1, ?_⟩
  have key := l_rank4 (hits := hits) (m := m) (K := fun hits_17 hitDocument_18 l1_19 l2_20 => Φ (imin l2_20 l1_19) hitDocument_18) (Φ := Φ) hS (fun hs hit' a b => by
    have := a.len
    show Φ (imin _ _) _
    rw [imin_I (by omega) (by omega)]; exact h hs hit' a b) 40 0 [] hit (by omega) (by omega) ⟨List.Pairwise.nil, fun d => by simp⟩ (fun j hj => by simp at hj)
  exact key
