
/-! generations: what becomes of them -/
theorem GI.pub {lat : Nat} {num : Nat → Nat} {kp kp1 : Nat → Bool} {gn : Nat → Nat} {hl : Nat → Option Nat} {p s : Nat} (hG : GI lat num kp gn hl) (hp : p < 3) (hc : (Rel lat hl ∧ num p = lat) ∨ (¬ Rel lat hl ∧ num p = 0))
    (k4 : Rel lat hl → ∀ t, t < 4 → (kp1 t = true ↔ kp t = true ∧ gn t ≠ lat)) (k5 : ¬ Rel lat hl → kp1 = kp) (hs : s < 4) (hz : kp1 s = false) :
    GI (lat + 1) (fun q => if q = p then lat + 1 else num q) (fun t => if t = s then true else kp1 t) (fun t => if t = s then lat + 1 else gn t) hl := by
  obtain ⟨g1, g2, g3, g4, g5, g6, g7, g8, g9⟩ := hG
  have hA : ∀ q, q < 3 → q ≠ p → num q ≠ 0 → isH hl (num q) := fun q hq hqp h0 => by
    rcases g1 q hq h0 with e | e
    · rcases hc with ⟨c1, c2⟩ | ⟨c1, c2⟩
      · exact absurd (g2 q hq p hp (by rw [e, c2]) h0) hqp
      · exact Classical.byContradiction fun z => c1 ⟨by rw [← e]; exact h0, by rw [← e]; exact z⟩
    · exact e
  have hB : ∀ t, t < 4 → (kp1 t = true ↔ kp t = true ∧ ∃ q, q < 3 ∧ q ≠ p ∧ num q = gn t) := fun t ht => by
    rcases hc with ⟨c1, c2⟩ | ⟨c1, c2⟩
    · rw [k4 c1 t ht]
      constructor
      · rintro ⟨a, b⟩
        obtain ⟨z, q, q1, q2⟩ := g3 t ht a
        exact ⟨a, q, q1, fun e => b (by subst e; rw [← q2, c2]), q2⟩
      · rintro ⟨a, q, q1, q2, q3⟩
        obtain ⟨z, -⟩ := g3 t ht a
        exact ⟨a, fun e => q2 (g2 q q1 p hp (by rw [q3, e, c2]) (by rw [q3]; exact z))⟩
    · rw [k5 c1]
      constructor
      · intro a
        obtain ⟨z, q, q1, q2⟩ := g3 t ht a
        exact ⟨a, q, q1, fun e => z (by subst e; rw [← q2, c2]), q2⟩
      · exact fun a => a.1
  have hC : ∀ h, isH hl h → h ≠ 0 → ∃ q, q < 3 ∧ q ≠ p ∧ num q = h := fun h hh h0 => by
    obtain ⟨q, q1, q2⟩ := g7 h hh h0
    refine ⟨q, q1, fun e => ?_, q2⟩
    subst e
    rcases hc with ⟨c1, c2⟩ | ⟨c1, c2⟩
    · exact c1.2 (by rw [← c2, q2]; exact hh)
    · exact h0 (by rw [← q2, c2])
  refine ⟨fun q hq h0 => ?_, fun q hq q' hq' e h0 => ?_, fun t ht hk => ?_, fun q hq h0 => ?_, fun t ht t' ht' a b e => ?_, fun _ => ⟨p, hp, if_pos rfl⟩, fun h hh h0 => ?_, fun q hq => ?_, fun h hh => Nat.le_succ_of_le (g9 h hh)⟩
  · by_cases e : q = p
    · left; simp only [if_pos e]
    · right; simp only [if_neg e] at h0 ⊢; exact hA q hq e h0
  · have a := g8 q hq
    have b := g8 q' hq'
    by_cases x : q = p <;> by_cases y : q' = p
    · rw [x, y]
    · simp only [if_pos x, if_neg y] at e; omega
    · simp only [if_neg x, if_pos y] at e; omega
    · simp only [if_neg x, if_neg y] at e h0; exact g2 q hq q' hq' e h0
  · by_cases e : t = s
    · simp only [if_pos e]
      exact ⟨by omega, p, hp, if_pos rfl⟩
    · simp only [if_neg e] at hk ⊢
      obtain ⟨a, q, q1, q2, q3⟩ := (hB t ht).mp hk
      exact ⟨(g3 t ht a).1, q, q1, by rw [if_neg q2]; exact q3⟩
  · by_cases e : q = p
    · exact ⟨s, hs, by simp only [if_true], by simp only [if_pos e, if_true]⟩
    · simp only [if_neg e] at h0 ⊢
      obtain ⟨t, t1, t2, t3⟩ := g4 q hq h0
      have hk := (hB t t1).mpr ⟨t2, q, hq, e, t3.symm⟩
      have hts : t ≠ s := fun z => by subst z; rw [hz] at hk; exact absurd hk (by decide)
      exact ⟨t, t1, by rw [if_neg hts]; exact hk, by rw [if_neg hts]; exact t3⟩
  · have hle : ∀ t, t < 4 → kp1 t = true → gn t ≤ lat := fun t ht hk => by
      obtain ⟨-, q, q1, -, q3⟩ := (hB t ht).mp hk
      rw [← q3]; exact g8 q q1
    by_cases x : t = s <;> by_cases y : t' = s
    · rw [x, y]
    · simp only [if_pos x, if_neg y] at e b; have := hle t' ht' b; omega
    · simp only [if_neg x, if_pos y] at e a; have := hle t ht a; omega
    · simp only [if_neg x, if_neg y] at e a b
      exact g5 t ht t' ht' ((hB t ht).mp a).1 ((hB t' ht').mp b).1 e
  · obtain ⟨q, q1, q2, q3⟩ := hC h hh h0
    exact ⟨q, q1, by simp only [if_neg q2]; exact q3⟩
  · have := g8 q hq
    show (if q = p then lat + 1 else num q) ≤ lat + 1
    split <;> omega
def hset (hl : Nat → Option Nat) (r : Nat) (o : Option Nat) : Nat → Option Nat := fun q => if q = r then o else hl q
theorem HH.set {hl : Nat → Option Nat} {held : Nat → Int32} {r : Nat} {o : Option Nat} (h : HH hl held) (ho : ∀ g, o = some g → g < 100000) : HH (hset hl r o) (upd held r (hv o)) := fun q hq => by
  unfold hset upd
  by_cases e : q = r
  · rw [if_pos e, if_pos e]; exact ⟨rfl, ho⟩
  · rw [if_neg e, if_neg e]; exact h q hq
theorem GI.opn {lat : Nat} {num : Nat → Nat} {kp : Nat → Bool} {gn : Nat → Nat} {hl : Nat → Option Nat} {r : Nat} (hG : GI lat num kp gn hl) (hr : r < 4) (hn : hl r = none) : GI lat num kp gn (hset hl r (some lat)) := by
  obtain ⟨g1, g2, g3, g4, g5, g6, g7, g8, g9⟩ := hG
  have up : ∀ h, isH hl h → isH (hset hl r (some lat)) h := fun h ⟨q, q1, q2⟩ => ⟨q, q1, by
    unfold hset
    by_cases e : q = r
    · subst e; rw [hn] at q2; exact absurd q2 (by simp)
    · rw [if_neg e]; exact q2⟩
  have dn : ∀ h, isH (hset hl r (some lat)) h → isH hl h ∨ h = lat := fun h ⟨q, q1, q2⟩ => by
    unfold hset at q2
    by_cases e : q = r
    · rw [if_pos e] at q2; exact Or.inr (Option.some.inj q2).symm
    · rw [if_neg e] at q2; exact Or.inl ⟨q, q1, q2⟩
  refine ⟨fun p hp h0 => (g1 p hp h0).imp id (up _), g2, g3, g4, g5, g6, fun h hh h0 => ?_, g8, fun h hh => ?_⟩
  · rcases dn h hh with q | q
    · exact g7 h q h0
    · subst q; exact g6 h0
  · rcases dn h hh with q | q
    · exact g9 h q
    · omega
theorem isH_hset {hl : Nat → Option Nat} {r h : Nat} (hh : isH hl h) (hne : hl r ≠ some h) : isH (hset hl r none) h := by
  obtain ⟨q, q1, q2⟩ := hh
  refine ⟨q, q1, ?_⟩
  unfold hset
  by_cases e : q = r
  · subst e; exact absurd q2 hne
  · rw [if_neg e]; exact q2
theorem isH_of {hl : Nat → Option Nat} {r h : Nat} (hh : isH (hset hl r none) h) : isH hl h := by
  obtain ⟨q, q1, q2⟩ := hh
  unfold hset at q2
  by_cases e : q = r
  · rw [if_pos e] at q2; exact absurd q2 (by simp)
  · rw [if_neg e] at q2; exact ⟨q, q1, q2⟩
/-- a reader lets go, and its generation stays -/
theorem GI.keep {lat : Nat} {num : Nat → Nat} {kp : Nat → Bool} {gn : Nat → Nat} {hl : Nat → Option Nat} {r g : Nat} (hG : GI lat num kp gn hl) (hg : hl r = some g) (hs : g = 0 ∨ g = lat ∨ isH (hset hl r none) g) : GI lat num kp gn (hset hl r none) := by
  obtain ⟨g1, g2, g3, g4, g5, g6, g7, g8, g9⟩ := hG
  refine ⟨fun p hp h0 => ?_, g2, g3, g4, g5, g6, fun h hh h0 => g7 h (isH_of hh) h0, g8, fun h hh => g9 h (isH_of hh)⟩
  rcases g1 p hp h0 with q | q
  · exact Or.inl q
  · by_cases e : num p = g
    · rcases hs with x | x | x
      · omega
      · exact Or.inl (by omega)
      · exact Or.inr (by rw [e]; exact x)
    · exact Or.inr (isH_hset q (fun z => e (by rw [hg] at z; exact (Option.some.inj z).symm)))
/-- a reader lets go, and its generation goes -/
theorem GI.drop {lat : Nat} {num : Nat → Nat} {kp : Nat → Bool} {gn : Nat → Nat} {hl : Nat → Option Nat} {r g : Nat} (hG : GI lat num kp gn hl) (hg : hl r = some g) (h1 : g ≠ 0) (h2 : g ≠ lat) (h3 : ¬ isH (hset hl r none) g) : GI lat (fun p => if num p = g then 0 else num p) (fun t => kp t && decide (gn t ≠ g)) gn (hset hl r none) := by
  obtain ⟨g1, g2, g3, g4, g5, g6, g7, g8, g9⟩ := hG
  have nz : ∀ p, (if num p = g then 0 else num p) ≠ 0 → num p ≠ g ∧ num p ≠ 0 := fun p h => by
    by_cases e : num p = g
    · rw [if_pos e] at h; exact absurd rfl h
    · rw [if_neg e] at h; exact ⟨e, h⟩
  have kt : ∀ t, (kp t && decide (gn t ≠ g)) = true → kp t = true ∧ gn t ≠ g := fun t h => by
    rw [Bool.and_eq_true, decide_eq_true_eq] at h; exact h
  refine ⟨fun p hp h0 => ?_, fun p hp q hq e h0 => ?_, fun t ht hk => ?_, fun p hp h0 => ?_, fun t ht t' ht' a b e => g5 t ht t' ht' (kt t a).1 (kt t' b).1 e, fun h0 => ?_, fun h hh h0 => ?_, fun p hp => ?_, fun h hh => g9 h (isH_of hh)⟩
  · obtain ⟨a, b⟩ := nz p h0
    show (if num p = g then 0 else num p) = lat ∨ isH _ (if num p = g then 0 else num p)
    rw [if_neg a]
    rcases g1 p hp b with q | q
    · exact Or.inl q
    · exact Or.inr (isH_hset q (fun z => a (by rw [hg] at z; exact (Option.some.inj z).symm)))
  · obtain ⟨a, b⟩ := nz p h0
    have h0' : (if num q = g then 0 else num q) ≠ 0 := by
      have e' : (if num p = g then 0 else num p) = (if num q = g then 0 else num q) := e
      rw [← e']; exact h0
    obtain ⟨c, d⟩ := nz q h0'
    have e' : (if num p = g then 0 else num p) = (if num q = g then 0 else num q) := e
    rw [if_neg a, if_neg c] at e'
    exact g2 p hp q hq e' b
  · obtain ⟨a, b⟩ := kt t hk
    obtain ⟨c, p, p1, p2⟩ := g3 t ht a
    exact ⟨c, p, p1, by show (if num p = g then 0 else num p) = gn t; rw [if_neg (by rw [p2]; exact b)]; exact p2⟩
  · obtain ⟨a, b⟩ := nz p h0
    obtain ⟨t, t1, t2, t3⟩ := g4 p hp b
    refine ⟨t, t1, ?_, ?_⟩
    · rw [Bool.and_eq_true, decide_eq_true_eq]; exact ⟨t2, by rw [t3]; exact a⟩
    · show gn t = (if num p = g then 0 else num p)
      rw [if_neg a]; exact t3
  · obtain ⟨p, p1, p2⟩ := g6 h0
    exact ⟨p, p1, by show (if num p = g then 0 else num p) = lat; rw [if_neg (by rw [p2]; exact fun z => h2 z.symm)]; exact p2⟩
  · obtain ⟨p, p1, p2⟩ := g7 h (isH_of hh) h0
    have : h ≠ g := fun z => h3 (by rw [← z]; exact hh)
    exact ⟨p, p1, by show (if num p = g then 0 else num p) = h; rw [if_neg (by rw [p2]; exact this)]; exact p2⟩
  · have := g8 p hp
    show (if num p = g then 0 else num p) ≤ lat
    split <;> omega
theorem s_requireReader {l1 : Int32} {Φ : Prop} {X : String → Prop} (hX : (∀ r, r < 4 → l1 ≠ I r) → X eIA) (h : ∀ r, r < 4 → l1 = I r → Φ) : P_X8_requireReader l1 Φ X := by
  unfold P_X8_requireReader
  rw [i_0, i_4]
  refine ⟨fun z => hX (fun r hr e => ?_), fun z => ⟨fun y => ?_, fun y => hX (fun r hr e => ?_)⟩⟩
  · subst e; rw [I_lt (by omega) (by omega)] at z; omega
  · obtain ⟨r, hr, e⟩ := I_surj z
    subst e
    rw [I_lt hr (by omega)] at y
    exact h r y rfl
  · subst e; rw [I_lt (by omega) (by omega)] at y; omega
theorem r_noReader {l1 : Int32} {Φ : Int32 → Prop} (h1 : (∀ r, r < 4 → l1 ≠ I r) → Φ (I 1)) (h0 : ∀ r, r < 4 → l1 = I r → Φ (I 0)) : P_X9_noReader l1 Φ := by
  unfold P_X9_noReader
  rw [i_0, i_4, i_1]
  refine ⟨fun z => h1 (fun r hr e => ?_), fun z => ⟨fun y => ?_, fun y => h1 (fun r hr e => ?_)⟩⟩
  · subst e; rw [I_lt (by omega) (by omega)] at z; omega
  · obtain ⟨r, hr, e⟩ := I_surj z
    subst e
    rw [I_lt hr (by omega)] at y
    exact h0 r y rfl
  · subst e; rw [I_lt (by omega) (by omega)] at y; omega
theorem hv_m1 {o : Option Nat} (ho : ∀ h, o = some h → h < 100000) : (hv o = -1) = (o = none) := by
  apply propext
  cases o with
  | none => exact ⟨fun _ => rfl, fun _ => rfl⟩
  | some h => exact ⟨fun e => absurd e.symm (I_neg1 (by have := ho h rfl; omega)), fun e => by simp at e⟩
theorem hv_lt0 {o : Option Nat} (ho : ∀ h, o = some h → h < 100000) : (hv o < 0) = (o = none) := by
  apply propext
  cases o with
  | none => exact ⟨fun _ => rfl, fun _ => by decide⟩
  | some h =>
    have := ho h rfl
    show I h < 0 ↔ _
    rw [i_0, I_lt (by omega) (by omega)]
    exact ⟨fun e => by omega, fun e => by simp at e⟩
theorem s_open {lat : Nat} {hl : Nat → Option Nat} {held : Nat → Int32} {l1 : Int32} {Φ : Int32 → (Nat → Int32) → Prop} {X : String → (Nat → Int32) → Prop} (hH : HH hl held) (hlat : lat < 100000)
    (hA : (∀ r, r < 4 → l1 ≠ I r) → X eIA held) (hS : ∀ r, r < 4 → l1 = I r → hl r ≠ none → X eIS held) (h : ∀ r held', r < 4 → l1 = I r → hl r = none → HH (hset hl r (some lat)) held' → Φ (I lat) held') : P_X8_open (I lat) held l1 Φ X := by
  unfold P_X8_open
  refine s_requireReader hA (fun r hr e => ?_)
  subst e
  obtain ⟨e1, e2⟩ := hH r hr
  rw [I_in (by omega), I_cl (by omega), e1, hv_m1 e2]
  refine ⟨hr, fun z => ⟨hr, h r _ hr rfl z (hH.set (fun g hg => by cases hg; exact hlat))⟩, fun z => hS r hr rfl z⟩
theorem r_open {lat : Nat} {hl : Nat → Option Nat} {holds : Nat → Int32} {th l1 : Int32} {Φ : Int32 → Int32 → (Nat → Int32) → Prop} (hH : HH hl holds) (hlat : lat < 100000)
    (hA : (∀ r, r < 4 → l1 ≠ I r) → Φ (I 0) (I 1) holds) (hS : ∀ r, r < 4 → l1 = I r → hl r ≠ none → Φ (I 0) (I 2) holds) (h : ∀ r holds', r < 4 → l1 = I r → hl r = none → HH (hset hl r (some lat)) holds' → Φ (I lat) (I 0) holds') : P_X9_open th (I lat) holds l1 Φ := by
  have n10 : ¬ (I 1 = I 0) := by rw [I_eq (by omega) (by omega)]; omega
  unfold P_X9_open
  refine r_noReader (fun hn => ?_) (fun r hr e => ?_)
  · rw [i_1]
    exact r_fails1 ⟨fun _ => hA hn, fun z => absurd z n10⟩
  · refine r_fails0 ⟨fun z => absurd rfl z, fun _ => ?_⟩
    subst e
    obtain ⟨e1, e2⟩ := hH r hr
    rw [I_in (by omega), I_cl (by omega), e1, hv_lt0 e2]
    unfold J_X9_open_27
    rw [i_0, i_1, i_2]
    refine ⟨hr, fun z => r_fails0 ⟨fun _ => ?_, fun y => absurd rfl y⟩, fun z => r_fails1 ⟨fun y => absurd y n10, fun _ => hS r hr rfl z⟩⟩
    rw [I_in (by omega), I_cl (by omega)]
    exact ⟨hr, h r _ hr rfl z (hH.set (fun g hg => by cases hg; exact hlat))⟩
theorem s_forget {num : Nat → Nat} {number : Nat → Int32} {g : Nat} {Φ : (Nat → Int32) → Prop} (hN : NN num number) (hg : g < 2147483648) (h : ∀ number', NN (fun p => if num p = g then 0 else num p) number' → Φ number') : P_X3_forget number (I g) Φ := by
  have key : ∀ k i number', 3 ≤ i + k → i ≤ 3 → (∀ p, p < i → number' p = I (if num p = g then 0 else num p)) → (∀ p, i ≤ p → number' p = number p) → L_X3_forget_2 (k + 1) number' (I g) (I i) (fun number_2 => Φ number_2) Φ := by
    intro k
    have fin : ∀ i number', 3 ≤ i → (∀ p, p < i → number' p = I (if num p = g then 0 else num p)) → Φ number' := fun i number' hi c => h number' (fun p hp => ⟨c p (by omega), by have := (hN p hp).2; show (if num p = g then 0 else num p) < 100000; split <;> omega⟩)
    induction k with
    | zero =>
      intro i number' a b c d
      unfold L_X3_forget_2
      rw [i_3, I_le (by omega) (by omega)]
      exact ⟨fun z => fin i _ z c, fun z => absurd (by omega) z⟩
    | succ k ih =>
      intro i number' a b c d
      unfold L_X3_forget_2
      rw [i_3, I_le (by omega) (by omega), I_in (by omega), I_cl (by omega), i_1, I_add]
      refine ⟨fun z => fin i _ z c, fun z => ⟨by omega, ?_⟩⟩
      obtain ⟨e1, e2⟩ := hN i (by omega)
      rw [d i (Nat.le_refl _), e1, I_eq (by omega) hg]
      refine ⟨fun y => ih (i + 1) _ (by omega) (by omega) (fun p hp => ?_) (fun p hp => d p (by omega)), fun y => ⟨by omega, ih (i + 1) _ (by omega) (by omega) (fun p hp => ?_) (fun p hp => ?_)⟩⟩
      · by_cases e : p = i
        · subst e; rw [if_neg y, d p (Nat.le_refl _), e1]
        · exact c p (by omega)
      · unfold upd
        by_cases e : p = i
        · subst e; rw [if_pos rfl, if_pos y]; rfl
        · rw [if_neg e]; exact c p (by omega)
      · unfold upd
        rw [if_neg (by omega)]; exact d p (by omega)
  exact ⟨3 + 1, key 3 0 number (by omega) (by omega) (fun p hp => by omega) (fun p _ => rfl)⟩
