
/-! what is told of an index -/
theorem count40 {b N : Nat} {segs : List Sg} (hV : VS b N segs) (hb : b ≤ 8) (hN : N ≤ 40) (hf : ∀ d, impOf segs d < 2 ^ b) : ((List.range 40).filter (fun d => decide (0 < impOf segs d))).length = (PL segs).length := by
  have e := canon_impOf hV hb
  have l1 := PL_canon_len (N := N) (f := impOf segs) hb (fun d _ => hf d)
  rw [e] at l1
  obtain ⟨m, hm⟩ : ∃ m, 40 = N + m := ⟨40 - N, by omega⟩
  rw [hm, List.range_add, List.filter_append, List.length_append, ← l1]
  have z : ((List.range m).map (fun x => N + x)).filter (fun d => decide (0 < impOf segs d)) = [] := by
    rw [List.filter_eq_nil_iff]
    intro a ha
    obtain ⟨x, -, rfl⟩ := List.mem_map.mp ha
    have := impOf_canon (N := N) (f := impOf segs) hb (fun d _ => hf d) (N + x)
    rw [e, if_neg (by omega)] at this
    rw [this]; decide
  rw [z]; rfl
def pc (TG : List (Nat × List Sg)) (i : Nat) : Nat := ((List.range i).filter (fun c => decide (0 < impOf (TG.getD (c / 40) (0, [])).2 (c % 40)))).length
theorem pc_succ (TG : List (Nat × List Sg)) (i : Nat) : pc TG (i + 1) = pc TG i + (if 0 < impOf (TG.getD (i / 40) (0, [])).2 (i % 40) then 1 else 0) := by
  unfold pc
  rw [List.range_succ, List.filter_append, List.length_append]
  congr 1
  by_cases q : 0 < impOf (TG.getD (i / 40) (0, [])).2 (i % 40)
  · rw [if_pos q, List.filter_cons_of_pos (by rw [decide_eq_true_eq]; exact q)]; rfl
  · rw [if_neg q, List.filter_cons_of_neg (by rw [decide_eq_true_eq]; exact q)]; rfl
theorem pc_le (TG : List (Nat × List Sg)) (i : Nat) : pc TG i ≤ i := by
  have := List.length_filter_le (fun c => decide (0 < impOf (TG.getD (c / 40) (0, [])).2 (c % 40))) (List.range i)
  rwa [List.length_range] at this
theorem pc_all {b N : Nat} {TG : List (Nat × List Sg)} (hb : b ≤ 8) (hN : N ≤ 40) (hV : ∀ q ∈ TG, VS b N q.2) (hf : ∀ q ∈ TG, ∀ d, impOf q.2 d < 2 ^ b) : ∀ n, n ≤ TG.length → pc TG (40 * n) = (PL (SLt (TG.take n))).length := by
  intro n
  induction n with
  | zero => intro _; rw [List.take_zero]; rfl
  | succ n ih =>
    intro h
    have hq : TG[n]? = some (TG.getD n (0, [])) := by rw [List.getD_eq_getElem?_getD, List.getElem?_eq_getElem (by omega)]; rfl
    have hm := List.mem_of_getElem? hq
    have e : TG.take (n + 1) = TG.take n ++ [TG.getD n (0, [])] := by rw [List.take_succ, hq]; rfl
    rw [e, SLt_app, PL_app, List.length_append, ← ih (by omega), ← count40 (hV _ hm) hb hN (hf _ hm)]
    unfold pc
    rw [show 40 * (n + 1) = 40 * n + 40 from by omega, List.range_add, List.filter_append, List.length_append, List.filter_map, List.length_map]
    congr 2
    apply List.filter_congr
    intro d hd
    have hd := List.mem_range.mp hd
    show decide (0 < impOf (TG.getD ((40 * n + d) / 40) (0, [])).2 ((40 * n + d) % 40)) = _
    rw [show (40 * n + d) / 40 = n from by omega, show (40 * n + d) % 40 = d from by omega]
theorem r_postingsOf {s b c N : Nat} {TG : List (Nat × List Sg)} {bits codec size words letter impact : Nat → Int32} {Φ : Int32 → Prop} (hs : s < 5) (hR : RX s b c N TG bits codec size words letter impact) (hV : VT b N TG) (hf : ∀ q ∈ TG, ∀ d, impOf q.2 d < 2 ^ b)
    (h : Φ (I (PL (SLt TG)).length)) : P_X9_postingsOf words impact (I s) Φ := by
  obtain ⟨v1, v2, v3, v4, v5, v6, v7, v8⟩ := hV
  obtain ⟨r1, r2, r3, r4, r5, r6⟩ := hR
  have he := pc_all v2 v4 (fun q hq => (v7 q hq).2.2) hf TG.length (Nat.le_refl _)
  rw [List.take_length] at he
  have h2b : 2 ^ b ≤ 256 := Nat.pow_le_pow_right (n := 2) (by omega) v2
  have key : ∀ k i, 40 * TG.length ≤ i + k → i ≤ 40 * TG.length → L_X9_postingsOf_8 (k + 1) words impact (I s) (I (pc TG i)) (I (2560 * s + i)) (fun l2_2 => Φ l2_2) Φ := by
    intro k
    induction k with
    | zero =>
      intro i h1 h2
      unfold L_X9_postingsOf_8
      rw [I_in (by omega), I_cl (by omega), r4, i_2560, i_40, I_mul, I_mul, I_add, I_le (by omega) (by omega)]
      refine ⟨hs, fun _ => ?_, fun z => absurd (by omega) z⟩
      rw [show i = 40 * TG.length from by omega, he]; exact h
    | succ k ih =>
      intro i h1 h2
      have hl := pc_le TG i
      unfold L_X9_postingsOf_8
      rw [I_in (by omega), I_cl (by omega), r4, i_2560, i_40, I_mul, I_mul, I_add, I_le (by omega) (by omega)]
      refine ⟨hs, fun z => ?_, fun z => ?_⟩
      · rw [show i = 40 * TG.length from by omega, he]; exact h
      · have hq : TG[i / 40]? = some (TG.getD (i / 40) (0, [])) := by rw [List.getD_eq_getElem?_getD, List.getElem?_eq_getElem (by omega)]; rfl
        have hi := hf _ (List.mem_of_getElem? hq) (i % 40)
        have e := r6 (i / 40) _ hq (i % 40) (by omega)
        rw [show 2560 * s + 40 * (i / 40) + i % 40 = 2560 * s + i from by omega] at e
        have key := ih (i + 1) (by omega) (by omega)
        rw [pc_succ, ← Nat.add_assoc] at key
        rw [I_in (by omega), I_cl (by omega), e, i_0, I_le (by omega) (by omega), i_1, I_add, I_add, I_add]
        refine ⟨by omega, fun y => ?_, fun y => ?_⟩
        · rw [if_neg (by omega)] at key; exact key
        · rw [if_pos (by omega)] at key; exact key
  have k0 := key (40 * TG.length) 0 (by omega) (by omega)
  refine ⟨40 * TG.length + 1, ?_⟩
  rw [i_2560, I_mul]
  exact k0
theorem s_heldBy {num : Nat → Nat} {d0 : Nat → Nat} {hl : Nat → Option Nat} {hk : Nat → Nat} {number held : Nat → Int32} {kept : Nat → Option Nat} {r g : Nat} {Φ : Nat → Prop} (hN : NN num number) (hH : HH hl held) (hkp : ∀ p, p < 3 → kept p = some (hk p)) (hr : r < 4) (hg : hl r = some g)
    (h1 : ∀ p, p < 3 → num p ≠ 0 → num p = g → Φ (hk p)) (h0 : (∀ p, p < 3 → num p ≠ 0 → num p ≠ g) → Φ (d0 2)) : P_X3_heldBy d0 number held kept (I r) Φ := by
  obtain ⟨e1, e2⟩ := hH r hr
  have hgl := e2 g hg
  have eg : held r = I g := by rw [e1, hg]; rfl
  have key : ∀ k i, 3 ≤ i + k → i ≤ 3 → (∀ p, p < i → num p ≠ 0 → num p ≠ g) → L_X3_heldBy_2 (k + 1) d0 number held kept (I r) (I i) (Φ (d0 2)) Φ := by
    intro k
    induction k with
    | zero =>
      intro i a b c
      unfold L_X3_heldBy_2
      rw [i_3, I_le (by omega) (by omega)]
      exact ⟨fun _ => h0 (fun p hp => c p (by omega)), fun z => absurd (by omega) z⟩
    | succ k ih =>
      intro i a b c
      unfold L_X3_heldBy_2
      rw [i_3, I_le (by omega) (by omega), I_in (by omega), I_cl (by omega), I_in (by omega), I_cl (by omega), eg, i_1, I_add]
      refine ⟨fun _ => h0 (fun p hp => c p (by omega)), fun z => ⟨by omega, ?_⟩⟩
      obtain ⟨f1, f2⟩ := hN i (by omega)
      rw [f1, i_0, I_eq (by omega) (by omega), I_eq (by omega) (by omega)]
      refine ⟨fun y => ih (i + 1) (by omega) (by omega) (fun p hp hz => ?_), fun y => ⟨by omega, hr, fun x => ih (i + 1) (by omega) (by omega) (fun p hp hz => ?_), fun x => ⟨by omega, hk i, hkp i (by omega), h1 i (by omega) y x⟩⟩⟩
      · by_cases e : p = i
        · subst e; exact absurd y hz
        · exact c p (by omega) hz
      · by_cases e : p = i
        · subst e; exact x
        · exact c p (by omega) hz
  exact ⟨3 + 1, key 3 0 (by omega) (by omega) (fun p hp => by omega)⟩
theorem s_index {num : Nat → Nat} {d0 : Nat → Nat} {hix : Nat} {hl : Nat → Option Nat} {hk : Nat → Nat} {number held : Nat → Int32} {kept : Nat → Option Nat} {xd xt xs xp l1 l2 : Int32} {Φ : Int32 → Prop} {X : String → Prop} (hN : NN num number) (hH : HH hl held) (hkp : ∀ p, p < 3 → kept p = some (hk p))
    (hA : ((∀ r, r < 4 → l1 ≠ I r) ∨ ∀ n, n ≤ 3 → l2 ≠ I n) → X eIA) (hS : ∀ r n, r < 4 → l1 = I r → n ≤ 3 → l2 = I n → hl r = none → X eIS)
    (hx : ∀ r g, r < 4 → l1 = I r → hl r = some g → (∀ p, p < 3 → num p ≠ 0 → num p = g → hk p = hix) ∧ ((∀ p, p < 3 → num p ≠ 0 → num p ≠ g) → d0 2 = hix))
    (h : ∀ r n g, r < 4 → l1 = I r → n ≤ 3 → l2 = I n → hl r = some g → Φ (if n = 0 then xd else if n = 1 then xt else if n = 2 then xp else xs)) : P_X8_index d0 hix held number kept xd xt xs xp l1 l2 Φ X := by
  unfold P_X8_index
  refine s_requireReader (fun q => hA (Or.inl q)) (fun r hr e => ?_)
  subst e
  rw [i_0, i_3]
  refine ⟨fun z => hA (Or.inr (fun n hn e => ?_)), fun z => ⟨fun y => ?_, fun y => hA (Or.inr (fun n hn e => ?_))⟩⟩
  · subst e; rw [I_lt (by omega) (by omega)] at z; omega
  · obtain ⟨n, hn, e⟩ := I_surj z
    subst e
    rw [I_le hn (by omega)] at y
    unfold P_X8_requireOpen
    obtain ⟨e1, e2⟩ := hH r hr
    rw [I_in (by omega), I_cl (by omega), e1, hv_m1 e2]
    refine ⟨hr, fun w => ?_, fun w => hS r n hr rfl y rfl w⟩
    obtain ⟨g, hg⟩ : ∃ g, hl r = some g := by
      cases q : hl r with
      | none => exact absurd q w
      | some g => exact ⟨g, rfl⟩
    obtain ⟨x1, x2⟩ := hx r g hr rfl hg
    have hh := h r n g hr rfl y rfl hg
    have fin : ((I n = I 0 → Φ xd) ∧ (I n = 1 → Φ xt) ∧ (I n = 2 → Φ xp) ∧ (¬ I n = I 0 → ¬ I n = 1 → ¬ I n = 2 → Φ xs)) := by
      rw [i_1, i_2, I_eq hn (by omega), I_eq hn (by omega), I_eq hn (by omega)]
      refine ⟨fun q => by rwa [if_pos q] at hh, fun q => by rwa [if_neg (by omega), if_pos q] at hh, fun q => by rwa [if_neg (by omega), if_neg (by omega), if_pos q] at hh, fun a b c => by rwa [if_neg a, if_neg b, if_neg c] at hh⟩
    refine s_heldBy hN hH hkp hr hg (fun p p1 p2 p3 => ⟨x1 p p1 p2 p3, fin⟩) (fun q => ⟨x2 q, fin⟩)
  · subst e; rw [I_le (by omega) (by omega)] at y; omega
