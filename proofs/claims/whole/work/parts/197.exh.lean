
/-! exhaustive: document by document, the same sums -/
def agB (P : List (Nat × Nat × Nat × Nat)) (k : Nat) (io : Nat → Nat) (d a : Nat) : Bool := (List.range k).any (fun i => decide (pT (P.getD i (0, 0, 0, 0)) = a ∧ pI (P.getD i (0, 0, 0, 0)) = io (a * 40 + d)))
theorem agB_iff {P : List (Nat × Nat × Nat × Nat)} {k : Nat} {io : Nat → Nat} {d a : Nat} : agB P k io d a = true ↔ ∃ i, i < k ∧ pT (P.getD i (0, 0, 0, 0)) = a ∧ pI (P.getD i (0, 0, 0, 0)) = io (a * 40 + d) := by
  unfold agB
  rw [List.any_eq_true]
  constructor
  · rintro ⟨i, h1, h2⟩
    exact ⟨i, List.mem_range.mp h1, of_decide_eq_true h2⟩
  · rintro ⟨i, h1, h2⟩
    exact ⟨i, List.mem_range.mpr h1, decide_eq_true h2⟩
def agS (P : List (Nat × Nat × Nat × Nat)) (k : Nat) (io : Nat → Nat) (d : Nat) : Nat → Nat
  | 0 => 0
  | a + 1 => agS P k io d a + (if agB P k io d a = true then io (a * 40 + d) else 0)
theorem s_isDone {P : List (Nat × Nat × Nat × Nat)} {k a v : Nat} {pa pc' : Nat → Int32} {Φ : Int32 → Prop} (ha : Row pa (P.map pI)) (hc : Row pc' (P.map pT)) (hk : k ≤ P.length) (hl : P.length ≤ 320) (hb : ∀ e ∈ P, pT e < 100000 ∧ pI e < 100000) (ha' : a < 100000) (hv : v < 100000)
    (h1 : (∃ i, i < k ∧ pT (P.getD i (0, 0, 0, 0)) = a ∧ pI (P.getD i (0, 0, 0, 0)) = v) → Φ (I 1)) (h0 : (¬ ∃ i, i < k ∧ pT (P.getD i (0, 0, 0, 0)) = a ∧ pI (P.getD i (0, 0, 0, 0)) = v) → Φ (I 0)) : P_X6_isDone (I k) pc' pa (I a) (I v) Φ := by
  have key : ∀ m i, k ≤ i + m → i ≤ k → (¬ ∃ j, j < i ∧ pT (P.getD j (0, 0, 0, 0)) = a ∧ pI (P.getD j (0, 0, 0, 0)) = v) → L_X6_isDone_2 (m + 1) (I k) pc' pa (I a) (I v) (I i) (Φ 0) Φ := by
    intro m
    induction m with
    | zero =>
      intro i h2 h3 h4
      have e : i = k := by omega
      subst e
      unfold L_X6_isDone_2
      rw [I_le (by omega) (by omega)]
      exact ⟨fun _ => h0 h4, fun z => absurd (Nat.le_refl _) z⟩
    | succ m ih =>
      intro i h2 h3 h4
      unfold L_X6_isDone_2
      by_cases e : i = k
      · subst e
        rw [I_le (by omega) (by omega)]
        exact ⟨fun _ => h0 h4, fun z => absurd (Nat.le_refl _) z⟩
      · have x1 := ha i (by rw [List.length_map]; omega)
        have x3 := hc i (by rw [List.length_map]; omega)
        rw [mget rfl] at x1 x3
        have hm := hb (P.getD i (0, 0, 0, 0)) (by rw [List.getD_eq_getElem?_getD, List.getElem?_eq_getElem (by omega)]; exact List.getElem_mem _)
        have nx : ¬ (pT (P.getD i (0, 0, 0, 0)) = a ∧ pI (P.getD i (0, 0, 0, 0)) = v) → ¬ ∃ j, j < i + 1 ∧ pT (P.getD j (0, 0, 0, 0)) = a ∧ pI (P.getD j (0, 0, 0, 0)) = v := fun w => by
          rintro ⟨j, j1, j2⟩
          by_cases e : j = i
          · subst e; exact w j2
          · exact h4 ⟨j, by omega, j2⟩
        rw [I_le (by omega) (by omega), I_in (by omega), I_cl (by omega), x1, x3, I_eq (by omega) (by omega), I_eq (by omega) (by omega), i_1, I_add]
        refine ⟨fun z => absurd z (by omega), fun _ => ⟨by omega, fun y => ih (i + 1) (by omega) (by omega) (nx (fun w => y w.1)), fun y => ⟨by omega, fun x => ih (i + 1) (by omega) (by omega) (nx (fun w => x w.2)), fun x => h1 ⟨i, by omega, y, x⟩⟩⟩⟩
  exact ⟨k + 1, key k 0 (by omega) (by omega) (fun ⟨j, hj, _⟩ => absurd hj (by omega))⟩
theorem l_ag12 {P : List (Nat × Nat × Nat × Nat)} {n k d : Nat} {io : Nat → Nat} {pa pc' iO sums : Nat → Int32} {K : Int32 → Int32 → Prop} {Φ : Int32 → Prop} (ha : Row pa (P.map pI)) (hc : Row pc' (P.map pT)) (hk : k ≤ P.length) (hl : P.length ≤ 320) (hb : ∀ e ∈ P, pT e < 100000 ∧ pI e < 100000) (hio : ∀ c, c < 320 → iO c = I (io c)) (hib : ∀ c, io c < 256) (hn : n ≤ 8) (hd : d < 40)
    (hK : K (I d) (I (agS P k io d n))) : ∀ m a, n ≤ a + m → a ≤ n → L_X6_agreesByDocument_12 (m + 1) (I n) (I k) iO pc' pa sums (I d) (I (agS P k io d a)) (I a) K Φ := by
  intro m
  induction m with
  | zero =>
    intro a h2 h3
    have e : a = n := by omega
    subst e
    unfold L_X6_agreesByDocument_12
    rw [I_le (by omega) (by omega)]
    exact ⟨fun _ => hK, fun z => absurd (Nat.le_refl _) z⟩
  | succ m ih =>
    intro a h2 h3
    unfold L_X6_agreesByDocument_12
    by_cases e : a = n
    · subst e
      rw [I_le (by omega) (by omega)]
      exact ⟨fun _ => hK, fun z => absurd (Nat.le_refl _) z⟩
    · have hx := hib (a * 40 + d)
      rw [I_le (by omega) (by omega), i_40, I_mul, I_add, I_in (by omega), I_cl (by omega), hio _ (by omega), i_0, i_1]
      have n10 : ¬ (I 1 = I 0) := by rw [I_eq (by omega) (by omega)]; omega
      refine ⟨fun z => absurd z (by omega), fun _ => ⟨by omega, ?_⟩⟩
      have key := ih (a + 1) (by omega) (by omega)
      refine s_isDone ha hc hk hl hb (by omega) (by omega) (fun w => ⟨fun z => absurd z n10, fun _ => ?_⟩) (fun w => ⟨fun _ => ?_, fun z => absurd rfl z⟩)
      · have e : agS P k io d (a + 1) = agS P k io d a + io (a * 40 + d) := by
          show agS P k io d a + _ = _
          rw [if_pos (agB_iff.mpr w)]
        rw [I_add, I_add, ← e]; exact key
      · have e : agS P k io d (a + 1) = agS P k io d a + 0 := by
          show agS P k io d a + _ = _
          rw [if_neg (fun q => w (agB_iff.mp q))]
        rw [I_add, I_add, ← e]; exact key
theorem s_exhaustive {P : List (Nat × Nat × Nat × Nat)} {n k : Nat} {io f : Nat → Nat} {pa pc' iO sums : Nat → Int32} {Φ : Int32 → Prop} (ha : Row pa (P.map pI)) (hc : Row pc' (P.map pT)) (hk : k ≤ P.length) (hl : P.length ≤ 320) (hb : ∀ e ∈ P, pT e < 100000 ∧ pI e < 100000) (hio : ∀ c, c < 320 → iO c = I (io c)) (hib : ∀ c, io c < 256) (hn : n ≤ 8)
    (hf : ∀ d, d < 40 → sums d = I (f d)) (hag : ∀ d, d < 40 → f d = agS P k io d n) (h : Φ (I 1)) : P_X8_exhaustive (I n) (I k) iO pc' pa sums Φ := by
  unfold P_X8_exhaustive P_X6_agreesByDocument
  have key : ∀ m d, 40 ≤ d + m → d ≤ 40 → L_X6_agreesByDocument_2 (m + 1) (I n) (I k) iO pc' pa sums (I d) (zok 1 ∧ Φ 1) (fun r_1 => zok r_1 ∧ Φ r_1) := by
    intro m
    induction m with
    | zero =>
      intro d h2 h3
      unfold L_X6_agreesByDocument_2
      rw [i_40, I_le (by omega) (by omega)]
      exact ⟨fun _ => ⟨zok1, h⟩, fun z => absurd (by omega) z⟩
    | succ m ih =>
      intro d h2 h3
      unfold L_X6_agreesByDocument_2
      rw [i_40, I_le (by omega) (by omega)]
      refine ⟨fun _ => ⟨zok1, h⟩, fun z => ⟨n + 1, ?_⟩⟩
      refine l_ag12 ha hc hk hl hb hio hib hn (by omega) ?_ n 0 (by omega) (by omega)
      show vp_in (I d) 40 ∧ _
      rw [I_in (by omega), I_cl (by omega), hf d (by omega), hag d (by omega), i_1, I_add]
      exact ⟨by omega, fun _ => ih (d + 1) (by omega) (by omega), fun z => absurd rfl z⟩
  exact ⟨40 + 1, key 40 0 (by omega) (by omega)⟩
theorem allE_seg {b N : Nat} {TG : List (Nat × List Sg)} {A : List Nat} (hV : VT b N TG) (hA : ∀ t ∈ A, t < TG.length) {n : Nat} (hn : n ≤ A.length) {x : Nat × Nat × Nat × Nat} (hx : x ∈ allE TG A n) :
    ∃ s, s ∈ (TG.getD (A.getD (pT x) 0) (0, [])).2 ∧ s.1 = pI x ∧ s.2.length = pZ x ∧ pT x < n ∧ (SLt TG)[pG x]? = some s := by
  unfold allE at hx
  rw [List.mem_flatMap] at hx
  obtain ⟨a, ha, hxe⟩ := hx
  have ha := List.mem_range.mp ha
  unfold enJ at hxe
  rw [List.mem_map] at hxe
  obtain ⟨j, hj, he⟩ := hxe
  have hj := List.mem_range.mp hj
  have ht := hA _ (getD_mem (ds := A) (i := a) (by omega))
  have hq : TG[A.getD a 0]? = some (TG.getD (A.getD a 0) (0, [])) := by rw [List.getD_eq_getElem?_getD (l := TG), List.getElem?_eq_getElem ht]; rfl
  have hj' : j < (TG.getD (A.getD a 0) (0, [])).2.length := hj
  have hsj : (TG.getD (A.getD a 0) (0, [])).2[j]? = some ((TG.getD (A.getD a 0) (0, [])).2.getD j (0, [])) := by rw [List.getD_eq_getElem?_getD (l := (TG.getD (A.getD a 0) (0, [])).2), List.getElem?_eq_getElem hj']; rfl
  have hpt : pT x = a := by rw [← he]; rfl
  refine ⟨(TG.getD (A.getD a 0) (0, [])).2.getD j (0, []), ?_, ?_, ?_, by omega, ?_⟩
  · rw [hpt]; exact List.mem_of_getElem? hsj
  · rw [← he]; rfl
  · rw [← he]; rfl
  · have f := flat_get (g := fun q : Nat × List Sg => q.2) hq hj'
    have hpg : pG x = fsF TG (A.getD a 0) + j := by rw [← he]; rfl
    rw [hpg]
    exact f.trans hsj
theorem agS_step {P : List (Nat × Nat × Nat × Nat)} {k d : Nat} {io : Nat → Nat} (hno : pI (P.getD k (0, 0, 0, 0)) = io (pT (P.getD k (0, 0, 0, 0)) * 40 + d) → ¬ agB P k io d (pT (P.getD k (0, 0, 0, 0))) = true) : ∀ n, agS P (k + 1) io d n = agS P k io d n + (if pT (P.getD k (0, 0, 0, 0)) < n ∧ pI (P.getD k (0, 0, 0, 0)) = io (pT (P.getD k (0, 0, 0, 0)) * 40 + d) then pI (P.getD k (0, 0, 0, 0)) else 0) := by
  generalize hx : P.getD k (0, 0, 0, 0) = x at *
  have ex : ∀ a, agB P (k + 1) io d a = true ↔ agB P k io d a = true ∨ (pT x = a ∧ pI x = io (a * 40 + d)) := fun a => by
    rw [agB_iff, agB_iff]
    constructor
    · rintro ⟨i, i1, i2⟩
      by_cases e : i = k
      · subst e; rw [hx] at i2; exact Or.inr i2
      · exact Or.inl ⟨i, by omega, i2⟩
    · rintro (⟨i, i1, i2⟩ | i2)
      · exact ⟨i, by omega, i2⟩
      · exact ⟨k, by omega, by rw [hx]; exact i2⟩
  intro n
  induction n with
  | zero => rw [if_neg (fun w => absurd w.1 (Nat.not_lt_zero _))]; rfl
  | succ n ih =>
    show agS P (k + 1) io d n + _ = agS P k io d n + _ + _
    rw [ih]
    by_cases e : pT x = n
    · subst e
      rw [if_neg (fun w => absurd w.1 (Nat.lt_irrefl _))]
      by_cases w : pI x = io (pT x * 40 + d)
      · rw [if_pos ((ex _).mpr (Or.inr ⟨rfl, w⟩)), if_neg (hno w), if_pos ⟨Nat.lt_succ_self _, w⟩, w]
      · rw [if_neg (c := pT x < pT x + 1 ∧ _) (fun z => w z.2)]
        by_cases y : agB P k io d (pT x) = true
        · rw [if_pos y, if_pos ((ex _).mpr (Or.inl y))]; omega
        · rw [if_neg y, if_neg (fun z => ((ex _).mp z).elim y (fun q => w q.2))]
    · have e2 : agB P (k + 1) io d n = true ↔ agB P k io d n = true := (ex n).trans ⟨fun q => q.elim id (fun z => absurd z.1 e), Or.inl⟩
      have e3 : (pT x < n ∧ pI x = io (pT x * 40 + d)) ↔ (pT x < n + 1 ∧ pI x = io (pT x * 40 + d)) := ⟨fun q => ⟨by omega, q.2⟩, fun q => ⟨by omega, q.2⟩⟩
      by_cases y : agB P k io d n = true
      · rw [if_pos y, if_pos (e2.mpr y)]
        by_cases z : pT x < n ∧ pI x = io (pT x * 40 + d)
        · rw [if_pos z, if_pos (e3.mp z)]; omega
        · rw [if_neg z, if_neg (fun q => z (e3.mpr q))]; omega
      · rw [if_neg y, if_neg (fun q => y (e2.mp q))]
        by_cases z : pT x < n ∧ pI x = io (pT x * 40 + d)
        · rw [if_pos z, if_pos (e3.mp z)]; omega
        · rw [if_neg z, if_neg (fun q => z (e3.mpr q))]
theorem agS_zero {P : List (Nat × Nat × Nat × Nat)} {d : Nat} {io : Nat → Nat} : ∀ n, agS P 0 io d n = 0 := by
  intro n
  induction n with
  | zero => rfl
  | succ n ih =>
    show agS P 0 io d n + _ = 0
    rw [ih, if_neg (fun w => by obtain ⟨i, hi, _⟩ := agB_iff.mp w; exact absurd hi (Nat.not_lt_zero _))]
theorem ag_run {b N : Nat} {TG : List (Nat × List Sg)} {A : List Nat} {P : List (Nat × Nat × Nat × Nat)} {bud : Int32} {clk dl : Int64} (hV : VT b N TG) (hA : ∀ t ∈ A, t < TG.length) (hP : P.Pairwise pord) (hm : ∀ x, x ∈ P ↔ x ∈ allE TG A A.length) :
    ∀ m k dp f k' dp' f', wrun (sgP TG P) bud clk dl m k dp f = (k', dp', f') → (∀ d, d < 40 → f d = agS P k (ioF TG A A.length) d A.length) → ∀ d, d < 40 → f' d = agS P k' (ioF TG A A.length) d A.length := by
  have hsl : (sgP TG P).length = P.length := by unfold sgP; rw [List.length_map]
  have step : ∀ k d, k < P.length → d < 40 → agS P (k + 1) (ioF TG A A.length) d A.length = agS P k (ioF TG A A.length) d A.length + (if d ∈ ((sgP TG P).getD k (0, [])).2 then ((sgP TG P).getD k (0, [])).1 else 0) := by
    intro k d hk hd
    obtain ⟨x, hx⟩ : ∃ x, P.getD k (0, 0, 0, 0) = x := ⟨_, rfl⟩
    have hxg : P[k]? = some x := by
      rw [List.getElem?_eq_getElem hk, ← hx, List.getD_eq_getElem?_getD, List.getElem?_eq_getElem hk]; rfl
    have hxm : x ∈ P := List.mem_of_getElem? hxg
    obtain ⟨s, s1, s2, s3, s4, s5⟩ := allE_seg hV hA (Nat.le_refl _) ((hm x).mp hxm)
    have hsg : (sgP TG P).getD k (0, []) = s := by
      unfold sgP
      rw [List.getD_eq_getElem?_getD (l := P.map _), List.getElem?_map, hxg]
      show (SLt TG).getD (pG x) (0, []) = s
      rw [List.getD_eq_getElem?_getD, s5]; rfl
    have ht := hA _ (getD_mem (ds := A) s4)
    have hq : TG[A.getD (pT x) 0]? = some (TG.getD (A.getD (pT x) 0) (0, [])) := by rw [List.getD_eq_getElem?_getD (l := TG), List.getElem?_eq_getElem ht]; rfl
    obtain ⟨-, -, hvs⟩ := hV.2.2.2.2.2.2.1 _ (List.mem_of_getElem? hq)
    have hio : ioF TG A A.length (pT x * 40 + d) = impOf (TG.getD (A.getD (pT x) 0) (0, [])).2 d := by
      unfold ioF
      rw [show (pT x * 40 + d) / 40 = pT x by omega, show (pT x * 40 + d) % 40 = d by omega, if_pos s4]
    rw [agS_step (by
      rw [hx]
      intro w hB
      obtain ⟨i, i1, i2, i3⟩ := agB_iff.mp hB
      obtain ⟨y, hy⟩ : ∃ y, P.getD i (0, 0, 0, 0) = y := ⟨_, rfl⟩
      rw [hy] at i2 i3
      have hyg : P[i]? = some y := by
        rw [List.getElem?_eq_getElem (by omega), ← hy, List.getD_eq_getElem?_getD, List.getElem?_eq_getElem (by omega)]; rfl
      have ho := List.pairwise_iff_getElem.mp hP i k (by omega) hk i1
      rw [List.getElem?_eq_getElem (by omega)] at hyg hxg
      rw [Option.some.inj hyg, Option.some.inj hxg] at ho
      obtain ⟨s', t1, t2, t3, t4, t5⟩ := allE_seg hV hA (Nat.le_refl _) ((hm y).mp (by rw [← Option.some.inj hyg]; exact List.getElem_mem _))
      rw [i2] at t1
      have es := hvs.same s1 t1 (by rw [t2, s2, i3, w])
      rw [es] at t3 t2
      unfold pord at ho
      omega), hx, hsg]
    congr 1
    have ha := hvs.at s1 d
    rw [hio, ← s2]
    by_cases w : d ∈ s.2
    · rw [if_pos w, if_pos ⟨s4, (ha.mpr w).symm⟩]
    · rw [if_neg w, if_neg (fun q => w (ha.mp q.2.symm))]
  intro m
  induction m with
  | zero =>
    intro k dp f k' dp' f' e h
    unfold wrun at e
    cases e; exact h
  | succ m ih =>
    intro k dp f k' dp' f' e h
    unfold wrun at e
    split at e
    · cases e; exact h
    · split at e
      · cases e; exact h
      · split at e
        · refine ih _ _ _ _ _ _ e (fun d hd => ?_)
          rw [step k d (by omega) hd, ← h d hd]; rfl
        · cases e; exact h
