
/-! the reference's plan is the class's plan -/
theorem sorted_uniq {α : Type} {R : α → α → Prop} (irr : ∀ x, ¬ R x x) (asy : ∀ x y, R x y → ¬ R y x) : ∀ (l1 l2 : List α), l1.Pairwise R → l2.Pairwise R → (∀ x, x ∈ l1 ↔ x ∈ l2) → l1 = l2 := by
  intro l1
  induction l1 with
  | nil =>
    intro l2 _ _ h
    match l2 with
    | [] => rfl
    | b :: t => exact absurd ((h b).mpr List.mem_cons_self) List.not_mem_nil
  | cons a t ih =>
    intro l2 h1 h2 h
    match l2 with
    | [] => exact absurd ((h a).mp List.mem_cons_self) List.not_mem_nil
    | b :: t2 =>
      obtain ⟨a1, a2⟩ := List.pairwise_cons.mp h1
      obtain ⟨b1, b2⟩ := List.pairwise_cons.mp h2
      have e : a = b := by
        rcases List.mem_cons.mp ((h a).mp List.mem_cons_self) with x | x
        · exact x
        · rcases List.mem_cons.mp ((h b).mpr List.mem_cons_self) with y | y
          · exact y.symm
          · exact absurd (a1 b y) (asy b a (b1 a x))
      subst e
      congr 1
      refine ih t2 a2 b2 (fun x => ⟨fun hx => ?_, fun hx => ?_⟩)
      · rcases List.mem_cons.mp ((h x).mp (List.mem_cons_of_mem _ hx)) with y | y
        · exact absurd (y ▸ a1 x hx) (irr _)
        · exact y
      · rcases List.mem_cons.mp ((h x).mpr (List.mem_cons_of_mem _ hx)) with y | y
        · exact absurd (y ▸ b1 x hx) (irr _)
        · exact y
theorem pord_irr (x : Nat × Nat × Nat × Nat) : ¬ pord x x := by unfold pord; omega
theorem pord_asy (x y : Nat × Nat × Nat × Nat) (h : pord x y) : ¬ pord y x := by unfold pord at *; omega
theorem isA_iff {TG : List (Nat × List Sg)} {S : List Nat} {t : Nat} : isA TG S t = true ↔ t ∈ AsK (TG.map (fun q => q.1)) S := by
  unfold isA
  rw [decide_eq_true_iff, mem_AsK]
theorem cntA_get {TG : List (Nat × List Sg)} {S : List Nat} {t : Nat} (h : isA TG S t = true) : cntA TG S t < (AsK (TG.map (fun q => q.1)) S).length ∧ (AsK (TG.map (fun q => q.1)) S).getD (cntA TG S t) 0 = t := by
  have ht := (mem_AsK.mp (isA_iff.mp h)).1
  have hS := (mem_AsK.mp (isA_iff.mp h)).2
  have e1 : AsK (TG.map (fun q => q.1)) S = (List.range (TG.map (fun q => q.1)).length).filter (fun u => isA TG S u) := by
    unfold AsK
    refine List.filter_congr (fun u hu => ?_)
    have hu := List.mem_range.mp hu
    unfold isA
    by_cases w : (TG.map (fun q => q.1)).getD u 0 ∈ S
    · rw [decide_eq_true w, decide_eq_true (And.intro hu w)]
    · rw [decide_eq_false w, decide_eq_false (fun z => w z.2)]
  have e2 : ∀ k, ∃ l, (List.range (t + 1 + k)).filter (fun u => isA TG S u) = (List.range t).filter (fun u => isA TG S u) ++ t :: l := by
    intro k
    induction k with
    | zero =>
      refine ⟨[], ?_⟩
      rw [Nat.add_zero, List.range_succ, List.filter_append]
      congr 1
      rw [List.filter_cons, if_pos h]; rfl
    | succ k ih =>
      obtain ⟨l, hl⟩ := ih
      refine ⟨l ++ [t + 1 + k].filter (fun u => isA TG S u), ?_⟩
      rw [← Nat.add_assoc, List.range_succ, List.filter_append, hl, List.append_assoc, List.cons_append]
  obtain ⟨l, hl⟩ := e2 ((TG.map (fun q => q.1)).length - (t + 1))
  rw [show t + 1 + ((TG.map (fun q => q.1)).length - (t + 1)) = (TG.map (fun q => q.1)).length by omega] at hl
  rw [e1, hl]
  unfold cntA
  refine ⟨by rw [List.length_append, List.length_cons]; omega, ?_⟩
  rw [List.getD_eq_getElem?_getD, List.getElem?_append_right (Nat.le_refl _), Nat.sub_self]; rfl
theorem cntA_at {TG : List (Nat × List Sg)} {S : List Nat} {a : Nat} (h : a < (AsK (TG.map (fun q => q.1)) S).length) : isA TG S ((AsK (TG.map (fun q => q.1)) S).getD a 0) = true ∧ cntA TG S ((AsK (TG.map (fun q => q.1)) S).getD a 0) = a := by
  have hm : (AsK (TG.map (fun q => q.1)) S).getD a 0 ∈ AsK (TG.map (fun q => q.1)) S := getD_mem h
  have hA := isA_iff.mpr hm
  obtain ⟨c1, c2⟩ := cntA_get hA
  refine ⟨hA, ?_⟩
  have hn := AsK_nodup (TG.map (fun q => q.1)) S
  exact getD_inj hn c1 h c2
theorem mem_blkE {TG : List (Nat × List Sg)} {S : List Nat} {N i z t : Nat} {e : Nat × Nat × Nat × Nat} : e ∈ blkE TG S N i z t ↔ ∃ u, u < t ∧ isA TG S u = true ∧ zF TG S N i u = z ∧ e = (i, z, cntA TG S u, 0) := by
  unfold blkE
  rw [List.mem_map]
  constructor
  · rintro ⟨u, hu, rfl⟩
    rw [List.mem_filter, List.mem_range, Bool.and_eq_true, decide_eq_true_iff] at hu
    exact ⟨u, hu.1, hu.2.1, hu.2.2, rfl⟩
  · rintro ⟨u, h1, h2, h3, rfl⟩
    refine ⟨u, ?_, rfl⟩
    rw [List.mem_filter, List.mem_range, Bool.and_eq_true, decide_eq_true_iff]
    exact ⟨h1, h2, h3⟩
theorem mem_rqE {TG : List (Nat × List Sg)} {S : List Nat} {N : Nat} {e : Nat × Nat × Nat × Nat} : e ∈ rqE TG S N 255 ↔ ∃ i z u, 1 ≤ i ∧ i ≤ 255 ∧ 1 ≤ z ∧ z ≤ 40 ∧ u < 64 ∧ isA TG S u = true ∧ zF TG S N i u = z ∧ e = (i, z, cntA TG S u, 0) := by
  unfold rqE szE
  rw [List.mem_flatMap]
  constructor
  · rintro ⟨c, hc, h⟩
    rw [List.mem_flatMap] at h
    obtain ⟨z, hz, h⟩ := h
    obtain ⟨u, h1, h2, h3, h4⟩ := mem_blkE.mp h
    have hc := List.mem_range.mp hc
    have hz := List.mem_range.mp hz
    exact ⟨255 - c, z + 1, u, by omega, by omega, by omega, by omega, h1, h2, h3, h4⟩
  · rintro ⟨i, z, u, h1, h2, h3, h4, h5, h6, h7, h8⟩
    refine ⟨255 - i, List.mem_range.mpr (by omega), ?_⟩
    rw [List.mem_flatMap, show 255 - (255 - i) = i by omega]
    refine ⟨z - 1, List.mem_range.mpr (by omega), ?_⟩
    rw [show z - 1 + 1 = z by omega]
    exact mem_blkE.mpr ⟨u, h5, h6, h7, h8⟩
theorem blkE_ord {TG : List (Nat × List Sg)} {S : List Nat} {N i z t : Nat} : (blkE TG S N i z t).Pairwise pord := by
  unfold blkE
  rw [List.pairwise_map, List.pairwise_filter]
  refine List.pairwise_lt_range.imp (fun {x y} h hx hy => ?_)
  rw [Bool.and_eq_true, decide_eq_true_iff] at hx hy
  have hlt : cntA TG S x < cntA TG S y := by
    have mono : ∀ k, cntA TG S (x + 1) ≤ cntA TG S (x + 1 + k) := fun k => by
      induction k with
      | zero => exact Nat.le_refl _
      | succ k ih => have e := cntA_succ TG S (x + 1 + k); rw [← Nat.add_assoc]; omega
    have m := mono (y - (x + 1))
    rw [show x + 1 + (y - (x + 1)) = y by omega, cntA_succ, if_pos hx.1] at m
    omega
  exact Or.inr ⟨rfl, Or.inr ⟨rfl, hlt⟩⟩
theorem szE_ord {TG : List (Nat × List Sg)} {S : List Nat} {N i m : Nat} : (szE TG S N i m).Pairwise pord := by
  unfold szE
  rw [List.pairwise_flatMap]
  refine ⟨fun _ _ => blkE_ord, List.pairwise_lt_range.imp (fun {x y} h a ha b hb => ?_)⟩
  obtain ⟨u, -, -, -, rfl⟩ := mem_blkE.mp ha
  obtain ⟨v, -, -, -, rfl⟩ := mem_blkE.mp hb
  exact Or.inr ⟨rfl, Or.inl (show x + 1 < y + 1 by omega)⟩
theorem szE_imp {TG : List (Nat × List Sg)} {S : List Nat} {N i m : Nat} {e : Nat × Nat × Nat × Nat} (h : e ∈ szE TG S N i m) : pI e = i := by
  unfold szE at h
  rw [List.mem_flatMap] at h
  obtain ⟨z, -, h⟩ := h
  obtain ⟨u, -, -, -, rfl⟩ := mem_blkE.mp h
  rfl
theorem rqE_ord {TG : List (Nat × List Sg)} {S : List Nat} {N : Nat} : (rqE TG S N 255).Pairwise pord := by
  unfold rqE
  rw [List.pairwise_flatMap]
  refine ⟨fun _ _ => szE_ord, ?_⟩
  have : (List.range 255).Pairwise (fun x y => x < y ∧ y < 255) := by
    refine List.Pairwise.imp_of_mem (fun {x y} hx hy h => ?_) List.pairwise_lt_range
    exact ⟨h, List.mem_range.mp hy⟩
  refine this.imp (fun {x y} h a ha b hb => ?_)
  refine Or.inl ?_
  rw [szE_imp ha, szE_imp hb]; omega
/-- an entry without its segment -/
def nog (e : Nat × Nat × Nat × Nat) : Nat × Nat × Nat × Nat := (pI e, pZ e, pT e, 0)
theorem rqE_eq {b N : Nat} {TG : List (Nat × List Sg)} {S : List Nat} (hV : VT b N TG) {P : List (Nat × Nat × Nat × Nat)} (hP : P.Pairwise pord) (hm : ∀ x, x ∈ P ↔ x ∈ allE TG (AsK (TG.map (fun q => q.1)) S) (AsK (TG.map (fun q => q.1)) S).length) : rqE TG S N 255 = P.map nog := by
  obtain ⟨v1, v2, v3, v4, v5, v6, v7, v8⟩ := hV
  have h2b : 2 ^ b ≤ 256 := Nat.pow_le_pow_right (n := 2) (by omega) v2
  refine sorted_uniq pord_irr pord_asy _ _ rqE_ord (by rw [List.pairwise_map]; exact hP) (fun e => ?_)
  rw [List.mem_map, mem_rqE]
  constructor
  · rintro ⟨i, z, u, h1, h2, h3, h4, h5, h6, h7, rfl⟩
    obtain ⟨hu1, hu2⟩ := mem_AsK.mp (isA_iff.mp h6)
    have ht : u < TG.length := by rwa [List.length_map] at hu1
    have hq : TG[u]? = some (TG.getD u (0, [])) := by rw [List.getD_eq_getElem?_getD, List.getElem?_eq_getElem ht]; rfl
    obtain ⟨-, -, hvs⟩ := v7 _ (List.mem_of_getElem? hq)
    have hz : z = (dsOf N (TG.getD u (0, [])).2 i).length := by
      rw [← h7]; unfold zF; rw [if_pos ⟨hu1, hu2⟩]
    by_cases w : ∃ s ∈ (TG.getD u (0, [])).2, s.1 = i
    · obtain ⟨s, hs, rfl⟩ := w
      rw [dsOf_mem hvs hs] at hz
      obtain ⟨j, hj, he⟩ := List.getElem_of_mem hs
      obtain ⟨c1, c2⟩ := cntA_get h6
      have hg : (TG.getD u (0, [])).2.getD j (0, []) = s := by rw [List.getD_eq_getElem?_getD (l := (TG.getD u (0, [])).2), List.getElem?_eq_getElem hj]; exact he
      refine ⟨(s.1, z, cntA TG S u, fsF TG u + j), (hm _).mpr ?_, rfl⟩
      unfold allE
      rw [List.mem_flatMap]
      refine ⟨cntA TG S u, List.mem_range.mpr c1, ?_⟩
      rw [c2]
      unfold enJ
      rw [List.mem_map]
      refine ⟨j, List.mem_range.mpr hj, ?_⟩
      rw [hg, ← hz]
    · rw [dsOf_not hvs h1 (fun s hs e => w ⟨s, hs, e⟩)] at hz
      exact absurd hz (by show ¬ z = 0; omega)
  · rintro ⟨x, hx, rfl⟩
    have hx := (hm x).mp hx
    unfold allE at hx
    rw [List.mem_flatMap] at hx
    obtain ⟨a, ha, hx⟩ := hx
    have ha := List.mem_range.mp ha
    unfold enJ at hx
    rw [List.mem_map] at hx
    obtain ⟨j, hj, rfl⟩ := hx
    have hj := List.mem_range.mp hj
    obtain ⟨c1, c2⟩ := cntA_at ha
    generalize hu : (AsK (TG.map (fun q => q.1)) S).getD a 0 = u at *
    obtain ⟨hu1, hu2⟩ := mem_AsK.mp (isA_iff.mp c1)
    have ht : u < TG.length := by rwa [List.length_map] at hu1
    have hq : TG[u]? = some (TG.getD u (0, [])) := by rw [List.getD_eq_getElem?_getD, List.getElem?_eq_getElem ht]; rfl
    obtain ⟨-, -, hvs⟩ := v7 _ (List.mem_of_getElem? hq)
    have hj' : j < (TG.getD u (0, [])).2.length := hj
    have hs : (TG.getD u (0, [])).2.getD j (0, []) ∈ (TG.getD u (0, [])).2 := by rw [List.getD_eq_getElem?_getD (l := (TG.getD u (0, [])).2), List.getElem?_eq_getElem hj']; exact List.getElem_mem _
    generalize (TG.getD u (0, [])).2.getD j (0, []) = s at *
    obtain ⟨s1, s2, s3, -⟩ := hvs.2.1 s hs
    have hle := hvs.cnt.2 s hs
    have hpos : 1 ≤ s.2.length := List.length_pos_iff.mpr s3
    refine ⟨s.1, s.2.length, u, s1, by omega, hpos, by omega, by omega, c1, ?_, ?_⟩
    · unfold zF
      rw [if_pos ⟨hu1, hu2⟩, dsOf_mem hvs hs]
    · show (s.1, s.2.length, a, 0) = _
      rw [c2]
theorem r_plans {sl b c N : Nat} {TG : List (Nat × List Sg)} {S : List Nat} {P : List (Nat × Nat × Nat × Nat)} {bits codec size words letter impact asked fresh gap pT' pI' pZ' : Nat → Int32} {sg po : Int32} {Φ : Int32 → Int32 → (Nat → Int32) → (Nat → Int32) → (Nat → Int32) → (Nat → Int32) → (Nat → Int32) → Prop}
    (hsl : sl < 5) (hR : RX sl b c N TG bits codec size words letter impact) (hV : VT b N TG) (hAs : AskR (TG.map (fun q => q.1)) S asked) (hP : P.Pairwise pord) (hm : ∀ x, x ∈ P ↔ x ∈ allE TG (AsK (TG.map (fun q => q.1)) S) (AsK (TG.map (fun q => q.1)) S).length) (hl : P.length ≤ 320)
    (hK : ∀ fresh gap pT' pI' pZ', R3 pT' pI' pZ' P → Φ (I P.length) (I (P.map pZ).sum) fresh gap pT' pI' pZ') :
    P_X9_plans (I (AsK (TG.map (fun q => q.1)) S).length) sg po asked fresh size impact gap pT' pI' pZ' (I sl) Φ := by
  have e := rqE_eq hV hP hm
  have hA : (AsK (TG.map (fun q => q.1)) S).length ≤ 64 := by
    have := AsK_le (TG.map (fun q => q.1)) S
    have h := hV.2.2.2.2.1
    rw [List.length_map] at this; omega
  have hT : ∀ Q : List (Nat × Nat × Nat × Nat), (Q.map nog).map pT = Q.map pT ∧ (Q.map nog).map pI = Q.map pI ∧ (Q.map nog).map pZ = Q.map pZ := fun Q => by
    rw [List.map_map, List.map_map, List.map_map]; exact ⟨rfl, rfl, rfl⟩
  unfold P_X9_plans
  by_cases w : (AsK (TG.map (fun q => q.1)) S).length = 0
  · refine ⟨1, ?_⟩
    have hp : P = [] := by
      rw [w] at hm
      match P with
      | [] => rfl
      | x :: t => exact absurd ((hm x).mp List.mem_cons_self) List.not_mem_nil
    subst hp
    unfold L_X9_plans_14
    rw [w, i_0, show (255 : Int32) = I 255 from rfl, I_le (by omega) (by omega), I_le (by omega) (by omega)]
    refine ⟨fun z => absurd z (by omega), fun _ => ⟨fun _ => ?_, fun z => absurd (Nat.le_refl _) z⟩⟩
    exact hK _ _ _ _ _ ⟨fun j hj => absurd hj (Nat.not_lt_zero _), fun j hj => absurd hj (Nat.not_lt_zero _), fun j hj => absurd hj (Nat.not_lt_zero _)⟩
  · refine ⟨255 + 1, ?_⟩
    have hlen : (rqE TG S N 255).length = P.length := by rw [e, List.length_map]
    have key := l_pl14 (L := (AsK (TG.map (fun q => q.1)) S).length) (K := fun segments_135 postingsAll_136 fresh_137 gap_138 planTerm_139 planImpact_140 planSize_141 => Φ segments_135 postingsAll_136 fresh_137 gap_138 planTerm_139 planImpact_140 planSize_141) (Φ := Φ) hsl hR hV hAs (by omega) ⟨by omega, by omega⟩ (fun fresh gap a b c hr => by
      have hr' : R3 a b c P := by
        unfold R3 at hr ⊢
        rw [e, (hT P).1, (hT P).2.1, (hT P).2.2] at hr
        exact hr
      have k2 := hK fresh gap a b c hr'
      rw [e, List.length_map, (hT P).2.2]
      exact k2) 255 0 fresh gap pT' pI' pZ' (by omega) (by omega) ⟨fun j hj => absurd hj (Nat.not_lt_zero _), fun j hj => absurd hj (Nat.not_lt_zero _), fun j hj => absurd hj (Nat.not_lt_zero _)⟩
    exact key
/-- what the reference's rows hold for the entries -/
theorem rwe_all {b N : Nat} {TG : List (Nat × List Sg)} {S : List Nat} {P : List (Nat × Nat × Nat × Nat)} {pT' pI' pZ' : Nat → Int32} (hV : VT b N TG) (hm : ∀ x, x ∈ P ↔ x ∈ allE TG (AsK (TG.map (fun q => q.1)) S) (AsK (TG.map (fun q => q.1)) S).length) (hR : R3 pT' pI' pZ' P) (i : Nat) (hi : i < P.length) : RWE TG S pT' pI' pZ' i ((sgP TG P).getD i (0, [])) := by
  have hV' := hV
  obtain ⟨v1, v2, v3, v4, v5, v6, v7, v8⟩ := hV
  obtain ⟨x, hx⟩ : ∃ x, P.getD i (0, 0, 0, 0) = x := ⟨_, rfl⟩
  have hxm : x ∈ P := by rw [← hx, List.getD_eq_getElem?_getD, List.getElem?_eq_getElem hi]; exact List.getElem_mem _
  have hA : ∀ t ∈ AsK (TG.map (fun q => q.1)) S, t < TG.length := fun t ht => by have := (mem_AsK.mp ht).1; rwa [List.length_map] at this
  have hsg : (sgP TG P).getD i (0, []) = (SLt TG).getD (pG x) (0, []) := by
    unfold sgP
    rw [← hx, List.getD_eq_getElem?_getD (l := P.map _), List.getElem?_map, List.getD_eq_getElem?_getD (l := P), List.getElem?_eq_getElem hi]; rfl
  have hAl := AsK_le (TG.map (fun q => q.1)) S
  rw [List.length_map] at hAl
  have hxe := (hm x).mp hxm
  obtain ⟨s, s1, s2, s3, -⟩ := allE_sg hV' hA (Nat.le_refl _) hxe
  have hs : (SLt TG).getD (pG x) (0, []) = s := by rw [List.getD_eq_getElem?_getD (l := SLt TG), s1]; rfl
  rw [hsg, hs]
  unfold allE at hxe
  rw [List.mem_flatMap] at hxe
  obtain ⟨a, ha, hxe⟩ := hxe
  have ha := List.mem_range.mp ha
  unfold enJ at hxe
  rw [List.mem_map] at hxe
  obtain ⟨j, hj, he⟩ := hxe
  have hj := List.mem_range.mp hj
  have ht := hA _ (getD_mem (ds := AsK (TG.map (fun q => q.1)) S) (i := a) (by omega))
  have hq : TG[(AsK (TG.map (fun q => q.1)) S).getD a 0]? = some (TG.getD ((AsK (TG.map (fun q => q.1)) S).getD a 0) (0, [])) := by rw [List.getD_eq_getElem?_getD (l := TG), List.getElem?_eq_getElem ht]; rfl
  have hj' : j < (TG.getD ((AsK (TG.map (fun q => q.1)) S).getD a 0) (0, [])).2.length := hj
  have hsj : (TG.getD ((AsK (TG.map (fun q => q.1)) S).getD a 0) (0, [])).2[j]? = some s := by
    have f := flat_get (g := fun q : Nat × List Sg => q.2) hq hj'
    have hpg : pG x = fsF TG ((AsK (TG.map (fun q => q.1)) S).getD a 0) + j := by rw [← he]; rfl
    rw [hpg] at s1
    exact f.symm.trans s1
  have hpt : pT x = a := by rw [← he]; rfl
  have r1 := hR.1 i (by rw [List.length_map]; exact hi)
  have r2 := hR.2.1 i (by rw [List.length_map]; exact hi)
  have r3 := hR.2.2 i (by rw [List.length_map]; exact hi)
  rw [mget rfl, hx] at r1 r2 r3
  refine ⟨a, _, by omega, ha, hq, List.mem_of_getElem? hsj, by rw [r1, hpt], by rw [r2, s2], by rw [r3, s3]⟩
