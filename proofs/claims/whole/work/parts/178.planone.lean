
/-! the class's plan: one segment -/
theorem CA.sgm {TG : List (Nat × List Sg)} {tm : Nat → Int64} {fs im fp doc : Nat → Int32} (h : CA TG tm fs im fp doc) {g : Nat} {s : Sg} (hg : (SLt TG)[g]? = some s) :
    g < (SLt TG).length ∧ im g = I s.1 ∧ fp g = I (fpF (SLt TG) g) ∧ fp (g + 1) = I (fpF (SLt TG) g + s.2.length) ∧ (∀ j, j < s.2.length → doc (fpF (SLt TG) g + j) = I (s.2.getD j 0)) ∧ fpF (SLt TG) g + s.2.length ≤ (PL (SLt TG)).length := by
  obtain ⟨a1, a2, a3, a4, a5⟩ := h
  have hl : g < (SLt TG).length := Classical.byContradiction fun z => by rw [List.getElem?_eq_none (by omega)] at hg; simp at hg
  have e : fpF (SLt TG) (g + 1) = fpF (SLt TG) g + s.2.length := by
    have := congrArg List.length (flat_take (g := fun s : Sg => s.2) hg)
    rw [List.length_append] at this
    exact this
  have hle : fpF (SLt TG) (g + 1) ≤ (PL (SLt TG)).length := flat_take_le (SLt TG) (fun s : Sg => s.2) (g + 1)
  refine ⟨hl, ?_, a4 g (by omega), ?_, fun j hj => ?_, by omega⟩
  · rw [a3 g (by rw [List.length_map]; exact hl), List.getD_eq_getElem?_getD, List.getElem?_map, hg]; rfl
  · rw [a4 (g + 1) (by omega), e]
  · have := flat_get (g := fun s : Sg => s.2) hg hj
    have e2 : (PL (SLt TG))[fpF (SLt TG) g + j]? = s.2[j]? := this
    rw [a5 (fpF (SLt TG) g + j) (by omega), List.getD_eq_getElem?_getD, e2, ← List.getD_eq_getElem?_getD]
theorem l_plan185 {a g f0 imp : Nat} {ds : List Nat} {F : Nat → Nat} {sg po : Int32} {im fp pa pb pc' pd doc : Nat → Int32} {K Φ : Int32 → Int32 → (Nat → Int32) → (Nat → Int32) → (Nat → Int32) → (Nat → Int32) → (Nat → Int32) → Prop}
    (ha : a < 8) (hg : g < 600) (h1 : fp (g + 1) = I (f0 + ds.length)) (hf : f0 + ds.length ≤ 600) (hd : ∀ j, j < ds.length → doc (f0 + j) = I (ds.getD j 0)) (hds : ∀ d ∈ ds, d < 40)
    (hK : ∀ io, (∀ c, c < 320 → io c = I (if c / 40 = a ∧ c % 40 ∈ ds then imp else F c)) → K sg po pa pb pc' pd io) :
    ∀ k j io, ds.length ≤ j + k → j ≤ ds.length → (∀ c, c < 320 → io c = I (if c / 40 = a ∧ c % 40 ∈ ds.take j then imp else F c)) → L_X6_planOne_185 (k + 1) sg po im fp pa pb pc' pd doc io (I a) (I g) (I imp) (I (f0 + j)) K Φ := by
  have fin : ∀ j io, ds.length ≤ j → (∀ c, c < 320 → io c = I (if c / 40 = a ∧ c % 40 ∈ ds.take j then imp else F c)) → K sg po pa pb pc' pd io := fun j io q r => hK io (by rwa [List.take_of_length_le q] at r)
  intro k
  induction k with
  | zero =>
    intro j io q1 q2 q3
    unfold L_X6_planOne_185
    rw [i_1, I_add, I_in (by omega), I_cl (by omega), h1, I_le (by omega) (by omega)]
    exact ⟨by omega, fun z => fin j io (by omega) q3, fun z => absurd (by omega) z⟩
  | succ k ih =>
    intro j io q1 q2 q3
    unfold L_X6_planOne_185
    rw [i_1, I_add, I_in (by omega), I_cl (by omega), h1, I_le (by omega) (by omega)]
    refine ⟨by omega, fun z => fin j io (by omega) q3, fun z => ?_⟩
    have hm := hds _ (getD_mem (ds := ds) (i := j) (by omega))
    rw [I_in (by omega), I_cl (by omega), hd j (by omega), i_40, I_mul, I_add, I_in (by omega), I_cl (by omega), I_add]
    refine ⟨by omega, by omega, ih (j + 1) _ (by omega) (by omega) (fun c hc => ?_)⟩
    unfold upd
    rw [take_succ_getD (by omega)]
    by_cases e : c = a * 40 + ds.getD j 0
    · rw [if_pos e, if_pos ⟨by omega, by rw [List.mem_append, List.mem_singleton]; right; omega⟩]
    · rw [if_neg e, q3 c hc]
      by_cases w : c / 40 = a ∧ c % 40 ∈ ds.take j
      · rw [if_pos w, if_pos ⟨w.1, List.mem_append.mpr (Or.inl w.2)⟩]
      · rw [if_neg w, if_neg (fun y => by
          rcases List.mem_append.mp y.2 with u | u
          · exact w ⟨y.1, u⟩
          · rw [List.mem_singleton] at u
            have := y.1
            omega)]
theorem s_planOne {TG : List (Nat × List Sg)} {tm : Nat → Int64} {fs im fp doc : Nat → Int32} {P : List (Nat × Nat × Nat × Nat)} {F : Nat → Nat} {a g po : Nat} {s : Sg} {pa pb pc' pd io : Nat → Int32} {Φ : Int32 → Int32 → (Nat → Int32) → (Nat → Int32) → (Nat → Int32) → (Nat → Int32) → (Nat → Int32) → Prop}
    (hA : CA TG tm fs im fp doc) (hg : (SLt TG)[g]? = some s) (hsl : (SLt TG).length ≤ 600) (hpl : (PL (SLt TG)).length ≤ 600) (hs1 : s.1 < 256) (hs2 : s.2.length < 256) (hds : ∀ d ∈ s.2, d < 40) (ha : a < 8) (hP : P.length < 320) (hb : ∀ e ∈ P, pI e < 256 ∧ pZ e < 256) (hpo : po < 100000)
    (hR : R4 pa pb pc' pd P) (hio : ∀ c, c < 320 → io c = I (F c)) (hpd : P.Pairwise pord) (hnew : ∀ x ∈ P, pT x < a ∨ (pT x = a ∧ s.1 < pI x))
    (h : ∀ P' pa pb pc' pd io, P'.Pairwise pord → (∀ x, x ∈ P' ↔ x = (s.1, s.2.length, a, g) ∨ x ∈ P) → P'.length = P.length + 1 → R4 pa pb pc' pd P' → (∀ c, c < 320 → io c = I (if c / 40 = a ∧ c % 40 ∈ s.2 then s.1 else F c)) → Φ (I (P.length + 1)) (I (po + s.2.length)) pa pb pc' pd io) :
    P_X6_planOne (I P.length) (I po) im fp pa pb pc' pd doc io (I a) (I g) Φ := by
  obtain ⟨g1, g2, g3, g4, g5, g6⟩ := hA.sgm hg
  unfold P_X6_planOne
  rw [show (320 : Int32) = I 320 from rfl, I_lt (by omega) (by omega), I_in (by omega), I_cl (by omega), g2]
  refine ⟨fun _ => ⟨by omega, ?_⟩, fun z => absurd hP z⟩
  refine s_size (by omega) g3 g4 ⟨P.length + 1, ?_⟩
  have h4 : H4 pa pb pc' pd P P.length := by
    obtain ⟨a1, a2, a3, a4⟩ := hR
    have s1 := HoleR.start a1
    have s2 := HoleR.start a2
    have s3 := HoleR.start a3
    have s4 := HoleR.start a4
    rw [List.length_map] at s1 s2 s3 s4
    exact ⟨s1, s2, s3, s4⟩
  refine l_plan32 hP hb hs1 hs2 (fun p xa xb xc xd p1 p2 p3 p4 => ?_) P.length P.length pa pb pc' pd (Nat.le_refl _) (Nat.le_refl _) h4 (fun j q1 q2 => by omega)
  unfold J_X6_planOne_122
  rw [I_in (by omega), I_in (by omega), I_cl (by omega), I_cl (by omega), g3, i_1, I_add, I_add]
  refine ⟨by omega, by omega, by omega, by omega, by omega, s.2.length + 1, ?_⟩
  have hf := p2.fill p1 (s.1, s.2.length, a, g)
  have hlen : (P.take p ++ (s.1, s.2.length, a, g) :: P.drop p).length = P.length + 1 := by rw [List.length_append, List.length_cons, List.length_take, List.length_drop]; omega
  have hmem : ∀ x, x ∈ P.take p ++ (s.1, s.2.length, a, g) :: P.drop p ↔ x = (s.1, s.2.length, a, g) ∨ x ∈ P := fun x => by
    have e : x ∈ P ↔ x ∈ P.take p ∨ x ∈ P.drop p := by rw [← List.mem_append, List.take_append_drop]
    rw [List.mem_append, List.mem_cons, e]
    constructor
    · rintro (q | q | q)
      · exact Or.inr (Or.inl q)
      · exact Or.inl q
      · exact Or.inr (Or.inr q)
    · rintro (q | q | q)
      · exact Or.inr (Or.inl q)
      · exact Or.inl q
      · exact Or.inr (Or.inr q)
  have key := l_plan185 (a := a) (g := g) (imp := s.1) (ds := s.2) (F := F) (sg := I (P.length + 1)) (po := I (po + s.2.length)) (im := im) (fp := fp) (pa := upd xa p (I s.1)) (pb := upd xb p (I s.2.length)) (pc' := upd xc p (I a)) (pd := upd xd p (I g)) (doc := doc) (K := fun segments_34 postings_35 planImpact_36 planSize_37 planTerm_38 planSegment_39 impactOf_40 => Φ segments_34 postings_35 planImpact_36 planSize_37 planTerm_38 planSegment_39 impactOf_40) (Φ := Φ) ha (by omega) g4 (by omega) g5 hds (fun io' hi => h _ _ _ _ _ io' (pord_ins (e := (s.1, s.2.length, a, g)) hpd p1 hnew p3 p4) hmem hlen hf hi) s.2.length 0 io (by omega) (by omega) (fun c hc => by rw [hio c hc, if_neg (fun q => by have := q.2; simp at this)])
  exact key
