
/-! query: the class -/
/-- what a search works out -/
def SO (TG : List (Nat × List Sg)) (A : List Nat) (bud : Int32) (clk dl : Int64) (P : List (Nat × Nat × Nat × Nat)) (k q : Nat) (f : Nat → Nat) (hs : List Nat) : Prop :=
  P.Pairwise pord ∧ (∀ x, x ∈ P ↔ x ∈ allE TG A A.length) ∧ P.length = (allE TG A A.length).length ∧ wrun (sgP TG P) bud clk dl P.length 0 0 (fun _ => 0) = (k, q, f) ∧ k ≤ P.length ∧ q ≤ 40 * k ∧ (∀ d, f d ≤ 256 * k) ∧ HO f 40 hs
def AA (TG : List (Nat × List Sg)) (bs : List Nat) : List Nat := AsK (TG.map (fun q => q.1)) (stems bs)
theorem AA_lt {TG : List (Nat × List Sg)} {bs : List Nat} {t : Nat} (ht : t ∈ AA TG bs) : t < TG.length := by
  have := (mem_AsK.mp ht).1
  rwa [List.length_map] at this
theorem s_query {num : Nat → Nat} {d0 : Nat → Nat} {hix : Nat} {hl : Nat → Option Nat} {hk : Nat → Nat} {number held : Nat → Int32} {kept : Nat → Option Nat} {bs : List Nat} {TG : List (Nat × List Sg)} {b N : Nat}
    {row im fs fp doc picked io pa pb pc' pd sums hit wti : Nat → Int32} {wtm term : Nat → Int64} {wd wt pk te sg dn dp po wy hits l1 l2 l3 : Int32} {clk dl : Int64}
    {Φ : Int32 → Int64 → Int32 → Int32 → Int32 → (Nat → Int64) → (Nat → Int32) → Int32 → Int32 → Int32 → Int32 → Int32 → Int32 → Int32 → Int32 → (Nat → Int32) → (Nat → Int32) → (Nat → Int32) → (Nat → Int32) → (Nat → Int32) → (Nat → Int32) → (Nat → Int32) → (Nat → Int32) → Prop}
    {X : String → Int64 → Int32 → Int32 → Int32 → (Nat → Int64) → (Nat → Int32) → Int32 → Int32 → Int32 → Int32 → Int32 → Int32 → Int32 → Int32 → (Nat → Int32) → (Nat → Int32) → (Nat → Int32) → (Nat → Int32) → (Nat → Int32) → (Nat → Int32) → (Nat → Int32) → (Nat → Int32) → Prop}
    (hN : NN num number) (hH : HH hl held) (hkp : ∀ p, p < 3 → kept p = some (hk p)) (hb : BRow row bs) (hy : byt bs) (hn : bs.length ≤ 3000)
    (hA : ∀ r g, r < 4 → l1 = I r → hl r = some g → CA TG term fs im fp doc) (hV : VT b N TG)
    (hx : ∀ r g, r < 4 → l1 = I r → hl r = some g → (∀ p, p < 3 → num p ≠ 0 → num p = g → hk p = hix) ∧ ((∀ p, p < 3 → num p ≠ 0 → num p ≠ g) → d0 2 = hix))
    (hXA : ((∀ r, r < 4 → l1 ≠ I r) ∨ (∀ m, 1 ≤ m → m ≤ 40 → l2 ≠ I m) ∨ l3 < I 0 ∨ ∃ r g, r < 4 ∧ l1 = I r ∧ hl r = some g ∧ 8 < (AA TG bs).length) → ∀ wd wt wtm wti pk picked, X eIA clk wd wt (I 0) wtm wti pk te sg dn dp po wy hits picked io pa pb pc' pd sums hit)
    (hXS : ∀ r m, r < 4 → l1 = I r → 1 ≤ m → m ≤ 40 → l2 = I m → ¬ l3 < I 0 → hl r = none → ∀ wd wt wtm wti pk picked, X eIS clk wd wt (I 0) wtm wti pk te sg dn dp po wy hits picked io pa pb pc' pd sums hit)
    (h : ∀ r g m, r < 4 → l1 = I r → 1 ≤ m → m ≤ 40 → l2 = I m → ¬ l3 < I 0 → hl r = some g → (AA TG bs).length ≤ 8 → ∀ wd wt wtm wti pk picked P k q f hs pa pb pc' pd io sums hit, SO TG (AA TG bs) l3 clk dl P k q f hs → R4 pa pb pc' pd P → (∀ c, c < 320 → io c = I (ioF TG (AA TG bs) (AA TG bs).length c)) → (∀ d, d < 40 → sums d = I (f d)) → Row hit hs →
      Φ (I (min hs.length m)) (clk + (I q).toInt64) wd wt (I 0) wtm wti pk (I (AA TG bs).length) (I P.length) (I k) (I q) (I ((allE TG (AA TG bs) (AA TG bs).length).map pZ).sum) (whyO P.length k q l3) (I (min hs.length m)) picked io pa pb pc' pd sums hit) :
    P_X8_query d0 hix clk wd wt (I bs.length) row wtm wti held number kept (I TG.length) term pk te sg dn dp po wy hits picked io fs im fp pa pb pc' pd doc sums hit l1 l2 l3 dl Φ X := by
  unfold P_X8_query
  refine s_readTape hb hy hn (fun ds tm ti hW => ?_)
  refine s_requireReader (fun q => hXA (Or.inl q) _ _ _ _ _ _) (fun r hr e => ?_)
  subst e
  rw [i_1, i_40]
  refine ⟨fun z => hXA (Or.inr (Or.inl (fun m m1 m2 e => ?_))) _ _ _ _ _ _, fun z => ⟨fun y => hXA (Or.inr (Or.inl (fun m m1 m2 e => ?_))) _ _ _ _ _ _, fun y => ?_⟩⟩
  · subst e; rw [I_lt (by omega) (by omega)] at z; omega
  · subst e; rw [I_lt (by omega) (by omega)] at y; omega
  obtain ⟨m, m1, m2, rfl⟩ := I_between (by omega) (by omega) z y
  rw [show (0 : Int32) = I 0 from rfl]
  refine ⟨fun w => ?_, fun w => hXA (Or.inr (Or.inr (Or.inl (Int32.not_le.mp w)))) _ _ _ _ _ _⟩
  have w3 : ¬ l3 < I 0 := Int32.not_lt.mpr w
  unfold P_X8_requireOpen
  obtain ⟨e1, e2⟩ := hH r hr
  rw [I_in (by omega), I_cl (by omega), e1, hv_m1 e2]
  refine ⟨hr, fun v => ?_, fun v => hXS r m hr rfl m1 m2 rfl w3 v _ _ _ _ _ _⟩
  obtain ⟨g, hg⟩ : ∃ g, hl r = some g := by
    cases q : hl r with
    | none => exact absurd q v
    | some g => exact ⟨g, rfl⟩
  obtain ⟨x1, x2⟩ := hx r g hr rfl hg
  have hA := hA r g hr rfl hg
  obtain ⟨v1, v2, v3, v4, v5, v6, v7, v8⟩ := id hV
  have hTl : (TG.map (fun q => q.1)).length = TG.length := List.length_map _
  have hAA : AsK (TG.map (fun q => q.1)) ds = AA TG bs := AsK_congr hW.2.1
  have hds : ds.length ≤ 1500 := by
    have := nodup_len hW.1 (fun w hw => (hW.2.1 w).mp hw)
    have := stems_len bs
    omega
  have fin : P_X6_pick (I TG.length) term (I ds.length) tm pk picked (fun r_7 search_pickedTerms_8 search_picked_9 => ((r_7 ≤ 8 → P_X6_run search_pickedTerms_8 te sg dn dp po wy hits io search_picked_9 fs im fp pa pb pc' pd doc sums hit (I m) l3 dl clk (fun search_terms_10 search_segments_11 search_doneSegments_12 search_donePostings_13 search_postings_14 search_why_15 search_hits_16 search_impactOf_17 search_planImpact_18 search_planSize_19 search_planTerm_20 search_planSegment_21 search_sums_22 search_hitDocument_23 => Φ search_hits_16 (clk + ((search_donePostings_13 : Int32).toInt64)) (I ds.length) (I (stems bs).length) (I 0) tm ti search_pickedTerms_8 search_terms_10 search_segments_11 search_doneSegments_12 search_donePostings_13 search_postings_14 search_why_15 search_hits_16 search_picked_9 search_impactOf_17 search_planImpact_18 search_planSize_19 search_planTerm_20 search_planSegment_21 search_sums_22 search_hitDocument_23)) ∧ (¬ r_7 ≤ 8 → X eIA clk (I ds.length) (I (stems bs).length) (I 0) tm ti search_pickedTerms_8 te sg dn dp po wy hits search_picked_9 io pa pb pc' pd sums hit))) := by
    rw [← hTl]
    refine s_pick hA.1 (by omega) (fun v hv => ?_) hW.2.2.1 (fun v hv => hW.2.2.2.2 v ((hW.2.1 v).mp hv)) hds (fun picked hp => ?_)
    · rw [List.mem_map] at hv
      obtain ⟨q, hq, rfl⟩ := hv
      exact (v7 q hq).1.lt
    · have hle := AsK_le (TG.map (fun q => q.1)) ds
      rw [hTl] at hle
      rw [hAA] at hp hle ⊢
      show (I _ ≤ 8 → _) ∧ _
      rw [i_8, I_le (by omega) (by omega)]
      refine ⟨fun u => ?_, fun u => hXA (Or.inr (Or.inr (Or.inr ⟨r, g, hr, rfl, hg, by omega⟩))) _ _ _ _ _ _⟩
      rw [Nat.min_eq_left u]
      rw [List.take_of_length_le u] at hp
      refine s_run hA hV (fun t ht => AA_lt ht) u hp m2 (fun P k q f hs pa pb pc' pd io sums hit p1 p2 p3 p4 p5 p6 p7 p8 p9 p10 p11 p12 => ?_)
      exact h r g m hr rfl m1 m2 rfl w3 hg u _ _ _ _ _ _ P k q f hs pa pb pc' pd io sums hit ⟨p1, p2, p3, p6, p7, p8, p10, p11⟩ p4 p5 p9 p12
  exact s_heldBy hN hH hkp hr hg (fun p p1 p2 p3 => ⟨x1 p p1 p2 p3, fin⟩) (fun q => ⟨x2 q, fin⟩)
