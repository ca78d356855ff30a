
/-! query: the reference, all of it -/
/-- the terms of a generation: the first has none -/
def TGq (C : Nat → Nat × Ix) (g : Nat) : List (Nat × List Sg) := if g = 0 then [] else (C g).2.2.2
theorem r_query {lat : Nat} {num : Nat → Nat} {kp : Nat → Bool} {gn : Nat → Nat} {hl : Nat → Option Nat} {C : Nat → Nat × Ix} {bs : List Nat} {P : List (Nat × Nat × Nat × Nat)} {k q : Nat} {f : Nat → Nat} {hs : List Nat}
    {th at' te sg dn pd pa wy hits l1 l2 l3 : Int32} {clk dl : Int64} {holds fresh tape word words letter asked size impact gap pT' pI' pZ' sums hit kept generation bits codec : Nat → Int32}
    {Φ : Int32 → Int32 → Int32 → Int32 → Int64 → Int32 → Int32 → Int32 → Int32 → Int32 → Int32 → Int32 → (Nat → Int32) → (Nat → Int32) → (Nat → Int32) → (Nat → Int32) → (Nat → Int32) → (Nat → Int32) → (Nat → Int32) → (Nat → Int32) → (Nat → Int32) → Prop}
    (hG : GI lat num kp gn hl) (hK : KK kp gn kept generation) (hH : HH hl holds)
    (hC : ∀ s, s < 4 → kp s = true → RX s (C (gn s)).2.1 (C (gn s)).1 (C (gn s)).2.2.1 (C (gn s)).2.2.2 bits codec size words letter impact ∧ VX (C (gn s)).2)
    (hb : Row tape bs) (hy : byt bs) (hn : bs.length ≤ 3000)
    (hSO : ∀ r g m, r < 4 → l1 = I r → 1 ≤ m → m ≤ 40 → l2 = I m → ¬ l3 < I 0 → hl r = some g → (AA (TGq C g) bs).length ≤ 8 → SO (TGq C g) (AA (TGq C g) bs) l3 clk dl P k q f hs)
    (hXA : ((∀ r, r < 4 → l1 ≠ I r) ∨ (∀ m, 1 ≤ m → m ≤ 40 → l2 ≠ I m) ∨ l3 < I 0 ∨ ∃ r g, r < 4 ∧ l1 = I r ∧ hl r = some g ∧ 8 < (AA (TGq C g) bs).length) → ∀ at' fresh word, Φ (I 0) (I 1) (I 0) at' clk te sg dn pd pa wy hits fresh word asked gap pT' pI' pZ' sums hit)
    (hXS : ∀ r m, r < 4 → l1 = I r → 1 ≤ m → m ≤ 40 → l2 = I m → ¬ l3 < I 0 → hl r = none → ∀ at' fresh word, Φ (I 0) (I 2) (I 0) at' clk te sg dn pd pa wy hits fresh word asked gap pT' pI' pZ' sums hit)
    (h : ∀ r g m, r < 4 → l1 = I r → 1 ≤ m → m ≤ 40 → l2 = I m → ¬ l3 < I 0 → hl r = some g → (AA (TGq C g) bs).length ≤ 8 → ∀ at' fresh word asked gap pT' pI' pZ' sums hit, R3 pT' pI' pZ' P → (∀ d, d < 40 → sums d = I (f d)) → Row hit (hs.take m) →
      Φ (I (min hs.length m)) (I 0) (I 0) at' (clk + (I q).toInt64) (I (AA (TGq C g) bs).length) (I P.length) (I k) (I q) (I (P.map pZ).sum) (whyO P.length k q l3) (I (min hs.length m)) fresh word asked gap pT' pI' pZ' sums hit) :
    P_X9_query th (I bs.length) at' clk te sg dn pd pa wy hits holds fresh tape word words letter asked size impact gap pT' pI' pZ' sums hit kept generation l1 l2 l3 dl Φ := by
  have n10 : ¬ (I 1 = I 0) := by rw [I_eq (by omega) (by omega)]; omega
  obtain ⟨g1, g2, g3, g4, g5, g6, g7, g8, g9⟩ := id hG
  have bad : ((∀ r, r < 4 → l1 ≠ I r) ∨ (∀ m, 1 ≤ m → m ≤ 40 → l2 ≠ I m) ∨ l3 < I 0 ∨ ∃ r g, r < 4 ∧ l1 = I r ∧ hl r = some g ∧ 8 < (AA (TGq C g) bs).length) → J_X9_query_35 th (I 0) at' clk te sg dn pd pa wy hits holds fresh tape word words letter asked size impact gap pT' pI' pZ' sums hit kept generation l1 l2 l3 dl (I bs.length) Φ := fun w => by
    unfold J_X9_query_35 J_X9_query_40
    rw [i_1]
    exact r_fails1 ⟨fun z => absurd z n10, fun _ => hXA w _ _ _⟩
  unfold P_X9_query
  rw [i_0]
  refine r_noReader (fun hno => ⟨fun _ => bad (Or.inl hno), fun z => absurd z n10⟩) (fun r hr e => ⟨fun z => absurd rfl z, fun _ => ?_⟩)
  rw [show (1 : Int64) = J 1 from rfl, show (40 : Int64) = J 40 from rfl]
  refine r_withinS (by omega) (by omega) (fun m m1 m2 e2 => ⟨fun z => absurd z n10, fun _ => ?_⟩) (fun hno => ⟨fun _ => bad (Or.inr (Or.inl hno)), fun z => absurd rfl z⟩)
  refine ⟨fun w => ?_, fun w => bad (Or.inr (Or.inr (Or.inl (Int32.not_le.mp w))))⟩
  have w3 : ¬ l3 < I 0 := Int32.not_lt.mpr w
  unfold J_X9_query_40
  refine r_fails0 ⟨fun _ => ?_, fun z => absurd rfl z⟩
  obtain ⟨e1, h2⟩ := hH r hr
  have ecl : holds l1.toNatClampNeg = hv (hl r) := by rw [e, I_cl (by omega)]; exact e1
  have ein : vp_in l1 4 := by rw [e, I_in (by omega)]; exact hr
  have hge : (0 ≤ holds l1.toNatClampNeg) = (hl r ≠ none) := by rw [ecl]; exact hv_ge0 h2
  have hlt : (holds l1.toNatClampNeg < 0) = (hl r = none) := by rw [ecl]; exact hv_lt0 h2
  refine ⟨ein, fun v => ?_, fun v => ?_⟩
  · have v' : hl r ≠ none := by rw [← hge]; exact v
    obtain ⟨g, hg⟩ : ∃ g, hl r = some g := by
      cases x : hl r with
      | none => exact absurd x v'
      | some g => exact ⟨g, rfl⟩
    have hgl := h2 g hg
    have ecg : holds l1.toNatClampNeg = I g := by rw [ecl, hg]; rfl
    have go : ∀ s0, SlW s0 ((TGq C g).map (fun q => q.1)) words letter → ((TGq C g).map (fun q => q.1)).Nodup → ((TGq C g).map (fun q => q.1)).length ≤ 64 → (∀ w ∈ (TGq C g).map (fun q => q.1), w < 18446744073709551616) → (TGq C g = [] ∨ ∃ sl b c N, sl < 5 ∧ s0 = I sl ∧ RX sl b c N (TGq C g) bits codec size words letter impact ∧ VT b N (TGq C g)) → J_X9_query_72 (I 0) (I 0) at' clk te sg dn pd pa wy hits holds fresh tape word words letter asked size impact gap pT' pI' pZ' sums hit kept generation l1 l2 l3 dl (I bs.length) s0 Φ := by
      intro s0 hS hTn h64 hTo hor
      have hAl : (AsK ((TGq C g).map (fun q => q.1)) (stems bs)).length ≤ 64 := Nat.le_trans (AsK_le _ _) h64
      unfold J_X9_query_72
      refine ⟨ein, fun z => absurd (by rw [← hlt]; exact z) v', fun _ => ?_⟩
      refine r_countAsked hb hy hn hTn h64 hTo hS (fun a fresh word _ => ?_)
      show (I _ ≤ 8 → _) ∧ _
      rw [i_8, I_le (by omega) (by omega)]
      refine ⟨fun y => ?_, fun y => ?_⟩
      · unfold J_X9_query_102
        rw [i_0]
        refine r_fails0 ⟨fun z => absurd rfl z, fun _ => ?_⟩
        unfold J_X9_query_109
        refine ⟨ein, fun _ => ?_, fun z => absurd v z⟩
        unfold J_X9_query_124
        rw [i_0]
        refine r_fails0 ⟨fun _ => ?_, fun z => absurd rfl z⟩
        refine r_asks hb hy hn hTn h64 hTo hS (fun a asked word hAs => ?_)
        rw [e2]
        refine r_qtail (TG := TGq C g) (bs := bs) hor hAs m2 (hSO r g m hr e m1 m2 e2 w3 hg y) y (fun fresh gap pT' pI' pZ' sums hit q1 q2 q3 => ?_)
        exact h r g m hr e m1 m2 e2 w3 hg y _ _ _ _ _ _ _ _ _ _ q1 q2 q3
      · unfold J_X9_query_102
        rw [i_1]
        exact r_fails1 ⟨fun _ => hXA (Or.inr (Or.inr (Or.inr ⟨r, g, hr, e, hg, Nat.not_le.mp y⟩))) _ _ _, fun z => absurd z n10⟩
    refine ⟨ein, ?_⟩
    rw [ecg]
    refine r_slotOf hK (by omega) (fun s hs hks hgs => ?_) (fun hno => ?_)
    · have hg0 : g ≠ 0 := by rw [← hgs]; exact (g3 s hs hks).1
      obtain ⟨hR, hVX⟩ := hC s hs hks
      rw [hgs] at hR hVX
      have eT : TGq C g = (C g).2.2.2 := by unfold TGq; rw [if_neg hg0]
      rw [← eT] at hR
      have hV : VT (C g).2.1 (C g).2.2.1 (TGq C g) := by rw [eT]; exact hVX.1
      have hVc := hV
      obtain ⟨v1, v2, v3, v4, v5, v6, v7, v8⟩ := hVc
      refine go (I s) (Or.inr ⟨s, by omega, rfl, by rw [List.length_map]; exact hR.2.2.2.1, hR.2.2.2.2.1⟩) v6.nodup (by rw [List.length_map]; exact v5) (fun w hw => ?_) (Or.inr ⟨s, _, _, _, by omega, rfl, hR, hV⟩)
      rw [List.mem_map] at hw
      obtain ⟨x, hx, rfl⟩ := hw
      have := (v7 x hx).1.lt
      omega
    · have hg0 : g = 0 := Classical.byContradiction fun x => by
        obtain ⟨p, p1, p2⟩ := g7 g ⟨r, hr, hg⟩ x
        obtain ⟨s, s1, s2, s3⟩ := g4 p p1 (by rw [p2]; exact x)
        exact hno s s1 s2 (by rw [s3, p2])
      have eT : TGq C g = [] := by unfold TGq; rw [if_pos hg0]
      refine go (-1) ?_ ?_ ?_ ?_ (Or.inl eT)
      · rw [eT]; exact Or.inl ⟨rfl, rfl⟩
      · rw [eT]; exact List.nodup_nil
      · rw [eT]; exact Nat.zero_le _
      · rw [eT]; intro w hw; cases hw
  · have v' : hl r = none := Classical.byContradiction fun x => v (by rw [hge]; exact x)
    unfold J_X9_query_72
    refine ⟨ein, fun _ => ?_, fun z => absurd (by rw [hlt]; exact v') z⟩
    unfold J_X9_query_109
    refine ⟨ein, fun z => absurd z v, fun _ => ?_⟩
    unfold J_X9_query_124
    rw [i_1, i_2]
    exact r_fails1 ⟨fun z => absurd z n10, fun _ => hXS r m hr e m1 m2 e2 w3 v' _ _ _⟩
