
/-! the reference tells of an index -/
theorem impOf_lt2 {b N : Nat} {segs : List Sg} (h : VS b N segs) (d : Nat) : impOf segs d < 2 ^ b := by
  by_cases z : impOf segs d = 0
  · rw [z]; exact Nat.two_pow_pos _
  · obtain ⟨s, s1, s2, s3⟩ := impOf_some (segs := segs) (d := d) (i := impOf segs d) (by omega) rfl
    rw [← s3]; exact (h.2.1 s s1).2.1
theorem VT.sl {b N : Nat} {TG : List (Nat × List Sg)} (hV : VT b N TG) : ∀ n, (SLt (TG.take n)).length ≤ 600 := by
  intro n
  have hne : ∀ s ∈ SLt TG, s.2 ≠ [] := fun s hs => by
    unfold SLt at hs
    rw [List.mem_flatMap] at hs
    obtain ⟨q, hq, hs⟩ := hs
    exact ((hV.2.2.2.2.2.2.1 q hq).2.2.2.1 s hs).2.2.1
  have a := PL_len_le _ hne
  have c := hV.2.2.2.2.2.2.2
  have e : SLt TG = SLt (TG.take n) ++ SLt (TG.drop n) := by
    unfold SLt
    rw [← List.flatMap_append, List.take_append_drop]
  have e2 := congrArg List.length e
  rw [List.length_append] at e2
  omega
theorem l_ixseg {s b c N : Nat} {TG : List (Nat × List Sg)} {bits codec size words letter impact holds kept generation : Nat → Int32} {th : Int32} {K : Int32 → (Nat → Int32) → Int32 → Prop} {Φ : Int32 → Int32 → (Nat → Int32) → Prop} (hs : s < 5) (hR : RX s b c N TG bits codec size words letter impact) (hV : VT b N TG)
    (hK : ∀ gap, K th gap (I (SLt TG).length)) :
    ∀ k i gap, TG.length ≤ i + k → i ≤ TG.length → L_X9_index_113 (k + 1) th holds kept generation size words impact gap (I s) (I (SLt (TG.take i)).length) (I i) K Φ := by
  have h64 : TG.length ≤ 64 := hV.2.2.2.2.1
  intro k
  induction k with
  | zero =>
    intro i gap h1 h2
    unfold L_X9_index_113
    rw [I_in (by omega), I_cl (by omega), hR.2.2.2.1, I_le (by omega) (by omega)]
    refine ⟨hs, fun z => ?_, fun z => absurd (by omega) z⟩
    rw [List.take_of_length_le z]; exact hK gap
  | succ k ih =>
    intro i gap h1 h2
    have hsl := hV.sl i
    unfold L_X9_index_113
    rw [I_in (by omega), I_cl (by omega), hR.2.2.2.1, I_le (by omega) (by omega)]
    refine ⟨hs, fun z => ?_, fun z => ?_⟩
    · rw [List.take_of_length_le z]; exact hK gap
    · have hq : TG[i]? = some (TG.getD i (0, [])) := by rw [List.getD_eq_getElem?_getD, List.getElem?_eq_getElem (by omega)]; rfl
      refine r_segsOf hs hR hV hq (fun gap' => ?_)
      rw [i_1, I_add, I_add]
      have key := ih (i + 1) gap' (by omega) (by omega)
      have e : TG.take (i + 1) = TG.take i ++ [TG.getD i (0, [])] := by rw [List.take_succ, hq]; rfl
      rw [e, SLt_app, List.length_append] at key
      exact key
theorem r_index {lat : Nat} {num : Nat → Nat} {kp : Nat → Bool} {gn : Nat → Nat} {hl : Nat → Option Nat} {th l1 l2 : Int32} {holds kept generation bits codec size words letter impact gap : Nat → Int32} {C : Nat → Nat × Ix} {Φ : Int32 → Int32 → (Nat → Int32) → Prop} (hG : GI lat num kp gn hl) (hK : KK kp gn kept generation) (hH : HH hl holds)
    (hC : ∀ s, s < 4 → kp s = true → RX s (C (gn s)).2.1 (C (gn s)).1 (C (gn s)).2.2.1 (C (gn s)).2.2.2 bits codec size words letter impact ∧ VX (C (gn s)).2)
    (hA : ((∀ r, r < 4 → l1 ≠ I r) ∨ ∀ n, n ≤ 3 → l2 ≠ I n) → Φ (I 0) (I 1) gap) (hS : ∀ r n, r < 4 → l1 = I r → n ≤ 3 → l2 = I n → hl r = none → Φ (I 0) (I 2) gap)
    (h0 : ∀ r n, r < 4 → l1 = I r → n ≤ 3 → l2 = I n → hl r = some 0 → Φ (I 0) (I 0) gap)
    (h : ∀ r n g gap', r < 4 → l1 = I r → n ≤ 3 → l2 = I n → hl r = some g → g ≠ 0 → Φ (I (if n = 0 then (C g).2.2.1 else if n = 1 then (C g).2.2.2.length else if n = 2 then (PL (SLt (C g).2.2.2)).length else (SLt (C g).2.2.2).length)) (I 0) gap') :
    P_X9_index th holds kept generation size words impact gap l1 l2 Φ := by
  have n10 : ¬ (I 1 = I 0) := by rw [I_eq (by omega) (by omega)]; omega
  obtain ⟨g1, g2, g3, g4, g5, g6, g7, g8, g9⟩ := id hG
  have bad : ((∀ r, r < 4 → l1 ≠ I r) ∨ ∀ n, n ≤ 3 → l2 ≠ I n) → J_X9_index_20 th holds kept generation size words impact gap l1 l2 Φ := fun q => by
    unfold J_X9_index_20 J_X9_index_25
    rw [i_1]
    exact r_fails1 ⟨fun _ => hA q, fun z => absurd z n10⟩
  unfold P_X9_index
  refine r_noReader (fun hn => ⟨fun _ => bad (Or.inl hn), fun z => absurd z n10⟩) (fun r hr e => ⟨fun z => absurd rfl z, fun _ => ?_⟩)
  rw [show (0 : Int64) = J 0 from rfl, show (3 : Int64) = J 3 from rfl]
  refine r_withinS (by omega) (by omega) (fun n _ n3 en => ⟨fun _ => ?_, fun z => absurd z n10⟩) (fun hno => ⟨fun z => absurd rfl z, fun _ => bad (Or.inr (fun n hn => hno n (by omega) hn))⟩)
  unfold J_X9_index_25
  rw [i_0]
  refine r_fails0 ⟨fun z => absurd rfl z, fun _ => ?_⟩
  obtain ⟨e1, e2⟩ := hH r hr
  have ecl : holds l1.toNatClampNeg = hv (hl r) := by rw [e, I_cl (by omega)]; exact e1
  have ein : vp_in l1 4 := by rw [e, I_in (by omega)]; exact hr
  rw [ecl, ← i_0, hv_ge0 e2]
  refine ⟨ein, fun w => ?_, fun w => ?_⟩
  · obtain ⟨g, hg⟩ : ∃ g, hl r = some g := by
      cases q : hl r with
      | none => exact absurd q w
      | some g => exact ⟨g, rfl⟩
    have hgl := e2 g hg
    have ecg : holds l1.toNatClampNeg = I g := by rw [ecl, hg]; rfl
    unfold J_X9_index_47
    rw [i_0, ecg]
    refine r_fails0 ⟨fun _ => ⟨ein, ?_⟩, fun z => absurd rfl z⟩
    refine r_slotOf hK (by omega) (fun s hs hks hgs => ?_) (fun hno => ⟨fun z => absurd z (by decide), fun _ => ?_⟩)
    · have hg0 : g ≠ 0 := by rw [← hgs]; exact (g3 s hs hks).1
      obtain ⟨hR, hVX⟩ := hC s hs hks
      rw [hgs] at hR hVX
      have hf : ∀ q ∈ (C g).2.2.2, ∀ d, impOf q.2 d < 2 ^ (C g).2.1 := fun q hq d => impOf_lt2 (hVX.1.2.2.2.2.2.2.1 q hq).2.2 d
      have hh := fun gap' => h r n g gap' hr e n3 en hg hg0
      rw [I_le (by omega) (by omega), i_1, i_2, I_in (by omega), I_cl (by omega), hR.2.2.1, hR.2.2.2.1, en, I_eq (by omega) (by omega), I_eq (by omega) (by omega), I_eq (by omega) (by omega)]
      refine ⟨fun _ => ⟨fun a => ⟨fun b => ⟨fun c => ⟨(C g).2.2.2.length + 1, ?_⟩, fun c => ?_⟩, fun b => ⟨by omega, ?_⟩⟩, fun a => ⟨by omega, ?_⟩⟩, fun z => absurd (Nat.zero_le _) z⟩
      · refine l_ixseg (by omega) hR hVX.1 (fun gap' => ?_) _ 0 gap (by omega) (by omega)
        have := hh gap'
        rw [if_neg a, if_neg b, if_neg c] at this
        exact this
      · refine r_postingsOf (by omega) hR hVX.1 hf ?_
        have := hh gap
        rw [if_neg a, if_neg b, if_pos c] at this
        exact this
      · have := hh gap
        rw [if_neg a, if_pos b] at this
        exact this
      · have := hh gap
        rw [if_pos a] at this
        exact this
    · refine h0 r n hr e n3 en ?_
      have : g = 0 := Classical.byContradiction fun q => by
        obtain ⟨p, p1, p2⟩ := g7 g ⟨r, hr, hg⟩ q
        obtain ⟨s, s1, s2, s3⟩ := g4 p p1 (by rw [p2]; exact q)
        exact hno s s1 s2 (by rw [s3, p2])
      rw [hg, this]
  · unfold J_X9_index_47
    rw [i_1, i_2]
    exact r_fails1 ⟨fun z => absurd z n10, fun _ => hS r n hr e n3 en (Classical.byContradiction fun q => w q)⟩
