
/-! a score that is asked for -/
def SV (D : List (List Nat)) (w d : Nat) : UInt64 := if cnt D w d = 0 then FP.dconst0 else sf D w d
theorem s_scoreOfTerm {D : List (List Nat)} {T : List Nat} {tm : Nat → Int64} {ind ti len : Nat → Int32} {w d : Nat} {Φ : UInt64 → Prop} (hV : VD D T) (hD : docsOK D) (hC : CT D T tm ind ti) (hL : LN D len) (hw : w < 9223372036854775808) (hd : d < D.length)
    (h : Φ (SV D w d)) : P_X1_scoreOfTerm (I D.length) (I T.length) (I (lens D)) tm ti ind len (J w) (I d) Φ := by
  obtain ⟨v1, v2, v3, v4, v5, v6, v7⟩ := hV
  have hb : ∀ v ∈ T, v < 9223372036854775808 := fun v hv => (v7 v hv).lt
  have hne : ∀ doc ∈ D, doc ≠ [] := fun doc hd => (v6 doc hd).1
  unfold P_X1_scoreOfTerm
  refine s_placeOf hC.1 hb hw v2 (fun p hp q1 q2 => ?_)
  refine s_hasAt v4 hC.1 hb hw v2 hp q1 q2 (fun hp2 e _ => ⟨fun z => ?_, fun _ => ?_⟩) (fun hn _ => ⟨fun _ => ?_, fun z => absurd rfl z⟩)
  · rw [i_0, I_eq (by omega) (by omega)] at z; omega
  · refine s_scoreOf hD hne hC hL v2 hp2 hd ?_
    rw [e]; exact h
  · unfold SV at h
    rwa [if_pos (cnt_zero (fun q => hn ((v5 w).mpr q)) d)] at h
theorem s_score8 {D : List (List Nat)} {T bs : List Nat} {tm : Nat → Int64} {ind ti len row wti : Nat → Int32} {wtm : Nat → Int64} {wd wt l1 : Int32} {Φ : UInt64 → Int32 → Int32 → Int32 → (Nat → Int64) → (Nat → Int32) → Prop} {X : String → Int32 → Int32 → Int32 → (Nat → Int64) → (Nat → Int32) → Prop}
    (hV : VD D T) (hD : docsOK D) (hC : CT D T tm ind ti) (hL : LN D len) (hb : BRow row bs) (hy : byt bs) (hn : bs.length ≤ 3000)
    (hA : (stems bs).length ≠ 1 → ∀ wd wt wtm wti, X eIA wd wt (I 0) wtm wti)
    (hN : (stems bs).length = 1 → (∀ d, d < D.length → l1 ≠ I d) → ∀ wd wt wtm wti, X eNS wd wt (I 0) wtm wti)
    (hok : ∀ w d, stems bs = [w] → d < D.length → l1 = I d → ∀ wd wt wtm wti, Φ (SV D w d) wd wt (I 0) wtm wti) :
    P_X8_score wd wt (I bs.length) row wtm wti (I D.length) (I T.length) (I (lens D)) tm ti ind len l1 Φ X := by
  have h40 := hD.1
  have hsl := stems_len bs
  unfold P_X8_score
  refine s_readTape hb hy hn (fun ds tm' ti' hW => ?_)
  rw [i_1, I_eq (by omega) (by omega)]
  refine ⟨fun z => ⟨fun y => hN z (fun d hd e => ?_) _ _ _ _, fun y => ⟨fun x => ?_, fun x => hN z (fun d hd e => ?_) _ _ _ _⟩⟩, fun z => hA z _ _ _ _⟩
  · subst e; rw [i_0, I_lt (by omega) (by omega)] at y; omega
  · obtain ⟨d, hd, e⟩ := I_surj (by rw [i_0] at y; exact y)
    subst e
    rw [I_lt (by omega) (by omega)] at x
    obtain ⟨w, hw⟩ : ∃ w, stems bs = [w] := by
      cases hs : stems bs with
      | nil => rw [hs] at z; simp at z
      | cons a l =>
        cases l with
        | nil => exact ⟨a, rfl⟩
        | cons b m => rw [hs] at z; simp at z
    obtain ⟨w1, w2, w3, w4, w5⟩ := hW
    rw [hw] at w2 w5
    have hl : ds.length ≠ 0 := fun q => by
      have := List.eq_nil_of_length_eq_zero q
      have := (w2 w).mpr (List.mem_singleton.mpr rfl)
      simp_all
    have hd0 : ds.getD 0 0 = w := List.mem_singleton.mp ((w2 _).mp (getD_mem (by omega)))
    rw [i_0, I_in (by omega), I_cl (by omega), w3 0 (by omega), hd0]
    exact ⟨by omega, s_scoreOfTerm hV hD hC hL (w5 w (List.mem_singleton.mpr rfl)) x (hok w d hw x rfl _ _ _ _)⟩
  · subst e; rw [I_lt (by omega) (by omega)] at x; omega
theorem r_withinP {x : Int32} {N : Nat} {Φ : Int32 → Prop} (hN : N < 2147483648) (h1 : ∀ n, n < N → x = I n → Φ (I 1)) (h0 : (∀ n, n < N → x ≠ I n) → Φ (I 0)) : P_X9_within x.toInt64 0 ((I N - 1).toInt64) Φ := by
  by_cases z : N = 0
  · subst z
    have e : (I 0 - 1 : Int32).toInt64 = -1 := by decide
    rw [e]
    refine ⟨fun _ => h0 (fun n hn => by omega), fun y => ⟨fun _ => h0 (fun n hn => by omega), fun w => ?_⟩⟩
    rw [Int64.lt_iff_toInt_lt] at y w
    have e1 : (0 : Int64).toInt = 0 := by decide
    have e2 : (-1 : Int64).toInt = -1 := by decide
    rw [e1] at y
    rw [e2] at w
    omega
  · rw [i_1, I_sub (by omega), IJ (by omega), show (0 : Int64) = J 0 from rfl]
    exact r_withinS (by omega) (by omega) (fun n _ n2 e => h1 n (by omega) e) (fun q => h0 (fun n hn => q n (by omega) (by omega)))
theorem r_score9 {D : List (List Nat)} {R bs : List Nat} {th a l1 : Int32} {tp of word term len : Nat → Int32} {Φ : UInt64 → Int32 → Int32 → Int32 → (Nat → Int32) → Prop}
    (hb : Row tp bs) (hy : byt bs) (hn : bs.length ≤ 3000) (hD : docsOK D) (hne : ∀ doc ∈ D, doc ≠ []) (hR : RT D R term of) (h64 : R.length ≤ 64) (hRo : ∀ w ∈ R, w < 18446744073709551616) (hL : LN D len) (hRD : ∀ doc ∈ D, ∀ w ∈ doc, w ∈ R)
    (hA : (stems bs).length ≠ 1 → ∀ a w', Φ FP.dconst0 (I 1) (I 0) a w')
    (hN : (stems bs).length = 1 → (∀ d, d < D.length → l1 ≠ I d) → ∀ a w', Φ FP.dconst0 (I 2) (I 0) a w')
    (hok : ∀ w d, stems bs = [w] → d < D.length → l1 = I d → ∀ a w', Φ (SV D w d) (I 0) (I 0) a w') :
    P_X9_score th (I bs.length) a (I D.length) (I R.length) tp word term of len l1 Φ := by
  have h40 := hD.1
  have n10 : ¬ (I 1 = I 0) := by rw [I_eq (by omega) (by omega)]; omega
  have hse : stems bs = (toks [] bs).map stem := rfl
  have bad : (stems bs).length ≠ 1 → ∀ a w' l4, J_X9_score_72 th (I 0) a (I D.length) (I R.length) tp w' term of len l1 l4 (I 1) Φ := by
    intro hl a w' l4
    unfold J_X9_score_72
    rw [i_1]
    exact r_fails1 ⟨fun _ => hA hl _ _, fun z => absurd z n10⟩
  unfold P_X9_score
  rw [i_0]
  refine r_takesWord (i := 0) hb hy hn (by omega) (fun e0 => ?_) (fun r RR' i' w' e1 hi' e2 hW => ?_)
  · rw [List.drop_zero] at e0
    refine ⟨fun _ => ?_, fun z => absurd rfl z⟩
    unfold J_X9_score_42
    refine ⟨fun _ => ?_, fun z => absurd rfl z⟩
    unfold J_X9_score_62
    refine ⟨fun z => absurd rfl z, fun _ => ?_⟩
    rw [i_1]
    exact bad (by rw [hse, e0]; simp) _ _ _
  · rw [List.drop_zero] at e1
    have hst : stem r ∈ stems bs := by rw [hse, e1]; exact List.mem_map.mpr ⟨r, List.mem_cons_self .., rfl⟩
    have hws : stem r < 18446744073709551616 := by have := (stems_ok bs _ hst).lt; omega
    refine ⟨fun z => absurd z n10, fun _ => ?_⟩
    -- the place of the word, whichever it is
    have rest : ∀ l4 : Int32, (∀ d, d < D.length → l1 = I d → ∀ a w', stems bs = [stem r] → J_X9_score_101 (I 0) (I 0) a (I D.length) (I R.length) tp w' term of len l1 l4 (I 0) Φ) → J_X9_score_42 th (I 0) (I i') (I D.length) (I R.length) tp w' term of len l1 (I bs.length) (I 1) l4 Φ := by
      intro l4 hl4
      unfold J_X9_score_42
      refine ⟨fun z => absurd z n10, fun _ => ?_⟩
      refine r_takesWord (i := i') hb hy hn hi' (fun e3 => ⟨fun z => absurd rfl z, fun _ => ?_⟩) (fun r2 R2 i2 w2 e3 hi2 _ _ => ⟨fun _ => ?_, fun z => absurd z n10⟩)
      · have hs1 : stems bs = [stem r] := by rw [hse, e1, ← e2, e3]; rfl
        unfold J_X9_score_61 J_X9_score_62
        rw [i_1]
        refine ⟨fun _ => ?_, fun z => absurd z n10⟩
        unfold J_X9_score_72
        rw [i_0]
        refine r_fails0 ⟨fun z => absurd rfl z, fun _ => ?_⟩
        refine r_withinP (by omega) (fun n hn2 en => ⟨fun _ => ?_, fun z => absurd z n10⟩) (fun hno => ⟨fun z => absurd rfl z, fun _ => ?_⟩)
        · exact hl4 n hn2 en _ _ hs1
        · unfold J_X9_score_101
          rw [i_1]
          refine r_fails1 ⟨fun z => absurd z n10, fun _ => ?_⟩
          exact hN (by rw [hs1]; rfl) hno _ _
      · unfold J_X9_score_61 J_X9_score_62
        refine ⟨fun z => absurd rfl z, fun _ => ?_⟩
        rw [i_1]
        exact bad (by rw [hse, e1, ← e2, e3]; simp) _ _ _
    refine r_finds (o := 0) hW hR.1 (by omega) (by omega) hws hRo (fun hno => rest (-1) (fun d hd e a w3 hs1 => ?_)) (fun t ht e => rest (I t) (fun d hd e3 a w3 hs1 => ?_))
    · unfold J_X9_score_101
      refine r_fails0 ⟨fun _ => ⟨fun _ => ?_, fun z => absurd (by decide) z⟩, fun z => absurd rfl z⟩
      have := hok (stem r) d hs1 hd e a w3
      unfold SV at this
      rwa [if_pos (cnt_zero (fun ⟨doc, q1, q2⟩ => hno (hRD doc q1 _ q2)) d)] at this
    · unfold J_X9_score_101
      have hcn := cnt_le hD (R.getD t 0) d
      subst e3
      refine r_fails0 ⟨fun _ => ⟨fun z => ?_, fun _ => ?_⟩, fun z => absurd rfl z⟩
      · rw [i_0, I_lt (by omega) (by omega)] at z; omega
      · rw [i_40, I_mul, I_add, I_in (by omega), I_cl (by omega), hR.2 t (by omega) d hd, i_0, I_eq (by omega) (by omega)]
        have hv := hok (stem r) d hs1 hd rfl a w3
        unfold SV at hv
        rw [← e] at hv
        refine ⟨by omega, fun z => ?_, fun z => ?_⟩
        · rw [if_neg z] at hv
          exact r_scoreOf hD hne hR hL (by omega) hd z hv
        · rw [if_pos z] at hv; exact hv
