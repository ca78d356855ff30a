
/-! the class makes an index -/
def impF (D : List (List Nat)) (b : Nat) (lo hi : UInt64) (w d : Nat) : Nat := if cnt D w d = 0 then 0 else impV (sf D w d) lo hi (2 ^ b - 1)
def TGof (D : List (List Nat)) (b : Nat) (lo hi : UInt64) (T : List Nat) : List (Nat × List Sg) := T.map (fun w => (w, canon D.length (impF D b lo hi w)))
theorem s_impactOf {v lo hi : UInt64} {q : Nat} {Φ : Int32 → Prop} (hv : scOK v) (hl : scOK lo) (hh : scOK hi) (h1 : lo.toNat ≤ v.toNat) (h2 : v.toNat ≤ hi.toNat) (hb : uu hi ≤ 12000 * FP.Core.one64) (hq : 2 ≤ q) (hq2 : q ≤ 255) (h : Φ (I (impV v lo hi q))) : P_X1_impactOf v lo hi (I q) Φ := by
  unfold P_X1_impactOf
  rw [cl_eq hh hl, i_1, I_sub (by omega)]
  refine ⟨fun z => ?_, fun z => ?_⟩
  · obtain ⟨a1, a2, a3, a4, a5, a6, a7, -⟩ := imp_all hv hl hh h1 h2 hb z hq hq2
    refine ⟨a1, a2, a3, a4, a5, a6, ?_⟩
    have e : FP.d2i (impX v lo hi q) = I (impV v lo hi q) := a7
    unfold impX at e
    rw [e]; exact h
  · unfold impV at h
    rwa [if_pos z] at h
theorem impV_range {v lo hi : UInt64} {q : Nat} (hv : scOK v) (hl : scOK lo) (hh : scOK hi) (h1 : lo.toNat ≤ v.toNat) (h2 : v.toNat ≤ hi.toNat) (hb : uu hi ≤ 12000 * FP.Core.one64) (hq : 2 ≤ q) (hq2 : q ≤ 255) : 1 ≤ impV v lo hi q ∧ impV v lo hi q ≤ q := by
  by_cases z : hi = lo
  · unfold impV; rw [if_pos z]; omega
  · exact (imp_all hv hl hh h1 h2 hb z hq hq2).2.2.2.2.2.2.2
def Ends (D : List (List Nat)) (lo hi : UInt64) : Prop := docsOK D ∧ (∀ doc ∈ D, doc ≠ []) ∧ isLo D lo ∧ isHi D hi
theorem Ends.ok {D : List (List Nat)} {lo hi : UInt64} (h : Ends D lo hi) : scOK lo ∧ scOK hi ∧ uu hi ≤ 12000 * FP.Core.one64 := by
  obtain ⟨h1, h2, ⟨⟨w, d, a1, a2, a3⟩, -⟩, ⟨⟨w', d', b1, b2, b3⟩, -⟩⟩ := h
  have c := sf_ok h1 h2 a1 a2
  have e := sf_ok h1 h2 b1 b2
  rw [a3] at c
  rw [b3] at e
  exact ⟨c.1, e.1, e.2⟩
theorem two_q {b : Nat} (h2 : 2 ≤ b) (h8 : b ≤ 8) : 2 ≤ 2 ^ b - 1 ∧ 2 ^ b - 1 ≤ 255 ∧ 4 ≤ 2 ^ b ∧ 2 ^ b ≤ 256 := by
  have a : 2 ^ 2 ≤ 2 ^ b := Nat.pow_le_pow_right (by omega) h2
  have c : 2 ^ b ≤ 2 ^ 8 := Nat.pow_le_pow_right (by omega) h8
  omega
theorem impF_range {D : List (List Nat)} {lo hi : UInt64} {b w d : Nat} (h : Ends D lo hi) (h2 : 2 ≤ b) (h8 : b ≤ 8) (hd : d < D.length) : impF D b lo hi w d < 2 ^ b ∧ (0 < impF D b lo hi w d ↔ cnt D w d ≠ 0) := by
  obtain ⟨q1, q2, q3, q4⟩ := two_q h2 h8
  unfold impF
  by_cases z : cnt D w d = 0
  · rw [if_pos z]; exact ⟨by omega, ⟨fun y => absurd y (by omega), fun y => absurd z y⟩⟩
  · rw [if_neg z]
    obtain ⟨o1, o2, o3⟩ := h.ok
    obtain ⟨a, b⟩ := impV_range (sf_ok h.1 h.2.1 hd z).1 o1 o2 (h.2.2.1.2 w d hd z) (h.2.2.2.2 w d hd z) o3 q1 q2
    exact ⟨by omega, ⟨fun _ => z, fun _ => by omega⟩⟩
theorem df_range {D : List (List Nat)} {w : Nat} : ∀ i, i ≤ D.length → df (D.take i) w = ((List.range i).filter (fun d => decide (cnt D w d ≠ 0))).length := by
  intro i
  induction i with
  | zero => intro _; rw [List.take_zero]; rfl
  | succ i ih =>
    intro h
    rw [df_take (by omega), ih (by omega), List.range_succ, List.filter_append, List.length_append]
    congr 1
    by_cases z : cnt D w i = 0
    · rw [if_neg (by omega)]; simp [z]
    · rw [if_pos (by omega)]; simp [z]
theorem pl_one {D : List (List Nat)} {lo hi : UInt64} {b w : Nat} (h : Ends D lo hi) (h2 : 2 ≤ b) (h8 : b ≤ 8) : (PL (canon D.length (impF D b lo hi w))).length = df D w := by
  rw [PL_canon_len h8 (fun d hd => (impF_range h h2 h8 hd).1)]
  have e := df_range (D := D) (w := w) D.length (Nat.le_refl _)
  rw [List.take_length] at e
  rw [e]
  congr 1
  apply List.filter_congr
  intro d hd
  have := (impF_range (w := w) h h2 h8 (List.mem_range.mp hd)).2
  exact decide_eq_decide.mpr this
theorem pl_all {D : List (List Nat)} {lo hi : UInt64} {b : Nat} (h : Ends D lo hi) (h2 : 2 ≤ b) (h8 : b ≤ 8) : ∀ T, (PL (SLt (TGof D b lo hi T))).length = posts D T := by
  intro T
  induction T with
  | nil => rfl
  | cons w T ih =>
    have e : SLt (TGof D b lo hi (w :: T)) = canon D.length (impF D b lo hi w) ++ SLt (TGof D b lo hi T) := rfl
    rw [e, PL_app, List.length_append, pl_one h h2 h8, ih]
    unfold posts
    simp
theorem sl_ne {D : List (List Nat)} {lo hi : UInt64} {b : Nat} (T : List Nat) : ∀ s ∈ SLt (TGof D b lo hi T), s.2 ≠ [] := by
  intro s hs
  unfold SLt TGof at hs
  rw [List.mem_flatMap] at hs
  obtain ⟨q, hq, hs⟩ := hs
  rw [List.mem_map] at hq
  obtain ⟨w, -, rfl⟩ := hq
  exact (mem_canon.mp hs).2.2.2
theorem posts_take_le2 {D : List (List Nat)} {T : List Nat} (i : Nat) : posts D (T.take i) ≤ posts D T := by
  have e : posts D T = posts D (T.take i) + posts D (T.drop i) := by
    unfold posts
    rw [← List.sum_append_nat, ← List.map_append, List.take_append_drop]
  omega
theorem l_mk39 {D : List (List Nat)} {T : List Nat} {tm : Nat → Int64} {ind ti len : Nat → Int32} {sc : Nat → UInt64} {lo hi : UInt64} {b t : Nat} {ab ad at' as ap : Int32} {tmx atm : Nat → Int64} {fs im fp doc : Nat → Int32} {lA : Int32}
    {K : (Nat → UInt64) → Int32 → Int32 → Int32 → Int32 → Int32 → (Nat → Int32) → (Nat → Int64) → (Nat → Int32) → (Nat → Int32) → (Nat → Int32) → (Nat → Int32) → Int32 → UInt64 → UInt64 → Int32 → Prop} {Φ : (Nat → UInt64) → Int32 → Int32 → Int32 → Int32 → Int32 → (Nat → Int32) → (Nat → Int64) → (Nat → Int32) → (Nat → Int32) → (Nat → Int32) → (Nat → Int32) → Prop}
    (hE : Ends D lo hi) (h2 : 2 ≤ b) (h8 : b ≤ 8) (hC : CT D T tm ind ti) (h64 : T.length ≤ 64) (hs : ∀ c, cellP D T c → sc c = cellV D T c) (ht : t < T.length)
    (hK : ∀ imps, (∀ d, d < D.length → imps d = I (impF D b lo hi (T.getD t 0) d)) → K sc ab ad at' as ap imps atm fs im fp doc (I b) lo hi (I t)) :
    ∀ k i imps, D.length ≤ i + k → i ≤ D.length → (∀ d, d < i → imps d = I (impF D b lo hi (T.getD t 0) d)) → L_X1_makeIndex_39 (k + 1) (I D.length) (I T.length) lA ti ind len sc ab ad at' as ap imps tmx atm fs im fp doc (I b) lo hi (I t) (I i) K Φ := by
  have h40 := hE.1.1
  obtain ⟨q1, q2, q3, q4⟩ := two_q h2 h8
  obtain ⟨o1, o2, o3⟩ := hE.ok
  intro k
  induction k with
  | zero =>
    intro i imps h1 h2 h3
    unfold L_X1_makeIndex_39
    rw [I_le (by omega) (by omega)]
    exact ⟨fun _ => hK imps (fun d hd => h3 d (by omega)), fun z => absurd (by omega) z⟩
  | succ k ih =>
    intro i imps h1 h2 h3
    unfold L_X1_makeIndex_39
    rw [I_le (by omega) (by omega), i_40, I_mul, I_add, I_in (by omega), I_in (by omega), I_cl (by omega), I_cl (by omega), i_1, I_add, i_31]
    rw [show (I 1 : Int32) <<< (I b &&& I 31) = I (2 ^ b) from by rw [← i_1, ← i_31]; exact I_sl1 (by omega), I_sub (by omega)]
    refine ⟨fun z => hK imps (fun d hd => h3 d (by omega)), fun z => ?_⟩
    have e1 : (t * 40 + i) / 40 = t := by omega
    have e2 : (t * 40 + i) % 40 = i := by omega
    have step : ∀ v, v = impF D b lo hi (T.getD t 0) i → ∀ d, d < i + 1 → upd imps i (I v) d = I (impF D b lo hi (T.getD t 0) d) := fun v hv d hd => by
      unfold upd
      by_cases e : d = i
      · subst e; rw [if_pos rfl, hv]
      · rw [if_neg e]; exact h3 d (by omega)
    refine s_isPosting hE.1 hC h64 (by omega) (fun q => ⟨fun _ => ⟨by omega, ?_⟩, fun y => absurd rfl y⟩) (fun q => ⟨fun y => ?_, fun _ => ⟨by omega, ?_⟩⟩)
    · rw [i_0]
      refine ih (i + 1) _ (by omega) (by omega) (step 0 ?_)
      have : cnt D (T.getD t 0) i = 0 := Classical.byContradiction fun z2 => q ⟨by omega, by omega, by rw [e1, e2]; exact z2⟩
      unfold impF; rw [if_pos this]
    · rw [i_0, I_eq (by omega) (by omega)] at y; omega
    · rw [hs _ q]
      have hc := q.2.2
      rw [e1, e2] at hc
      have e3 : cellV D T (t * 40 + i) = sf D (T.getD t 0) i := by unfold cellV; rw [e1, e2]
      rw [e3]
      refine s_impactOf (sf_ok hE.1 hE.2.1 (by omega) hc).1 o1 o2 (hE.2.2.1.2 _ i (by omega) hc) (hE.2.2.2.2 _ i (by omega) hc) o3 q1 q2 ⟨by omega, ?_⟩
      refine ih (i + 1) _ (by omega) (by omega) (step _ ?_)
      unfold impF; rw [if_neg hc]
theorem TGof_take {D : List (List Nat)} {lo hi : UInt64} {b : Nat} {T : List Nat} {t : Nat} (h : t < T.length) : TGof D b lo hi (T.take (t + 1)) = TGof D b lo hi (T.take t) ++ [(T.getD t 0, canon D.length (impF D b lo hi (T.getD t 0)))] := by
  unfold TGof
  rw [take_succ_getD h, List.map_append]; rfl
theorem l_mk27 {D : List (List Nat)} {T : List Nat} {tm : Nat → Int64} {ind ti len : Nat → Int32} {sc : Nat → UInt64} {lo hi : UInt64} {b : Nat} {lA : Int32}
    {K : (Nat → UInt64) → Int32 → Int32 → Int32 → Int32 → Int32 → (Nat → Int32) → (Nat → Int64) → (Nat → Int32) → (Nat → Int32) → (Nat → Int32) → (Nat → Int32) → Prop} {Φ : (Nat → UInt64) → Int32 → Int32 → Int32 → Int32 → Int32 → (Nat → Int32) → (Nat → Int64) → (Nat → Int32) → (Nat → Int32) → (Nat → Int32) → (Nat → Int32) → Prop}
    (hE : Ends D lo hi) (h2 : 2 ≤ b) (h8 : b ≤ 8) (hC : CT D T tm ind ti) (h64 : T.length ≤ 64) (hps : posts D T ≤ 600) (hs : ∀ c, cellP D T c → sc c = cellV D T c)
    (hK : ∀ imps atm fs im fp doc, CA (TGof D b lo hi T) atm fs im fp doc → K sc (I b) (I D.length) (I T.length) (I (SLt (TGof D b lo hi T)).length) (I (PL (SLt (TGof D b lo hi T))).length) imps atm fs im fp doc) :
    ∀ k t imps atm fs im fp doc, T.length ≤ t + k → t ≤ T.length → CA (TGof D b lo hi (T.take t)) atm fs im fp doc → L_X1_makeIndex_27 (k + 1) (I D.length) (I T.length) lA ti ind len sc (I b) (I D.length) (I t) (I (SLt (TGof D b lo hi (T.take t))).length) (I (PL (SLt (TGof D b lo hi (T.take t)))).length) imps tm atm fs im fp doc (I b) lo hi (I t) K Φ := by
  have h40 := hE.1.1
  have fin : ∀ t imps atm fs im fp doc, T.length ≤ t → t ≤ T.length → CA (TGof D b lo hi (T.take t)) atm fs im fp doc → K sc (I b) (I D.length) (I t) (I (SLt (TGof D b lo hi (T.take t))).length) (I (PL (SLt (TGof D b lo hi (T.take t)))).length) imps atm fs im fp doc := by
    intro t imps atm fs im fp doc a1 a2 a3
    have e : t = T.length := by omega
    subst e
    rw [List.take_length] at a3 ⊢
    exact hK _ _ _ _ _ _ a3
  intro k
  induction k with
  | zero =>
    intro t imps atm fs im fp doc a1 a2 a3
    unfold L_X1_makeIndex_27
    rw [I_le (by omega) (by omega)]
    exact ⟨fun z => fin t _ _ _ _ _ _ z a2 a3, fun z => absurd (by omega) z⟩
  | succ k ih =>
    intro t imps atm fs im fp doc a1 a2 a3
    unfold L_X1_makeIndex_27
    rw [I_le (by omega) (by omega)]
    refine ⟨fun z => fin t _ _ _ _ _ _ z a2 a3, fun z => ⟨D.length + 1, ?_⟩⟩
    have e0 := posts_take (D := D) (R := T) (i := t) (by omega)
    have e1 := posts_take_le2 (D := D) (T := T) (t + 1)
    have e2 := pl_all hE h2 h8 (T.take t)
    have e3 := pl_one (w := T.getD t 0) hE h2 h8
    have e4 := PL_len_le _ (sl_ne (D := D) (b := b) (lo := lo) (hi := hi) (T.take t))
    have e5 := PL_len_le (canon D.length (impF D b lo hi (T.getD t 0))) (fun s hs => (mem_canon.mp hs).2.2.2)
    have e6 : (TGof D b lo hi (T.take t)).length = t := by unfold TGof; rw [List.length_map, List.length_take]; omega
    refine l_mk39 hE h2 h8 hC h64 hs (by omega) (fun imps' hi' => ?_) D.length 0 imps (by omega) (by omega) (fun d hd => by omega)
    rw [I_in (by omega), I_cl (by omega), hC.1 t (by omega), i_1, I_add]
    refine ⟨by omega, ?_⟩
    have key := s_appendTerm (w := T.getD t 0) (f := impF D b lo hi (T.getD t 0)) (imp := imps') (Φ := fun te se po tm' fs' im' fp' doc' => L_X1_makeIndex_27 (k + 1) (I D.length) (I T.length) lA ti ind len sc (I b) (I D.length) te se po imps' tm tm' fs' im' fp' doc' (I b) lo hi (I (t + 1)) K Φ) a3 h40 h8 hi' (fun d hd => (impF_range hE h2 h8 hd).1) (by omega) (by omega) (by omega) (fun tm' fs' im' fp' doc' hA => by
      have := ih (t + 1) imps' tm' fs' im' fp' doc' (by omega) (by omega) (by rw [TGof_take (by omega)]; exact hA)
      rw [TGof_take (by omega), SLt_app, PL_app, List.length_append, List.length_append] at this
      rw [e6]; exact this)
    rw [e6] at key
    exact key
theorem s_makeIndex {D : List (List Nat)} {T : List Nat} {tm atm : Nat → Int64} {ind ti len imps fs im fp doc : Nat → Int32} {sc : Nat → UInt64} {b : Nat} {ab ad at' as ap : Int32} {Φ : (Nat → UInt64) → Int32 → Int32 → Int32 → Int32 → Int32 → (Nat → Int32) → (Nat → Int64) → (Nat → Int32) → (Nat → Int32) → (Nat → Int32) → (Nat → Int32) → Prop}
    (hV : VD D T) (hD : docsOK D) (h0 : D ≠ []) (h2 : 2 ≤ b) (h8 : b ≤ 8) (hC : CT D T tm ind ti) (hL : LN D len) (hfs : fs 0 = I 0) (hfp : fp 0 = I 0)
    (h : ∀ lo hi sc imps atm fs im fp doc, Ends D lo hi → CA (TGof D b lo hi T) atm fs im fp doc → Φ sc (I b) (I D.length) (I T.length) (I (SLt (TGof D b lo hi T)).length) (I (PL (SLt (TGof D b lo hi T))).length) imps atm fs im fp doc) :
    P_X1_makeIndex (I D.length) (I T.length) (I (lens D)) ti ind len sc ab ad at' as ap imps tm atm fs im fp doc (I b) Φ := by
  obtain ⟨v1, v2, v3, v4, v5, v6, v7⟩ := hV
  have hne : ∀ doc ∈ D, doc ≠ [] := fun doc hd => (v6 doc hd).1
  unfold P_X1_makeIndex P_X4_start
  refine s_all hD hne hC hL v2 (fun sc' hs => ?_)
  refine s_leastSc hD h0 hne v5 hC v2 hs (fun lo hlo => ?_)
  refine s_greatSc hD h0 hne v5 hC v2 hs (fun hi hhi => ⟨T.length + 1, ?_⟩)
  have hE : Ends D lo hi := ⟨hD, hne, hlo, hhi⟩
  exact l_mk27 hE h2 h8 hC v2 v3 hs (fun imps atm fs im fp doc hA => h lo hi sc' imps atm fs im fp doc hE hA) T.length 0 imps atm fs im fp doc (by omega) (by omega) (CA_nil hfs hfp)
theorem VX_TGof {D : List (List Nat)} {T : List Nat} {lo hi : UInt64} {b : Nat} (hV : VD D T) (hE : Ends D lo hi) (h0 : D ≠ []) (h2 : 2 ≤ b) (h8 : b ≤ 8) : VX (b, D.length, TGof D b lo hi T) := by
  obtain ⟨v1, v2, v3, v4, v5, v6, v7⟩ := hV
  have hl : 1 ≤ D.length := List.length_pos_iff.mpr h0
  have em : (TGof D b lo hi T).map (fun q => q.1) = T := by unfold TGof; rw [List.map_map]; exact List.map_id _
  have hTl : (TGof D b lo hi T).length = T.length := by unfold TGof; rw [List.length_map]
  refine ⟨⟨h2, h8, hl, v1, by rw [hTl]; exact v2, by rw [em]; exact v4, fun q hq => ?_, by rw [pl_all hE h2 h8]; exact v3⟩, ?_⟩
  · unfold TGof at hq
    rw [List.mem_map] at hq
    obtain ⟨w, hw, rfl⟩ := hq
    obtain ⟨doc, hd, hm⟩ := (v5 w).mp hw
    obtain ⟨d, hdl, e⟩ := List.mem_iff_getElem.mp hd
    have hc : cnt D w d ≠ 0 := by
      unfold cnt
      rw [List.getD_eq_getElem?_getD, List.getElem?_eq_getElem hdl, Option.getD_some, e]
      exact fun z => absurd hm (List.count_eq_zero.mp z)
    exact ⟨v7 w hw, canon_ne h8 (fun d hd => (impF_range hE h2 h8 hd).1) hdl ((impF_range hE h2 h8 hdl).2.mpr hc), VS_canon (fun d hd => (impF_range hE h2 h8 hd).1)⟩
  · show 1 ≤ (TGof D b lo hi T).length
    rw [hTl]
    obtain ⟨w, d, hd, hc⟩ := some_post h0 hE.2.1
    obtain ⟨c, c1, -⟩ := cell_of v5 v1 hd hc
    omega
