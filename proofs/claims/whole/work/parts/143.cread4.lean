
/-! the class reads a file: whole -/
def CQ (F : List Nat) (p c b N : Nat) (TG : List (Nat × List Sg)) (q : Nat × List Sg) (rest : List Nat) : Prop := okw q.1 ∧ q.2 ≠ [] ∧ VS b N q.2 ∧ (∀ v ∈ TG.map (fun q => q.1), v < q.1) ∧ (PL (SLt TG)).length + (PL q.2).length ≤ 600 ∧ F.drop p = encT c q ++ rest
/-- segments that may stand so far, the last impact above -/
def VS0 (b N ab : Nat) (segs : List Sg) : Prop := VS b N segs ∧ (∀ s ∈ segs, ab ≤ s.1) ∧ ab ≤ 2 ^ b ∧ 1 ≤ ab ∧ (segs = [] → ab = 2 ^ b) ∧ (segs ≠ [] → ∃ s ∈ segs, ab = s.1)
theorem VS_app {b N ab i : Nat} {segs : List Sg} {ds : List Nat} (h : VS0 b N ab segs) (hi : 1 ≤ i) (hab : i < ab) (hne : ds ≠ []) (hs : srt ds) (hN : ∀ d ∈ ds, d < N) (hdis : ∀ d ∈ ds, d ∉ PL segs) : VS0 b N i (segs ++ [(i, ds)]) := by
  obtain ⟨⟨h1, h2, h3⟩, h4, h5, h6, -, -⟩ := h
  refine ⟨⟨?_, fun s hm => ?_, ?_⟩, fun s hm => ?_, by omega, hi, fun q => by simp at q, fun _ => ⟨(i, ds), by simp, rfl⟩⟩
  · refine List.pairwise_append.mpr ⟨h1, by simp, fun a ha x hx => ?_⟩
    simp only [List.mem_singleton] at hx
    subst hx
    have := h4 a ha
    show i < a.1
    omega
  · rcases List.mem_append.mp hm with hm | hm
    · exact h2 s hm
    · simp only [List.mem_singleton] at hm; subst hm; exact ⟨hi, by show i < _; omega, hne, hs, hN⟩
  · rw [PL_app, PL_one]
    exact List.nodup_append.mpr ⟨h3, hs.nodup, fun a ha x hx e => hdis x hx (e ▸ ha)⟩
  · rcases List.mem_append.mp hm with hm | hm
    · have := h4 s hm; omega
    · simp only [List.mem_singleton] at hm; subst hm; exact Nat.le_refl _
theorem I_sl1 {b : Nat} (h : b < 32) : (1 : Int32) <<< (I b &&& 31) = I (2 ^ b) := by rw [i_1, i_31, I_sl h, Nat.one_mul]
theorem Row_inj {f : Nat → Int32} {l m : List Nat} (h1 : Row f l) (h2 : Row f m) (e : l.length = m.length) (b1 : ∀ x ∈ l, x < 2147483648) (b2 : ∀ x ∈ m, x < 2147483648) : l = m := by
  apply List.ext_getElem?
  intro i
  by_cases hi : i < l.length
  · have a1 := h1 i hi
    rw [h2 i (by omega), I_eq (b2 _ (getD_mem (by omega))) (b1 _ (getD_mem hi))] at a1
    rw [List.getD_eq_getElem?_getD, List.getD_eq_getElem?_getD, List.getElem?_eq_getElem hi, List.getElem?_eq_getElem (by omega)] at a1
    rw [List.getElem?_eq_getElem hi, List.getElem?_eq_getElem (by omega)]
    exact congrArg some a1.symm
  · rw [List.getElem?_eq_none (by omega), List.getElem?_eq_none (by omega)]
theorem gp_inj : ∀ (ds ds2 : List Nat) (e : Nat), srt ds → srt ds2 → (∀ d ∈ ds, e ≤ d) → (∀ d ∈ ds2, e ≤ d) → gp e ds = gp e ds2 → ds = ds2 := by
  intro ds
  induction ds with
  | nil => intro ds2 e _ _ _ _ h; cases ds2 with
    | nil => rfl
    | cons x l => simp [gp] at h
  | cons d ds ih =>
    intro ds2 e h1 h2 h3 h4 h
    cases ds2 with
    | nil => simp [gp] at h
    | cons x l =>
      simp only [gp, List.cons.injEq] at h
      have a := h3 d List.mem_cons_self
      have c := h4 x List.mem_cons_self
      have hdx : d = x := by omega
      subst hdx
      have s1 := List.pairwise_cons.mp h1
      have s2 := List.pairwise_cons.mp h2
      rw [ih l (d + 1) s1.2 s2.2 (fun y hy => s1.1 y hy) (fun y hy => s2.1 y hy) h.2]
theorem l_rdsegs {F : List Nat} {row : Nat → Int32} {p0 c b N w sg : Nat} {TG : List (Nat × List Sg)} {tm : Nat → Int64} {bi : Int32} {K : Int32 → Int32 → Int32 → Int32 → (Nat → Int64) → (Nat → Int32) → Int32 → (Nat → Int32) → (Nat → Int32) → (Nat → Int32) → (Nat → Int32) → Prop} {Φ : Int32 → Int32 → Int32 → Int32 → Int32 → (Nat → Int64) → (Nat → Int32) → Int32 → (Nat → Int32) → (Nat → Int32) → (Nat → Int32) → (Nat → Int32) → Prop}
    (hb : BRow row F) (hy : byt F) (hn : F.length ≤ 6650) (hc2 : c ≤ 2) (hV : VT b N TG) (h64 : TG.length < 64)
    (hK : ∀ p segs fs gm gap im fp doc ab, p ≤ F.length → segs.length = sg → VS0 b N ab segs → CA (TG ++ [(w, segs)]) tm fs im fp doc → (PL (SLt TG ++ segs)).length ≤ 600 → (∀ q rest, CQ F p0 c b N TG q rest → q = (w, segs) ∧ F.drop p = rest) → K (I p) (I (TG.length + 1)) (I (SLt TG ++ segs).length) (I (PL (SLt TG ++ segs)).length) tm fs gm gap im fp doc)
    (hΦ : ∀ p tr sgs ps fs gm gap im fp doc, fs 0 = I 0 → fp 0 = I 0 → (∀ q rest, ¬ CQ F p0 c b N TG q rest) → Φ (I 0) p tr sgs ps tm fs gm gap im fp doc) (hsg : sg < 256) :
    ∀ k s p segs fs gm gap im fp doc ab, sg ≤ s + k → s ≤ sg → p ≤ F.length → segs.length = s → VS0 b N ab segs → CA (TG ++ [(w, segs)]) tm fs im fp doc → (PL (SLt TG ++ segs)).length ≤ 600 →
      (∀ q rest, CQ F p0 c b N TG q rest → q.1 = w ∧ q.2.length = sg ∧ q.2.take s = segs ∧ F.drop p = (q.2.drop s).flatMap (encS c) ++ rest) →
      L_X5_readTerm_55 (k + 1) 6650 (I F.length) (I p) row bi (I N) (I (TG.length + 1)) (I (SLt TG ++ segs).length) (I (PL (SLt TG ++ segs)).length) tm fs gm gap im fp doc (I c) (I sg) (I ab) (J (msk (PL segs))) (I s) K Φ := by
  have hb8 := hV.2.1
  have hN := hV.2.2.2.1
  have h2b : 2 ^ b ≤ 2 ^ 8 := Nat.pow_le_pow_right (by decide) hb8
  have fin : ∀ s p segs fs gm gap im fp doc ab, sg ≤ s → s ≤ sg → p ≤ F.length → segs.length = s → VS0 b N ab segs → CA (TG ++ [(w, segs)]) tm fs im fp doc → (PL (SLt TG ++ segs)).length ≤ 600 →
      (∀ q rest, CQ F p0 c b N TG q rest → q.1 = w ∧ q.2.length = sg ∧ q.2.take s = segs ∧ F.drop p = (q.2.drop s).flatMap (encS c) ++ rest) → K (I p) (I (TG.length + 1)) (I (SLt TG ++ segs).length) (I (PL (SLt TG ++ segs)).length) tm fs gm gap im fp doc := by
    intro s p segs fs gm gap im fp doc ab h1 h2 h3 h4 h5 h6 h7 h8
    refine hK p segs fs gm gap im fp doc ab h3 (by omega) h5 h6 h7 (fun q rest e => ?_)
    obtain ⟨a1, a2, a3, a4⟩ := h8 q rest e
    rw [List.take_of_length_le (by omega)] at a3
    rw [List.drop_of_length_le (l := q.2) (by omega)] at a4
    exact ⟨by rw [← a1, ← a3], a4⟩
  intro k
  induction k with
  | zero =>
    intro s p segs fs gm gap im fp doc ab h1 h2 h3 h4 h5 h6 h7 h8
    unfold L_X5_readTerm_55
    rw [I_le (by omega) (by omega)]
    exact ⟨fun _ => fin s p segs fs gm gap im fp doc ab (by omega) h2 h3 h4 h5 h6 h7 h8, fun z => by omega⟩
  | succ k ih =>
    intro s p segs fs gm gap im fp doc ab h1 h2 h3 h4 h5 h6 h7 h8
    unfold L_X5_readTerm_55
    rw [I_le (by omega) (by omega)]
    refine ⟨fun z => fin s p segs fs gm gap im fp doc ab (by omega) h2 h3 h4 h5 h6 h7 h8, fun z => ?_⟩
    have hs : s < sg := by omega
    have hfs0 : ∀ {fs im fp doc : Nat → Int32} {TG2 : List (Nat × List Sg)}, CA TG2 tm fs im fp doc → fs 0 = I 0 ∧ fp 0 = I 0 := fun h => ⟨by rw [h.2.1 0 (Nat.zero_le _)]; rfl, by rw [h.2.2.2.1 0 (Nat.zero_le _)]; rfl⟩
    -- what a right text has here
    have hc : ∀ q rest, CQ F p0 c b N TG q rest → ∃ x, q.2[s]? = some x ∧ x ∈ q.2 ∧ q.1 = w ∧ q.2.length = sg ∧ q.2.take s = segs ∧ q.2.take (s + 1) = segs ++ [x] ∧ F.drop p = x.1 :: x.2.length :: (encG c (gp 0 x.2) ++ ((q.2.drop (s + 1)).flatMap (encS c) ++ rest)) ∧ x.1 < ab ∧ (∀ d ∈ x.2, d ∉ PL segs) ∧ VS b N q.2 ∧ (PL (SLt TG ++ segs)).length + x.2.length ≤ 600 := fun q rest e => by
      obtain ⟨a1, a2, a3, a4⟩ := h8 q rest e
      obtain ⟨e1, e2, e3, e4, e5, e6⟩ := e
      obtain ⟨x, hx⟩ : ∃ x, q.2[s]? = some x := ⟨_, List.getElem?_eq_getElem (by omega)⟩
      have hxm : x ∈ q.2 := List.mem_of_getElem? hx
      have ht : q.2.take (s + 1) = segs ++ [x] := by rw [List.take_succ, hx, a3]; rfl
      have hsp := split_at hx
      rw [a3] at hsp
      have hpw := e3.1
      rw [hsp, List.pairwise_append] at hpw
      have hnd := e3.2.2
      rw [hsp, PL_app, PL_cons, List.nodup_append] at hnd
      refine ⟨x, hx, hxm, a1, a2, a3, ht, ?_, ?_, fun d hd hm => hnd.2.2 d hm d (List.mem_append_left _ hd) rfl, e3, ?_⟩
      · rw [a4]
        have hd : q.2.drop s = x :: q.2.drop (s + 1) := by
          have hlt : s < q.2.length := by omega
          rw [List.drop_eq_getElem_cons hlt]
          rw [List.getElem?_eq_getElem hlt] at hx
          cases hx; rfl
        rw [hd, List.flatMap_cons, encS]; simp only [List.cons_append, List.append_assoc]
      · by_cases hz : segs = []
        · rw [h5.2.2.2.2.1 hz]; exact (e3.2.1 x hxm).2.1
        · obtain ⟨y, hy1, hy2⟩ := h5.2.2.2.2.2 hz
          rw [hy2]; exact hpw.2.2 y hy1 x List.mem_cons_self
      · have : (PL q.2).length = (PL segs).length + (x.2.length + (PL (q.2.drop (s + 1))).length) := by
          conv => lhs; rw [hsp]
          rw [PL_app, PL_cons, List.length_append, List.length_append]
        rw [PL_app, List.length_append]
        omega
    have bad : ∀ p tr sgs ps fs gm gap im fp doc, fs 0 = I 0 ∧ fp 0 = I 0 → (∀ q rest, CQ F p0 c b N TG q rest → False) → Φ (I 0) p tr sgs ps tm fs gm gap im fp doc := fun p tr sgs ps fs gm gap im fp doc h q => hΦ p tr sgs ps fs gm gap im fp doc h.1 h.2 q
    have hz0 := hfs0 h6
    obtain ⟨v1, v2, v3, v4, v5, v6⟩ := h5
    refine s_next hb hn h3 (s_next hb hn (np_le h3) ?_)
    rw [i_1, I_sub v4]
    refine s_within hy (by omega) (by omega) (fun g1 g2 g3 => ?_) (fun g => ⟨fun _ => bad _ _ _ _ _ _ _ _ _ _ hz0 (fun q rest e => ?_), fun y => absurd rfl y⟩)
    · refine ⟨fun y => absurd y (by decide), fun _ => ?_⟩
      have e1 : nv F p = I (F.getD p 0) := by unfold nv; rw [if_pos g1]
      have e2 : np F p = p + 1 := by unfold np; rw [if_pos g1]
      rw [e1, e2, i_40]
      refine s_within hy (by omega) (by omega) (fun g4 g5 g6 => ?_) (fun g => ⟨fun _ => bad _ _ _ _ _ _ _ _ _ _ hz0 (fun q rest e => ?_), fun y => absurd rfl y⟩)
      · refine ⟨fun y => absurd y (by decide), fun _ => ?_⟩
        have e3 : nv F (p + 1) = I (F.getD (p + 1) 0) := by unfold nv; rw [if_pos g4]
        have e4 : np F (p + 1) = p + 2 := by unfold np; rw [if_pos g4]
        rw [e3, e4]
        refine s_rdgaps hc2 hb hy hn g6 (by omega) (fun r p' gap' hRG => ?_)
        -- the gaps of a right text
        have hcg : ∀ q rest, CQ F p0 c b N TG q rest → ∃ x, q.2[s]? = some x ∧ x ∈ q.2 ∧ q.1 = w ∧ q.2.length = sg ∧ q.2.take s = segs ∧ q.2.take (s + 1) = segs ++ [x] ∧ x.1 = F.getD p 0 ∧ x.2.length = F.getD (p + 1) 0 ∧ r = I 1 ∧ Row gap' (gp 0 x.2) ∧ F.drop p' = (q.2.drop (s + 1)).flatMap (encS c) ++ rest ∧ (∀ d ∈ x.2, d ∉ PL segs) ∧ x.2 ≠ [] ∧ srt x.2 ∧ (∀ d ∈ x.2, d < N) ∧ (PL (SLt TG ++ segs)).length + x.2.length ≤ 600 := fun q rest e => by
          obtain ⟨x, x1, x2, x3, x4, x5, x6, x7, x8, x9, x10, x11⟩ := hc q rest e
          obtain ⟨d1, d2, d3⟩ := drop_eq x7
          obtain ⟨d4, d5, d6⟩ := drop_eq d3
          have hv := x10.2.1 x x2
          obtain ⟨r1, r2, r3⟩ := hRG.2.2 (gp 0 x.2) _ (by rw [gp_len, d5]) (fun g hg => by have := gp_lt hv.2.2.2.2 0 g hg; omega) d6
          exact ⟨x, x1, x2, x3, x4, x5, x6, d2.symm, d5.symm, r1, r2, r3, x9, hv.2.2.1, hv.2.2.2.1, hv.2.2.2.2, x11⟩
        refine ⟨fun y => bad _ _ _ _ _ _ _ _ _ _ hz0 (fun q rest e => ?_), fun y => ?_⟩
        · obtain ⟨x, x1, x2, x3, x4, x5, x6, x7, x8, x9, -⟩ := hcg q rest e
          rw [x9] at y; exact absurd y (by decide)
        · obtain ⟨hp', hr, -⟩ := hRG
          rcases hr with hr | ⟨hr, gs, gl, g128, grow⟩
          · exact absurd hr y
          have hSA : SLt (TG ++ [(w, segs)]) = SLt TG ++ segs := SLt_app _ _
          have hne : ∀ x ∈ SLt TG ++ segs, x.2 ≠ [] := fun x hx => by
            rcases List.mem_append.mp hx with hx | hx
            · obtain ⟨q, hq, hx⟩ := List.mem_flatMap.mp hx
              exact ((hV.2.2.2.2.2.2.1 q hq).2.2.2.1 x hx).2.2.1
            · exact (v1.2.1 x hx).2.2.1
          have hslp := PL_len_le _ hne
          rw [← hSA] at hslp h7 ⊢
          refine s_startSeg h6 h64 (by omega) (fun hlt im' fs' fp' hA' => ⟨fun _ => ?_, fun y => absurd y (by decide)⟩) (fun hge => ⟨fun y => absurd rfl y, fun _ => bad _ _ _ _ _ _ _ _ _ _ hz0 (fun q rest e => ?_)⟩)
          · rw [hSA] at hlt h7 ⊢
            rw [← gl]
            have hcd : ∀ q rest, CQ F p0 c b N TG q rest → ∀ x, q.2[s]? = some x → DQ N (PL (SLt TG ++ segs)).length gs x.2 := fun q rest e x hx => by
              obtain ⟨x', x1, x2, x3, x4, x5, x6, x7, x8, x9, x10, x11, x12, x13, x14, x15, x16⟩ := hcg q rest e
              rw [x1] at hx
              cases hx
              exact ⟨x14, x15, Row_inj x10 grow (by rw [gp_len, x8, gl]) (fun z hz => by have := gp_lt x15 0 z hz; omega) (fun z hz => by have := g128 z hz; omega), x16⟩
            refine s_docs hA' grow g128 (by omega) hN hlt h7 (fun ds fp2 doc2 hA2 hD => ?_) (fun ps fp2 doc2 hz hno => ⟨fun _ => bad _ _ _ _ _ _ _ _ _ _ ⟨(hfs0 hA').1, hz⟩ (fun q rest e => ?_), fun y => absurd rfl y⟩)
            · have hdl : ds.length = gs.length := by rw [← hD.2.2.1, gp_len]
              have hdne : ds ≠ [] := by intro q; rw [q] at hdl; simp at hdl; omega
              have hm40 := msk_lt hD.2.1
              have hm2 : 2 ^ N ≤ 2 ^ 40 := Nat.pow_le_pow_right (by decide) hN
              have hs40 := msk_lt (ds := PL segs) (n := N) (fun d hd => by
                obtain ⟨x, hx, hd⟩ := List.mem_flatMap.mp hd
                exact (v1.2.1 x hx).2.2.2.2 d hd)
              have hand : msk ds &&& msk (PL segs) ≤ msk ds := Nat.and_le_left
              rw [j_0, J_and, J_eq (by omega) (by omega), J_eq (by omega) (by omega), msk_disj, J_or, msk_or]
              have hxd : ∀ q rest, CQ F p0 c b N TG q rest → ∃ x, q.2[s]? = some x ∧ x.2 = ds ∧ x.1 = F.getD p 0 ∧ (∀ d ∈ x.2, d ∉ PL segs) ∧ q.1 = w ∧ q.2.length = sg ∧ q.2.take (s + 1) = segs ++ [x] ∧ F.drop p' = (q.2.drop (s + 1)).flatMap (encS c) ++ rest := fun q rest e => by
                obtain ⟨x, x1, x2, x3, x4, x5, x6, x7, x8, x9, x10, x11, x12, x13, x14, x15, x16⟩ := hcg q rest e
                have hq := hcd q rest e x x1
                exact ⟨x, x1, gp_inj _ _ 0 hq.1 hD.1 (fun _ _ => Nat.zero_le _) (fun _ _ => Nat.zero_le _) (hq.2.2.1.trans hD.2.2.1.symm), x7, x12, x3, x4, x6, x11⟩
              refine ⟨fun y => absurd (msk_zero y) hdne, fun _ => ⟨fun hdis => ?_, fun hnd => bad _ _ _ _ _ _ _ _ _ _ (hfs0 hA2) (fun q rest e => ?_)⟩⟩
              · have ePs : PL segs ++ ds = PL (segs ++ [(F.getD p 0, ds)]) := by rw [PL_app, PL_one]
                have eSs : (SLt TG ++ segs).length + 1 = (SLt TG ++ (segs ++ [(F.getD p 0, ds)])).length := by simp only [List.length_append, List.length_singleton]; omega
                have ePl : (PL (SLt TG ++ segs)).length + ds.length = (PL (SLt TG ++ (segs ++ [(F.getD p 0, ds)]))).length := by
                  rw [← List.append_assoc, PL_app (SLt TG ++ segs), PL_one, List.length_append]
                have h600 := hD.2.2.2
                rw [ePs, eSs, ePl, I_add]
                refine ih (s + 1) p' (segs ++ [(F.getD p 0, ds)]) fs' _ gap' im' fp2 doc2 (F.getD p 0) (by omega) (by omega) hp' (by simp [h4]) (VS_app ⟨v1, v2, v3, v4, v5, v6⟩ g2 (by omega) hdne hD.1 hD.2.1 hdis) hA2 (by omega) (fun q rest e => ?_)
                obtain ⟨x, x1, x2, x3, x4, x5, x6, x7, x8⟩ := hxd q rest e
                refine ⟨x5, x6, ?_, x8⟩
                rw [x7, ← x2, ← x3]
              · obtain ⟨x, x1, x2, x3, x4, -⟩ := hxd q rest e
                exact hnd (x2 ▸ x4)
            · obtain ⟨x, x1, -⟩ := hcg q rest e
              exact hno _ (hcd q rest e x x1)
          · obtain ⟨x, x1, x2, x3, x4, x5, x6, x7, x8, x9, x10, x11, x12, x13, x14, x15, x16⟩ := hcg q rest e
            rw [hSA] at hslp hge
            have := List.length_pos_iff.mpr x13
            omega
      · obtain ⟨x, x1, x2, x3, x4, x5, x6, x7, x8, x9, x10, x11⟩ := hc q rest e
        obtain ⟨d1, d2, d3⟩ := drop_eq x7
        obtain ⟨d4, d5, d6⟩ := drop_eq d3
        have h1 := x10.seg x2
        have h2 := List.length_pos_iff.mpr (x10.2.1 x x2).2.2.1
        exact g ⟨d4, by omega, by omega⟩
    · obtain ⟨x, x1, x2, x3, x4, x5, x6, x7, x8, x9, x10, x11⟩ := hc q rest e
      obtain ⟨d1, d2, d3⟩ := drop_eq x7
      have := (x10.2.1 x x2).1
      exact g ⟨d1, by omega, by omega⟩
