
/-! the reference reads a file: terms -/
theorem r_within {a l m : Nat} {Φ : Int32 → Prop} (ha : a < 9223372036854775808) (hl : l < 9223372036854775808) (hm : m < 9223372036854775808) (h1 : l ≤ a → a ≤ m → Φ (I 1)) (h0 : ¬ (l ≤ a ∧ a ≤ m) → Φ (I 0)) : P_X9_within (J a) (J l) (J m) Φ := by
  unfold P_X9_within
  rw [J_lt ha hl, J_lt hm ha]
  exact ⟨fun q => h0 (by omega), fun q => ⟨fun z => h0 (by omega), fun z => h1 (by omega) (by omega)⟩⟩
def fset (f : Nat → Nat) (ds : List Nat) (i : Nat) : Nat → Nat := fun d => if d ∈ ds then i else f d
/-- the rows of the slot that is read into: the terms so far, and the row of the next -/
def RI (letter impact : Nat → Int32) (TG : List (Nat × List Sg)) (f : Nat → Nat) : Prop :=
  TW letter 2048 (TG.map (fun q => q.1)) ∧ (∀ j q, TG[j]? = some q → ∀ d, d < 40 → impact (10240 + 40 * j + d) = I (impOf q.2 d)) ∧ (TG.length < 64 → ∀ d, d < 40 → impact (10240 + 40 * TG.length + d) = I (f d)) ∧ ∀ j, TG.length < j → j < 64 → ∀ d, d < 40 → impact (10240 + 40 * j + d) = I 0
/-- what lies below that slot stays -/
def FR (l0 i0 letter impact : Nat → Int32) : Prop := (∀ j, j < 2048 → letter j = l0 j) ∧ ∀ j, j < 10240 → impact j = i0 j
theorem FR.set {l0 i0 letter impact : Nat → Int32} (h : FR l0 i0 letter impact) {k : Nat} (hk : 10240 ≤ k) (x : Int32) : FR l0 i0 letter (upd impact k x) := ⟨h.1, fun j hj => by rw [upd_ne (by omega)]; exact h.2 j hj⟩
theorem RI.set {letter impact : Nat → Int32} {TG : List (Nat × List Sg)} {f : Nat → Nat} (h : RI letter impact TG f) {d i : Nat} (hd : d < 40) (ds : List Nat) (hf : ∀ x, f x = fset f [] i x) : RI letter (upd impact (10240 + 40 * TG.length + d) (I i)) TG (fset f [d] i) := by
  obtain ⟨a1, a2, a3, a4⟩ := h
  refine ⟨a1, fun j q hq x hx => ?_, fun h64 x hx => ?_, fun j hj hj2 x hx => ?_⟩
  · have hj : j < TG.length := by
      apply Nat.lt_of_not_le; intro z; rw [List.getElem?_eq_none z] at hq; cases hq
    rw [upd_ne (by omega)]; exact a2 j q hq x hx
  · unfold fset
    by_cases e : x = d
    · subst e; rw [upd_eq, if_pos (by simp)]
    · rw [upd_ne (by omega), if_neg (by simpa using e)]; exact a3 h64 x hx
  · rw [upd_ne (by omega)]; exact a4 j hj hj2 x hx
theorem fset_app (f : Nat → Nat) (ds : List Nat) (d i : Nat) : fset (fset f ds i) [d] i = fset f (ds ++ [d]) i := by
  funext x
  unfold fset
  by_cases h1 : x = d <;> by_cases h2 : x ∈ ds <;> simp [h1, h2]
theorem fset_nil (f : Nat → Nat) (i : Nat) : fset f [] i = f := by funext x; unfold fset; simp
def DR (N : Nat) (f : Nat → Nat) (gs ds : List Nat) : Prop := srt ds ∧ (∀ d ∈ ds, d < N) ∧ gp 0 ds = gs ∧ ∀ d ∈ ds, f d = 0
theorem l_rdocs {l0 i0 : Nat → Int32} {TG : List (Nat × List Sg)} {N i : Nat} {f : Nat → Nat} {gs : List Nat} {gap letter word bits size codec file : Nat → Int32} {fl pl ov l4 l5 l6 : Int32} {K : Int32 → Int32 → (Nat → Int32) → (Nat → Int32) → (Nat → Int32) → (Nat → Int32) → Int32 → Int32 → Int32 → Int32 → Int32 → Int32 → Prop} {Φ : Int32 → Int32 → Int32 → (Nat → Int32) → (Nat → Int32) → (Nat → Int32) → (Nat → Int32) → Prop} (hg : Row gap gs) (hg128 : ∀ g ∈ gs, g < 128) (hn40 : gs.length ≤ 40) (hN : N ≤ 40) (hT : TG.length < 64) (hsz : size 4 = I N) (hf : ∀ d, f d < 2147483648)
    (hi : i < 2147483648)
    (hK : ∀ ds imp, RI letter imp TG (fset f ds i) → FR l0 i0 letter imp → DR N f gs ds → K pl ov letter word gap imp (I 4) (I TG.length) l4 l5 l6 (I gs.length))
    (hΦ : ∀ imp, FR l0 i0 letter imp → (∀ ds, ¬ DR N f gs ds) → Φ (-1) pl ov letter word gap imp) :
    ∀ k j ds imp, gs.length ≤ j + k → j ≤ gs.length → RI letter imp TG (fset f ds i) → FR l0 i0 letter imp → DR N f (gs.take j) ds → (∀ ds2, DR N f gs ds2 → ds2.take j = ds) →
      L_X9_readsTerm_255 (k + 1) fl pl ov file letter word bits size codec gap imp (I 4) (I TG.length) l4 l5 l6 (I i) (I gs.length) (I (nx 0 ds) - I 1) (I j) K Φ := by
  have fin : ∀ j ds imp, gs.length ≤ j → RI letter imp TG (fset f ds i) → FR l0 i0 letter imp → DR N f (gs.take j) ds → K pl ov letter word gap imp (I 4) (I TG.length) l4 l5 l6 (I gs.length) := by
    intro j ds imp h1 hA hFR hD
    rw [List.take_of_length_le h1] at hD
    exact hK ds imp hA hFR hD
  intro k
  induction k with
  | zero =>
    intro j ds imp h1 h2 hA hFR hD hU
    unfold L_X9_readsTerm_255
    rw [I_le (by omega) (by omega)]
    exact ⟨fun _ => fin j ds imp (by omega) hA hFR hD, fun z => by omega⟩
  | succ k ih =>
    intro j ds imp h1 h2 hA hFR hD hU
    unfold L_X9_readsTerm_255
    rw [I_le (by omega) (by omega)]
    refine ⟨fun z => fin j ds imp (by omega) hA hFR hD, fun z => ?_⟩
    have hj : j < gs.length := by omega
    obtain ⟨d1, d2, d3, d4⟩ := hD
    have hlen : ds.length = j := by
      have := congrArg List.length d3
      rw [gp_len, List.length_take] at this; omega
    have hnx : nx 0 ds ≤ N := nx_le d2 0 (by omega)
    have hgj := hg128 _ (getD_mem hj)
    have e1 : I (nx 0 ds) - I 1 + (1 + I (gs.getD j 0)) = I (gs.getD j 0 + nx 0 ds) := by
      rw [← I_add, i_1]
      generalize I (nx 0 ds) = a
      generalize I (gs.getD j 0) = b
      generalize I 1 = c
      grind
    have hd2 : ∀ ds2, DR N f gs ds2 → j < ds2.length ∧ ds2.getD j 0 = gs.getD j 0 + nx 0 ds := fun ds2 hq => by
      have hl2 : ds2.length = gs.length := by rw [← hq.2.2.1, gp_len]
      have := gp_srt_get hq.1 (i := j) (by omega)
      rw [hU ds2 hq, hq.2.2.1] at this
      exact ⟨by omega, this.symm⟩
    have hcl4 : (I 4).toNatClampNeg = 4 := I_cl (by omega)
    have hnot : gs.getD j 0 + nx 0 ds ∉ ds := fun hm => by
      have := srt_app d1 (d := gs.getD j 0 + nx 0 ds) (by omega)
      have := List.pairwise_append.mp this
      have := this.2.2 _ hm (gs.getD j 0 + nx 0 ds) (by simp)
      omega
    simp only [P_X9_cell]
    rw [I_in (by omega), I_in (by omega), hcl4, I_cl (show j < 2147483648 by omega), hg j hj, e1, hsz, I_le (by omega) (by omega)]
    refine ⟨by omega, by omega, fun q => hΦ _ hFR (fun ds2 hq => ?_), fun q => ?_⟩
    · obtain ⟨a1, a2⟩ := hd2 ds2 hq
      have := hq.2.1 _ (getD_mem a1)
      omega
    · have hlt : gs.getD j 0 + nx 0 ds < N := by omega
      have ecell : (2560 : Int32) * I 4 + 40 * I TG.length + I (gs.getD j 0 + nx 0 ds) = I (10240 + 40 * TG.length + (gs.getD j 0 + nx 0 ds)) := by
        rw [i_2560, i_40, I_mul, I_mul, I_add, I_add]
      have hcell : imp (10240 + 40 * TG.length + (gs.getD j 0 + nx 0 ds)) = I (f (gs.getD j 0 + nx 0 ds)) := by
        rw [hA.2.2.1 hT _ (by omega)]; unfold fset; rw [if_neg hnot]
      rw [ecell, I_in (by omega), I_cl (by omega), hcell, i_0, I_le (hf _) (by omega)]
      refine ⟨by omega, fun y => ⟨by omega, ?_⟩, fun y => hΦ _ hFR (fun ds2 hq => ?_)⟩
      · have hA2 := hA.set (d := gs.getD j 0 + nx 0 ds) (i := i) (by omega) ds (fun x => by rw [fset_nil])
        rw [fset_app] at hA2
        have e2 : I (gs.getD j 0 + nx 0 ds) = I (nx 0 (ds ++ [gs.getD j 0 + nx 0 ds])) - I 1 := by
          rw [nx_app, I_sub (by omega), Nat.add_sub_cancel]
        rw [e2, i_1, I_add]
        refine ih (j + 1) (ds ++ [gs.getD j 0 + nx 0 ds]) _ (by omega) (by omega) hA2 (hFR.set (by omega) _) ⟨srt_app d1 (by omega), fun x hx => ?_, ?_, fun x hx => ?_⟩ (fun ds2 hq => ?_)
        · rcases List.mem_append.mp hx with hx | hx
          · exact d2 x hx
          · simp only [List.mem_singleton] at hx; omega
        · rw [gp_app, d3, Nat.add_sub_cancel, ← take_succ_getD hj]
        · rcases List.mem_append.mp hx with hx | hx
          · exact d4 x hx
          · simp only [List.mem_singleton] at hx; rw [hx]; omega
        · obtain ⟨a1, a2⟩ := hd2 ds2 hq
          rw [take_succ_getD a1, hU ds2 hq, a2]
      · obtain ⟨a1, a2⟩ := hd2 ds2 hq
        have := hq.2.2.2 _ (getD_mem a1)
        rw [a2] at this
        omega
def cntF (N : Nat) (f : Nat → Nat) : Nat := ((List.range N).filter (fun d => decide (0 < f d))).length
theorem cntF_le (N : Nat) (f : Nat → Nat) : cntF N f ≤ N := by
  unfold cntF
  have := List.length_filter_le (fun d => decide (0 < f d)) (List.range N)
  rwa [List.length_range] at this
theorem cntF_set {N i : Nat} {f : Nat → Nat} {gs ds : List Nat} (hD : DR N f gs ds) (hi : 1 ≤ i) : cntF N (fset f ds i) = cntF N f + ds.length := by
  obtain ⟨d1, d2, d3, d4⟩ := hD
  unfold cntF
  rw [← List.length_append]
  refine len_of_same (srt.nodup ((srt_range N).filter _)) (List.nodup_append.mpr ⟨srt.nodup ((srt_range N).filter _), d1.nodup, fun a ha x hx e => ?_⟩) (fun x => ?_)
  · have h1 := (List.mem_filter.mp ha).2
    simp only [decide_eq_true_eq] at h1
    have := d4 x hx
    rw [e] at h1; omega
  · simp only [List.mem_append, List.mem_filter, List.mem_range, decide_eq_true_eq]
    unfold fset
    by_cases h : x ∈ ds
    · simp only [h, if_true, or_true, iff_true]; exact ⟨d2 x h, hi⟩
    · simp only [h, if_false, or_false]
theorem impOf_app {segs : List Sg} {x : Sg} (h : ∀ d ∈ x.2, d ∉ PL segs) (d : Nat) : impOf (segs ++ [x]) d = fset (impOf segs) x.2 x.1 d := by
  unfold fset
  by_cases hd : d ∈ x.2
  · rw [if_pos hd]
    have hn : ∀ s ∈ segs, d ∉ s.2 := fun s hs q => h d hd (List.mem_flatMap.mpr ⟨s, hs, q⟩)
    unfold impOf
    rw [List.find?_append, List.find?_eq_none.mpr (fun s hs => by simp [hn s hs])]
    simp [hd]
  · rw [if_neg hd]
    unfold impOf
    rw [List.find?_append]
    cases hq : segs.find? (fun s => decide (d ∈ s.2)) with
    | some s => rfl
    | none => simp [hd]
theorem l_rsegs {l0 i0 : Nat → Int32} {F : List Nat} {file : Nat → Int32} {p0 c b N w sg : Nat} {TG : List (Nat × List Sg)} {letter word bits size codec : Nat → Int32} {K : Int32 → Int32 → (Nat → Int32) → (Nat → Int32) → (Nat → Int32) → (Nat → Int32) → Int32 → Prop} {Φ : Int32 → Int32 → Int32 → (Nat → Int32) → (Nat → Int32) → (Nat → Int32) → (Nat → Int32) → Prop}
    (hb : Row file F) (hy : byt F) (hn : F.length ≤ 6650) (hc2 : c ≤ 2) (hb8 : b ≤ 8) (hN : N ≤ 40) (hT : TG.length < 64) (hbi : bits 4 = I b) (hco : codec 4 = I c) (hsz : size 4 = I N)
    (hK : ∀ p f gap imp, p ≤ F.length → (∀ d, d < N → f d < 2 ^ b) → (∀ d, N ≤ d → f d = 0) → sg ≤ cntF N f → RI letter imp TG f → FR l0 i0 letter imp → (∀ q rest, CQ F p0 c b N TG q rest → q.1 = w ∧ (∀ d, impOf q.2 d = f d) ∧ F.drop p = rest) → K (I p) (I 0) letter word gap imp (I (cntF N f)))
    (hΦ : ∀ pl ov gap imp, FR l0 i0 letter imp → (∀ q rest, ¬ CQ F p0 c b N TG q rest) → Φ (-1) pl ov letter word gap imp) (hsg : sg < 256) :
    ∀ k s p f gap imp, sg ≤ s + k → s ≤ sg → p ≤ F.length → (∀ d, d < N → f d < 2 ^ b) → (∀ d, N ≤ d → f d = 0) → s ≤ cntF N f → RI letter imp TG f → FR l0 i0 letter imp →
      (∀ q rest, CQ F p0 c b N TG q rest → q.1 = w ∧ q.2.length = sg ∧ (∀ d, impOf (q.2.take s) d = f d) ∧ F.drop p = (q.2.drop s).flatMap (encS c) ++ rest) →
      L_X9_readsTerm_165 (k + 1) (I F.length) (I p) (I 0) file letter word bits size codec gap imp (I 4) (I TG.length) (I sg) (I (cntF N f)) (I s) K Φ := by
  have h2b : 2 ^ b ≤ 2 ^ 8 := Nat.pow_le_pow_right (by decide) hb8
  have fin : ∀ s p f gap imp, sg ≤ s → s ≤ sg → p ≤ F.length → (∀ d, d < N → f d < 2 ^ b) → (∀ d, N ≤ d → f d = 0) → s ≤ cntF N f → RI letter imp TG f → FR l0 i0 letter imp →
      (∀ q rest, CQ F p0 c b N TG q rest → q.1 = w ∧ q.2.length = sg ∧ (∀ d, impOf (q.2.take s) d = f d) ∧ F.drop p = (q.2.drop s).flatMap (encS c) ++ rest) → K (I p) (I 0) letter word gap imp (I (cntF N f)) := by
    intro s p f gap imp h1 h2 h3 h4 h5 h6 h7 hFR h8
    refine hK p f gap imp h3 h4 h5 (by omega) h7 hFR (fun q rest e => ?_)
    obtain ⟨a1, a2, a3, a4⟩ := h8 q rest e
    rw [List.take_of_length_le (by omega)] at a3
    rw [List.drop_of_length_le (l := q.2) (by omega)] at a4
    exact ⟨a1, a3, a4⟩
  intro k
  induction k with
  | zero =>
    intro s p f gap imp h1 h2 h3 h4 h5 h6 h7 hFR h8
    unfold L_X9_readsTerm_165
    rw [I_le (by omega) (by omega)]
    exact ⟨fun _ => fin s p f gap imp (by omega) h2 h3 h4 h5 h6 h7 hFR h8, fun z => by omega⟩
  | succ k ih =>
    intro s p f gap imp h1 h2 h3 h4 h5 h6 h7 hFR h8
    unfold L_X9_readsTerm_165
    rw [I_le (by omega) (by omega)]
    refine ⟨fun z => fin s p f gap imp (by omega) h2 h3 h4 h5 h6 h7 hFR h8, fun z => ?_⟩
    have hs : s < sg := by omega
    have hcf := cntF_le N f
    have hc : ∀ q rest, CQ F p0 c b N TG q rest → ∃ x, q.2[s]? = some x ∧ x ∈ q.2 ∧ q.1 = w ∧ q.2.length = sg ∧ q.2.take (s + 1) = q.2.take s ++ [x] ∧ F.drop p = x.1 :: x.2.length :: (encG c (gp 0 x.2) ++ ((q.2.drop (s + 1)).flatMap (encS c) ++ rest)) ∧ (∀ d ∈ x.2, d ∉ PL (q.2.take s)) ∧ VS b N q.2 ∧ (∀ d, impOf (q.2.take s) d = f d) := fun q rest e => by
      obtain ⟨a1, a2, a3, a4⟩ := h8 q rest e
      obtain ⟨e1, e2, e3, e4, e5, e6⟩ := e
      obtain ⟨x, hx⟩ : ∃ x, q.2[s]? = some x := ⟨_, List.getElem?_eq_getElem (by omega)⟩
      have hsp := split_at hx
      have hnd := e3.2.2
      rw [hsp, PL_app, PL_cons, List.nodup_append] at hnd
      refine ⟨x, hx, List.mem_of_getElem? hx, a1, a2, by rw [List.take_succ, hx]; rfl, ?_, fun d hd hm => hnd.2.2 d hm d (List.mem_append_left _ hd) rfl, e3, a3⟩
      rw [a4]
      have hd : q.2.drop s = x :: q.2.drop (s + 1) := by
        have hlt : s < q.2.length := by omega
        rw [List.drop_eq_getElem_cons hlt]
        rw [List.getElem?_eq_getElem hlt] at hx
        cases hx; rfl
      rw [hd, List.flatMap_cons, encS]; simp only [List.cons_append, List.append_assoc]
    have bad2 : ∀ pl ov gap imp, FR l0 i0 letter imp → (∀ q rest, CQ F p0 c b N TG q rest → False) → Φ (-1) pl ov letter word gap imp := fun pl ov gap imp hf q => hΦ pl ov gap imp hf q
    have bad : ∀ pl ov gap, (∀ q rest, CQ F p0 c b N TG q rest → False) → Φ (-1) pl ov letter word gap imp := fun pl ov gap q => hΦ pl ov gap imp hFR q
    have hcl4 : (I 4).toNatClampNeg = 4 := I_cl (by omega)
    have hin4 : vp_in (I 4) 5 := by rw [I_in (by omega)]; omega
    have hF0 := hy.get p
    have hF1 := hy.get (p + 1)
    rw [hcl4, hbi, hco, hsz]
    refine r_take hb hn h3 (fun g1 => r_take hb hn (by omega) (fun g2 => ⟨fun y => absurd rfl y, fun _ => ?_⟩) (fun ge pl' ov' ho => ⟨fun _ => bad _ _ _ (fun q rest e => ?_), fun y => absurd y ho⟩)) (fun ge pl' ov' ho => r_takeO ho (fun pl2 ov2 ho2 => ⟨fun _ => bad _ _ _ (fun q rest e => ?_), fun y => absurd y ho2⟩))
    · rw [i_0, I_eq (by omega) (by omega), I_sl1 (by omega), I_le (by omega) (by omega)]
      refine ⟨fun y => bad _ _ _ (fun q rest e => ?_), fun y => ⟨hin4, fun y2 => bad _ _ _ (fun q rest e => ?_), fun y2 => ⟨hin4, ?_⟩⟩⟩
      · obtain ⟨x, x1, x2, x3, x4, x5, x6, x7, x8, x9⟩ := hc q rest e
        obtain ⟨d1, d2, d3⟩ := drop_eq x6
        have := (x8.2.1 x x2).1
        omega
      · obtain ⟨x, x1, x2, x3, x4, x5, x6, x7, x8, x9⟩ := hc q rest e
        obtain ⟨d1, d2, d3⟩ := drop_eq x6
        have := (x8.2.1 x x2).2.1
        omega
      · rw [IJ (by omega), IJ (by omega), j_1]
        refine r_within (by omega) (by omega) (by omega) (fun g3 g4 => ⟨fun _ => ⟨hin4, ?_⟩, fun y => absurd y (by decide)⟩) (fun g => ⟨fun y => absurd rfl y, fun _ => bad _ _ _ (fun q rest e => ?_)⟩)
        · refine r_tkgaps hc2 hb hy hn (by omega) (by omega) (fun pl ov gap' hRH => ?_)
          rcases hRH with ⟨ho, hno⟩ | ⟨ho, p', hpl, hp', ⟨gs, gl, g128, grow⟩, hcp⟩
          · refine ⟨fun y => absurd y ho, fun _ => bad _ _ _ (fun q rest e => ?_)⟩
            obtain ⟨x, x1, x2, x3, x4, x5, x6, x7, x8, x9⟩ := hc q rest e
            obtain ⟨d1, d2, d3⟩ := drop_eq x6
            obtain ⟨d4, d5, d6⟩ := drop_eq d3
            have hv := x8.2.1 x x2
            exact hno (gp 0 x.2) _ (by rw [gp_len, d5]) (fun g hg => by have := gp_lt hv.2.2.2.2 0 g hg; omega) d6
          · subst ho; subst hpl
            refine ⟨fun _ => ⟨gs.length + 1, ?_⟩, fun y => absurd rfl y⟩
            have hcd : ∀ q rest, CQ F p0 c b N TG q rest → ∃ x, q.2[s]? = some x ∧ q.1 = w ∧ q.2.length = sg ∧ q.2.take (s + 1) = q.2.take s ++ [x] ∧ x.1 = F.getD p 0 ∧ DR N f gs x.2 ∧ (∀ d ∈ x.2, d ∉ PL (q.2.take s)) ∧ (∀ d, impOf (q.2.take s) d = f d) ∧ F.drop p' = (q.2.drop (s + 1)).flatMap (encS c) ++ rest := fun q rest e => by
              obtain ⟨x, x1, x2, x3, x4, x5, x6, x7, x8, x9⟩ := hc q rest e
              obtain ⟨d1, d2, d3⟩ := drop_eq x6
              obtain ⟨d4, d5, d6⟩ := drop_eq d3
              have hv := x8.2.1 x x2
              obtain ⟨r1, r2⟩ := hcp (gp 0 x.2) _ (by rw [gp_len, d5]) (fun g hg => by have := gp_lt hv.2.2.2.2 0 g hg; omega) d6
              refine ⟨x, x1, x3, x4, x5, d2.symm, ⟨hv.2.2.2.1, hv.2.2.2.2, Row_inj r1 grow (by rw [gp_len, gl, d5]) (fun z hz => by have := gp_lt hv.2.2.2.2 0 z hz; omega) (fun z hz => by have := g128 z hz; omega), fun d hd => ?_⟩, x7, x9, r2⟩
              rw [← x9 d]
              exact impOf_none (fun t ht hm => x7 d hd (List.mem_flatMap.mpr ⟨t, ht, hm⟩))
            have hff : ∀ d, f d < 2147483648 := fun d => by
              by_cases q : d < N
              · have := h4 d q; omega
              · rw [h5 d (by omega)]; omega
            rw [← gl]
            refine l_rdocs (f := f) (i := F.getD p 0) grow g128 (by omega) hN hT hsz hff (by omega) (fun ds imp' hR' hFR' hD => ?_) (fun imp' hFR' hno => bad2 _ _ _ _ hFR' (fun q rest e => ?_)) gs.length 0 [] imp (by omega) (by omega) (by rw [fset_nil]; exact h7) hFR ⟨List.Pairwise.nil, by simp, rfl, by simp⟩ (fun ds2 _ => rfl)
            · have hdl : ds.length = gs.length := by rw [← hD.2.2.1, gp_len]
              have hcs := cntF_set (i := F.getD p 0) hD (by omega)
              rw [I_add, i_1, I_add, ← hdl, ← hcs]
              refine ih (s + 1) p' (fset f ds (F.getD p 0)) gap' imp' (by omega) (by omega) hp' (fun d hd => ?_) (fun d hd => ?_) (by omega) hR' hFR' (fun q rest e => ?_)
              · unfold fset; split
                · omega
                · exact h4 d hd
              · unfold fset; rw [if_neg (fun hm => by have := hD.2.1 d hm; omega)]; exact h5 d hd
              · obtain ⟨x, x1, x3, x4, x5, x6, x7, x8, x9, x10⟩ := hcd q rest e
                have hxd : x.2 = ds := gp_inj _ _ 0 x7.1 hD.1 (fun _ _ => Nat.zero_le _) (fun _ _ => Nat.zero_le _) (x7.2.2.1.trans hD.2.2.1.symm)
                refine ⟨x3, x4, fun d => ?_, x10⟩
                rw [x5, impOf_app x8]
                unfold fset
                rw [hxd, x6, x9]
            · obtain ⟨x, x1, x3, x4, x5, x6, x7, -⟩ := hcd q rest e
              exact hno _ x7
        · obtain ⟨x, x1, x2, x3, x4, x5, x6, x7, x8, x9⟩ := hc q rest e
          obtain ⟨d1, d2, d3⟩ := drop_eq x6
          obtain ⟨d4, d5, d6⟩ := drop_eq d3
          have h1 := x8.seg x2
          have h2 := List.length_pos_iff.mpr (x8.2.1 x x2).2.2.1
          exact g ⟨by omega, by omega⟩
    · obtain ⟨x, x1, x2, x3, x4, x5, x6, x7, x8, x9⟩ := hc q rest e
      obtain ⟨d1, d2, d3⟩ := drop_eq x6
      have := (drop_eq d3).1
      omega
    · obtain ⟨x, x1, x2, x3, x4, x5, x6, x7, x8, x9⟩ := hc q rest e
      have := (drop_eq x6).1
      omega
