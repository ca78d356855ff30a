
/-! the reference writes the file: whole -/
def impOf (segs : List Sg) (d : Nat) : Nat := match segs.find? (fun s => decide (d ∈ s.2)) with
  | some s => s.1
  | none => 0
def dsOf (N : Nat) (segs : List Sg) (i : Nat) : List Nat := (List.range N).filter (fun d => decide (impOf segs d = i))
theorem srt_range (n : Nat) : srt (List.range n) := List.pairwise_lt_range
theorem srt_dsOf (N : Nat) (segs : List Sg) (i : Nat) : srt (dsOf N segs i) := (srt_range N).filter _
theorem srt_ext {l m : List Nat} (h1 : srt l) (h2 : srt m) (h : ∀ x, x ∈ l ↔ x ∈ m) : l = m :=
  List.Perm.eq_of_pairwise (le := (· < ·)) (fun a b _ _ x y => absurd x (Nat.lt_asymm y)) h1 h2 ((List.perm_ext_iff_of_nodup h1.nodup h2.nodup).mpr h)
theorem PL_cons (s : Sg) (sl : List Sg) : PL (s :: sl) = s.2 ++ PL sl := by unfold PL; rw [List.flatMap_cons]
theorem impOf_mem {segs : List Sg} (hn : (PL segs).Nodup) {s : Sg} (hs : s ∈ segs) {d : Nat} (hd : d ∈ s.2) : impOf segs d = s.1 := by
  induction segs with
  | nil => cases hs
  | cons x segs ih =>
    rw [PL_cons, List.nodup_append] at hn
    unfold impOf
    rcases List.mem_cons.mp hs with rfl | hs
    · rw [List.find?_cons_of_pos (by simp [hd])]
    · have : d ∉ x.2 := fun q => hn.2.2 d q d (List.mem_flatMap.mpr ⟨s, hs, hd⟩) rfl
      rw [List.find?_cons_of_neg (by simp [this])]
      exact ih hn.2.1 hs
theorem impOf_none {segs : List Sg} {d : Nat} (h : ∀ s ∈ segs, d ∉ s.2) : impOf segs d = 0 := by
  unfold impOf
  rw [List.find?_eq_none.mpr (fun s hs => by simp [h s hs])]
theorem impOf_some {segs : List Sg} {d i : Nat} (hi : 1 ≤ i) (h : impOf segs d = i) : ∃ s ∈ segs, d ∈ s.2 ∧ s.1 = i := by
  unfold impOf at h
  split at h
  · rename_i s hs
    exact ⟨s, List.mem_of_find?_eq_some hs, of_decide_eq_true (by simpa using List.find?_some hs), h⟩
  · omega
theorem desc_inj {segs : List Sg} (h : segs.Pairwise (fun s s' => s'.1 < s.1)) {s s' : Sg} (hs : s ∈ segs) (hs' : s' ∈ segs) (e : s.1 = s'.1) : s = s' := by
  induction segs with
  | nil => cases hs
  | cons x segs ih =>
    rw [List.pairwise_cons] at h
    rcases List.mem_cons.mp hs with e1 | h1 <;> rcases List.mem_cons.mp hs' with e2 | h2
    · rw [e1, e2]
    · have := h.1 _ h2; rw [e1] at e; omega
    · have := h.1 _ h1; rw [e2] at e; omega
    · exact ih h.2 h1 h2
theorem dsOf_mem {b N : Nat} {segs : List Sg} (h : VS b N segs) {s : Sg} (hs : s ∈ segs) : dsOf N segs s.1 = s.2 := by
  have hv := h.2.1 s hs
  refine srt_ext (srt_dsOf _ _ _) hv.2.2.2.1 (fun d => ?_)
  unfold dsOf
  simp only [List.mem_filter, List.mem_range, decide_eq_true_eq]
  constructor
  · rintro ⟨h1, h2⟩
    obtain ⟨s', hs', hd, e⟩ := impOf_some hv.1 h2
    rw [desc_inj h.1 hs hs' e.symm]; exact hd
  · intro hd
    exact ⟨hv.2.2.2.2 d hd, impOf_mem h.2.2 hs hd⟩
theorem dsOf_not {b N : Nat} {segs : List Sg} (h : VS b N segs) {i : Nat} (hi : 1 ≤ i) (hn : ∀ s ∈ segs, s.1 ≠ i) : dsOf N segs i = [] := by
  unfold dsOf
  rw [List.filter_eq_nil_iff]
  intro d _
  simp only [decide_eq_true_eq]
  intro q
  obtain ⟨s, hs, -, e⟩ := impOf_some hi q
  exact hn s hs e
def above (segs : List Sg) (i : Nat) : List Sg := segs.filter (fun s => decide (i < s.1))
theorem above_step {b N : Nat} {segs : List Sg} (h : VS b N segs) {i : Nat} (hi : 1 ≤ i) : above segs (i - 1) = above segs i ++ (if dsOf N segs i = [] then [] else [(i, dsOf N segs i)]) := by
  have e : (if dsOf N segs i = [] then [] else [(i, dsOf N segs i)]) = segs.filter (fun s => decide (s.1 = i)) := by
    by_cases q : ∃ s ∈ segs, s.1 = i
    · obtain ⟨s, hs, e⟩ := q
      subst e
      have hv := h.2.1 s hs
      rw [dsOf_mem h hs, if_neg hv.2.2.1]
      have : ∀ l : List Sg, l.Pairwise (fun s s' => s'.1 < s.1) → s ∈ l → l.filter (fun x => decide (x.1 = s.1)) = [s] := by
        intro l
        induction l with
        | nil => intro _ hm; cases hm
        | cons x l ih =>
          intro hp hm
          have hp2 := hp
          rw [List.pairwise_cons] at hp
          rcases List.mem_cons.mp hm with rfl | hm2
          · rw [List.filter_cons_of_pos (by simp), List.filter_eq_nil_iff.mpr (fun y hy => by have := hp.1 y hy; simp; omega)]
          · have := hp.1 s hm2
            rw [List.filter_cons_of_neg (by simp; omega)]
            exact ih hp.2 hm2
      exact (this segs h.1 hs).symm
    · have hn : ∀ s ∈ segs, s.1 ≠ i := fun s hs e => q ⟨s, hs, e⟩
      rw [dsOf_not h hi hn, if_pos rfl, List.filter_eq_nil_iff.mpr (fun s hs => by simp [hn s hs])]
  rw [e]
  unfold above
  have : ∀ l : List Sg, l.Pairwise (fun s s' => s'.1 < s.1) → l.filter (fun s => decide (i - 1 < s.1)) = l.filter (fun s => decide (i < s.1)) ++ l.filter (fun s => decide (s.1 = i)) := by
    intro l
    induction l with
    | nil => intro _; rfl
    | cons x l ih =>
      intro hp
      rw [List.pairwise_cons] at hp
      by_cases h1 : i < x.1
      · rw [List.filter_cons_of_pos (by simp; omega), List.filter_cons_of_pos (by simp [h1]), List.filter_cons_of_neg (by simp; omega), ih hp.2]; rfl
      · have hnil : ∀ j, i ≤ j + 1 → x.1 ≤ j + 1 → l.filter (fun s => decide (j < s.1)) = [] ∨ True := fun _ _ _ => Or.inr trivial
        by_cases h2 : x.1 = i
        · have e1 : l.filter (fun s => decide (i < s.1)) = [] := List.filter_eq_nil_iff.mpr (fun y hy => by have := hp.1 y hy; simp; omega)
          have e2 : l.filter (fun s => decide (i - 1 < s.1)) = [] := List.filter_eq_nil_iff.mpr (fun y hy => by have := hp.1 y hy; simp; omega)
          have e3 : l.filter (fun s => decide (s.1 = i)) = [] := List.filter_eq_nil_iff.mpr (fun y hy => by have := hp.1 y hy; simp; omega)
          rw [List.filter_cons_of_pos (by simp; omega), List.filter_cons_of_neg (by simp; omega), List.filter_cons_of_pos (by simp [h2]), e1, e2, e3]; rfl
        · rw [List.filter_cons_of_neg (by simp; omega), List.filter_cons_of_neg (by simp; omega), List.filter_cons_of_neg (by simp [h2]), ih hp.2]
  exact this segs h.1
theorem above_top {b N : Nat} {segs : List Sg} (h : VS b N segs) (hb : b ≤ 8) : above segs 255 = [] := by
  unfold above
  refine List.filter_eq_nil_iff.mpr (fun s hs => ?_)
  have h1 := (h.2.1 s hs).2.1
  have h2 : 2 ^ b ≤ 2 ^ 8 := Nat.pow_le_pow_right (by decide) hb
  simp; omega
theorem above_zero {b N : Nat} {segs : List Sg} (h : VS b N segs) : above segs 0 = segs := by
  unfold above
  exact List.filter_eq_self.mpr (fun s hs => by have := (h.2.1 s hs).1; simp; omega)
/-- the rows of one slot -/
def RX (s b c N : Nat) (TG : List (Nat × List Sg)) (bits codec size words letter impact : Nat → Int32) : Prop :=
  bits s = I b ∧ codec s = I c ∧ size s = I N ∧ words s = I TG.length ∧ TW letter (512 * s) (TG.map (fun q => q.1)) ∧ ∀ t q, TG[t]? = some q → ∀ d, d < 40 → impact (2560 * s + 40 * t + d) = I (impOf q.2 d)
def nx : Nat → List Nat → Nat
  | e, [] => e
  | _, d :: ds => nx (d + 1) ds
theorem nx_app (ds : List Nat) (d : Nat) : ∀ e, nx e (ds ++ [d]) = d + 1 := by
  induction ds with
  | nil => intro e; rfl
  | cons x ds ih => intro e; exact ih (x + 1)
theorem gp_app (ds : List Nat) (d : Nat) : ∀ e, gp e (ds ++ [d]) = gp e ds ++ [d - nx e ds] := by
  induction ds with
  | nil => intro e; rfl
  | cons x ds ih => intro e; simp only [List.cons_append, gp, ih, nx]
theorem nx_le {ds : List Nat} {n : Nat} (h : ∀ d ∈ ds, d < n) : ∀ e, e ≤ n → nx e ds ≤ n := by
  induction ds with
  | nil => intro e he; exact he
  | cons x ds ih => intro e he; exact ih (fun d hd => h d (List.mem_cons_of_mem _ hd)) (x + 1) (h x List.mem_cons_self)
theorem l_gaps {s t i N : Nat} {f : Nat → Nat} {size impact : Nat → Int32} {K : (Nat → Int32) → Int32 → Prop} {Φ : Int32 → (Nat → Int32) → Prop} (hs : s < 5) (ht : t < 64) (hN : N ≤ 40) (hsz : size s = I N) (hf : ∀ d, d < N → impact (2560 * s + 40 * t + d) = I (f d) ∧ f d < 2147483648) (hi : i < 2147483648)
    (hK : ∀ gap, Row gap (gp 0 ((List.range N).filter (fun d => decide (f d = i)))) → K gap (I (gp 0 ((List.range N).filter (fun d => decide (f d = i)))).length)) :
    ∀ k d gap, N ≤ d + k → d ≤ N → Row gap (gp 0 ((List.range d).filter (fun d => decide (f d = i)))) → L_X9_gaps_9 (k + 1) size impact gap (I s) (I t) (I i) (I (gp 0 ((List.range d).filter (fun d => decide (f d = i)))).length) (I (nx 0 ((List.range d).filter (fun d => decide (f d = i)))) - I 1) (I d) K Φ := by
  intro k
  induction k with
  | zero =>
    intro d gap h1 h2 h3
    unfold L_X9_gaps_9
    simp (disch := omega) only [i_0, I_in, I_cl]
    rw [hsz, I_le (by omega) (by omega)]
    have : d = N := by omega
    subst this
    exact ⟨hs, fun _ => hK gap h3, fun z => by omega⟩
  | succ k ih =>
    intro d gap h1 h2 h3
    unfold L_X9_gaps_9
    simp (disch := omega) only [i_0, I_in, I_cl]
    rw [hsz, I_le (by omega) (by omega)]
    refine ⟨hs, fun z => ?_, fun z => ?_⟩
    · have : d = N := by omega
      subst this
      exact hK gap h3
    · simp only [P_X9_cell]
      have hd : d < N := by omega
      obtain ⟨e1, e2⟩ := hf d hd
      rw [i_2560, i_40, I_mul, I_mul, I_add, I_add]
      rw [I_in (by omega), I_cl (by omega), e1, I_eq e2 hi]
      have hlen : ((List.range d).filter (fun d => decide (f d = i))).length ≤ d := by
        have := List.length_filter_le (fun d => decide (f d = i)) (List.range d)
        rwa [List.length_range] at this
      have hnx : nx 0 ((List.range d).filter (fun d => decide (f d = i))) ≤ d := nx_le (fun x hx => List.mem_range.mp ((List.mem_filter.mp hx).1)) 0 (Nat.zero_le _)
      refine ⟨by omega, fun q => ⟨by rw [gp_len, I_in (by omega)]; omega, ?_⟩, fun q => ?_⟩
      · have key := ih (d + 1) (upd gap (gp 0 ((List.range d).filter (fun d => decide (f d = i)))).length (I (d - nx 0 ((List.range d).filter (fun d => decide (f d = i)))))) (by omega) (by omega) (by
          rw [List.range_succ, List.filter_append, List.filter_cons_of_pos (by simp [q]), List.filter_nil, gp_app]
          exact h3.put _)
        rw [List.range_succ, List.filter_append, List.filter_cons_of_pos (by simp [q]), List.filter_nil, gp_app, nx_app, I_sub (by omega), Nat.add_sub_cancel, List.length_append] at key
        rw [gp_len] at key ⊢
        rw [i_1, I_gap _ _ hnx, I_add, I_add, I_cl (by omega)]
        exact key
      · have key := ih (d + 1) gap (by omega) (by omega) (by
          rw [List.range_succ, List.filter_append, List.filter_cons_of_neg (by simp [q]), List.filter_nil, List.append_nil]; exact h3)
        rw [List.range_succ, List.filter_append, List.filter_cons_of_neg (by simp [q]), List.filter_nil, List.append_nil] at key
        rw [i_1, I_add]
        exact key
theorem r_gapsF {s t i N : Nat} {f : Nat → Nat} {size impact gap : Nat → Int32} {Φ : Int32 → (Nat → Int32) → Prop} (hs : s < 5) (ht : t < 64) (hN : N ≤ 40) (hsz : size s = I N) (hf : ∀ d, d < N → impact (2560 * s + 40 * t + d) = I (f d) ∧ f d < 2147483648) (hi : i < 2147483648)
    (h : ∀ gap', Row gap' (gp 0 ((List.range N).filter (fun d => decide (f d = i)))) → Φ (I (gp 0 ((List.range N).filter (fun d => decide (f d = i)))).length) gap') : P_X9_gaps size impact gap (I s) (I t) (I i) Φ := by
  refine ⟨N + 1, ?_⟩
  have key := l_gaps (K := fun gap_4 l4_5 => Φ l4_5 gap_4) (Φ := Φ) hs ht hN hsz hf hi h N 0 gap (by omega) (by omega) (fun j hj => by simp [gp] at hj)
  exact key
theorem impOf_lt {b N : Nat} {segs : List Sg} (h : VS b N segs) (hb : b ≤ 8) (d : Nat) : impOf segs d < 256 := by
  by_cases q : 1 ≤ impOf segs d
  · obtain ⟨s, hs, -, e⟩ := impOf_some q rfl
    have h1 := (h.2.1 s hs).2.1
    have h2 : 2 ^ b ≤ 2 ^ 8 := Nat.pow_le_pow_right (by decide) hb
    omega
  · omega
theorem r_gaps {s t i b c N : Nat} {TG : List (Nat × List Sg)} {q : Nat × List Sg} {bits codec size words letter impact gap : Nat → Int32} {Φ : Int32 → (Nat → Int32) → Prop} (hs : s < 5) (hR : RX s b c N TG bits codec size words letter impact) (hV : VT b N TG) (hq : TG[t]? = some q) (hi : i < 2147483648)
    (h : ∀ gap', Row gap' (gp 0 (dsOf N q.2 i)) → Φ (I (gp 0 (dsOf N q.2 i)).length) gap') : P_X9_gaps size impact gap (I s) (I t) (I i) Φ := by
  have ht : t < TG.length := by
    apply Nat.lt_of_not_le; intro z; rw [List.getElem?_eq_none z] at hq; cases hq
  have h64 : TG.length ≤ 64 := hV.2.2.2.2.1
  have hvq := (hV.2.2.2.2.2.2.1 q (List.mem_of_getElem? hq)).2.2
  have hN := hV.2.2.2.1
  exact r_gapsF hs (by omega) hN hR.2.2.1 (fun d hd => ⟨hR.2.2.2.2.2 t q hq d (by omega), by have := impOf_lt hvq hV.2.1 d; omega⟩) hi h
theorem dsOf_len {N : Nat} (segs : List Sg) (i : Nat) : (dsOf N segs i).length ≤ N := by
  unfold dsOf
  have := List.length_filter_le (fun d => decide (impOf segs d = i)) (List.range N)
  rwa [List.length_range] at this
theorem above_len_le {segs : List Sg} (i : Nat) : (above segs i).length ≤ segs.length := List.length_filter_le _ _
theorem PL_sub {l m : List Sg} (h : l.Sublist m) : (PL l).length ≤ (PL m).length := by
  induction h with
  | slnil => exact Nat.le_refl _
  | cons a _ ih => rw [PL_cons, List.length_append]; omega
  | cons_cons a _ ih => rw [PL_cons, PL_cons, List.length_append, List.length_append]; omega
theorem l_segsOf {s t b c N : Nat} {TG : List (Nat × List Sg)} {q : Nat × List Sg} {bits codec size words letter impact : Nat → Int32} {K : (Nat → Int32) → Int32 → Prop} {Φ : Int32 → (Nat → Int32) → Prop} (hs : s < 5) (hR : RX s b c N TG bits codec size words letter impact) (hV : VT b N TG) (hq : TG[t]? = some q)
    (hK : ∀ gap, K gap (I q.2.length)) : ∀ k i gap, i ≤ k → i ≤ 255 → L_X9_segmentsOf_7 (k + 1) size impact gap (I s) (I t) (I (above q.2 i).length) (I i) K Φ := by
  have hvq := (hV.2.2.2.2.2.2.1 q (List.mem_of_getElem? hq)).2.2
  have hN := hV.2.2.2.1
  intro k
  induction k with
  | zero =>
    intro i gap h1 h2
    unfold L_X9_segmentsOf_7
    have : i = 0 := by omega
    subst this
    rw [above_zero hvq]
    exact ⟨fun _ => hK gap, fun z => absurd (Int32.le_refl _) z⟩
  | succ k ih =>
    intro i gap h1 h2
    unfold L_X9_segmentsOf_7
    rw [i_0, I_le (by omega) (by omega)]
    refine ⟨fun z => ?_, fun z => ?_⟩
    · have : i = 0 := by omega
      subst this
      rw [above_zero hvq]
      exact hK gap
    · refine r_gaps hs hR hV hq (by omega) (fun gap' hg => ?_)
      have hl := dsOf_len (N := N) q.2 i
      have key := ih (i - 1) gap' (by omega) (by omega)
      rw [above_step hvq (by omega)] at key
      rw [gp_len, I_le (by omega) (by omega), I_an (by omega)]
      refine ⟨fun y => ?_, fun y => ?_⟩
      · have : dsOf N q.2 i = [] := List.length_eq_zero_iff.mp (by omega)
        rw [if_pos this, List.append_nil] at key
        rw [I_add]; exact key
      · have : dsOf N q.2 i ≠ [] := fun z => y (by rw [z]; exact Nat.le_refl _)
        rw [if_neg this, List.length_append] at key
        rw [i_1, I_add]; exact key
theorem r_segsOf {s t b c N : Nat} {TG : List (Nat × List Sg)} {q : Nat × List Sg} {bits codec size words letter impact gap : Nat → Int32} {Φ : Int32 → (Nat → Int32) → Prop} (hs : s < 5) (hR : RX s b c N TG bits codec size words letter impact) (hV : VT b N TG) (hq : TG[t]? = some q)
    (h : ∀ gap', Φ (I q.2.length) gap') : P_X9_segmentsOf size impact gap (I s) (I t) Φ := by
  have hvq := (hV.2.2.2.2.2.2.1 q (List.mem_of_getElem? hq)).2.2
  have key := l_segsOf (K := fun gap_5 l3_6 => Φ l3_6 gap_5) (Φ := Φ) hs hR hV hq h 255 255 gap (by omega) (by omega)
  rw [above_top hvq hV.2.1] at key
  exact ⟨255 + 1, key⟩
theorem l_rletters {s t w : Nat} {letter : Nat → Int32} {K Φ : Int32 → Prop} (hs : s < 5) (ht : t < 64) (hw : okw w) (hL : ∀ k, k < 8 → letter (512 * s + 8 * t + k) = I (lw w k)) (hK : K (I (lets w).length)) :
    ∀ k i, 8 ≤ i + k → i ≤ (lets w).length → L_X9_lettersOf_2 (k + 1) letter (I s) (I t) (I i) K Φ := by
  obtain ⟨h1, h2, h3, h4⟩ := hw.lets
  have hlw : ∀ k, k < 8 → lw w k = (lets w).getD k 0 := fun k hk => by
    conv => lhs; rw [h4]
    exact lw_pk h1.lt hk
  intro k
  induction k with
  | zero =>
    intro i a1 a2
    unfold L_X9_lettersOf_2
    have : i = (lets w).length := by omega
    subst this
    rw [i_8, I_le (by omega) (by omega)]
    exact ⟨fun _ => hK, fun z => by omega⟩
  | succ k ih =>
    intro i a1 a2
    unfold L_X9_lettersOf_2
    rw [i_8, I_le (by omega) (by omega)]
    refine ⟨fun z => ?_, fun z => ?_⟩
    · have : i = (lets w).length := by omega
      subst this; exact hK
    · rw [i_512, I_mul, I_mul, I_add, I_add, I_in (by omega), I_cl (by omega), hL i (by omega), hlw i (by omega)]
      have hb := byt.get h1.lt i
      rw [i_0, I_eq (by omega) (by omega)]
      refine ⟨by omega, fun y => ?_, fun y => ?_⟩
      · have : i = (lets w).length := by
          apply Nat.le_antisymm a2
          apply Nat.le_of_not_lt
          intro q
          have := h1 _ (getD_mem q)
          omega
        subst this; exact hK
      · rw [i_1, I_add]
        refine ih (i + 1) (by omega) ?_
        apply Nat.lt_of_not_le; intro q; rw [getD_over q] at y; exact y rfl
theorem r_letters {s t w : Nat} {letter : Nat → Int32} {Φ : Int32 → Prop} (hs : s < 5) (ht : t < 64) (hw : okw w) (hL : ∀ k, k < 8 → letter (512 * s + 8 * t + k) = I (lw w k)) (h : Φ (I (lets w).length)) : P_X9_lettersOf letter (I s) (I t) Φ :=
  ⟨8 + 1, l_rletters (K := fun l3_2 => Φ l3_2) hs ht hw hL h 8 0 (by omega) (by omega)⟩
theorem l_rwlet {s t w : Nat} {l : List Nat} {bits codec size words letter impact gap : Nat → Int32} {K : Int32 → (Nat → Int32) → (Nat → Int32) → Int32 → Int32 → Prop} {Φ : Int32 → (Nat → Int32) → (Nat → Int32) → Prop} (hs : s < 5) (ht : t < 64) (hw : okw w) (hL : ∀ k, k < 8 → letter (512 * s + 8 * t + k) = I (lw w k)) (hc : l.length + (lets w).length ≤ 16000)
    (hK : ∀ row, Row row (l ++ lets w) → K (I (l ++ lets w).length) row gap (I s) (I t)) :
    ∀ k i row, (lets w).length ≤ i + k → i ≤ (lets w).length → Row row (l ++ (lets w).take i) → L_X9_writes_81 (k + 1) (I (l ++ (lets w).take i).length) row bits codec size words letter impact gap (I s) (I t) (I i) K Φ := by
  obtain ⟨h1, h2, h3, h4⟩ := hw.lets
  have hlw : ∀ k, k < 8 → lw w k = (lets w).getD k 0 := fun k hk => by
    conv => lhs; rw [h4]
    exact lw_pk h1.lt hk
  intro k
  induction k with
  | zero =>
    intro i row a1 a2 a3
    unfold L_X9_writes_81
    refine r_letters hs ht hw hL ?_
    have : i = (lets w).length := by omega
    subst this
    rw [List.take_of_length_le (Nat.le_refl _)] at a3 ⊢
    exact ⟨fun _ => hK row a3, fun z => absurd (Int32.le_refl _) z⟩
  | succ k ih =>
    intro i row a1 a2 a3
    unfold L_X9_writes_81
    refine r_letters hs ht hw hL ?_
    rw [I_le (by omega) (by omega)]
    refine ⟨fun z => ?_, fun z => ?_⟩
    · have : i = (lets w).length := by omega
      subst this
      rw [List.take_of_length_le (Nat.le_refl _)] at a3 ⊢
      exact hK row a3
    · rw [i_512, i_8, I_mul, I_mul, I_add, I_add, I_in (by omega), I_cl (by omega), hL i (by omega), hlw i (by omega)]
      refine ⟨by omega, r_put a3 (by rw [List.length_append, List.length_take]; omega) (fun row' a4 => ?_)⟩
      rw [List.append_assoc, ← take_succ_getD (by omega)] at a4 ⊢
      rw [i_1, I_add]
      exact ih (i + 1) row' (by omega) (by omega) a4
theorem l_rwsegs {s t b c N : Nat} {TG : List (Nat × List Sg)} {q : Nat × List Sg} {l : List Nat} {bits codec size words letter impact : Nat → Int32} {K : Int32 → (Nat → Int32) → (Nat → Int32) → Int32 → Int32 → Prop} {Φ : Int32 → (Nat → Int32) → (Nat → Int32) → Prop} (hs : s < 5) (hR : RX s b c N TG bits codec size words letter impact) (hV : VT b N TG) (hc2 : c ≤ 2) (hq : TG[t]? = some q) (hc : l.length + 10 * (PL q.2).length ≤ 16000)
    (hK : ∀ row gap, Row row (l ++ q.2.flatMap (encS c)) → K (I (l ++ q.2.flatMap (encS c)).length) row gap (I s) (I t)) :
    ∀ k i row gap, i ≤ k → i ≤ 255 → Row row (l ++ (above q.2 i).flatMap (encS c)) → L_X9_writes_132 (k + 1) (I (l ++ (above q.2 i).flatMap (encS c)).length) row bits codec size words letter impact gap (I s) (I t) (I i) K Φ := by
  have hvq := (hV.2.2.2.2.2.2.1 q (List.mem_of_getElem? hq)).2.2
  have hN := hV.2.2.2.1
  intro k
  induction k with
  | zero =>
    intro i row gap h1 h2 h3
    unfold L_X9_writes_132
    have : i = 0 := by omega
    subst this
    rw [above_zero hvq] at h3 ⊢
    exact ⟨fun _ => hK row gap h3, fun z => absurd (Int32.le_refl _) z⟩
  | succ k ih =>
    intro i row gap h1 h2 h3
    unfold L_X9_writes_132
    rw [i_0, I_le (by omega) (by omega)]
    refine ⟨fun z => ?_, fun z => ?_⟩
    · have : i = 0 := by omega
      subst this
      rw [above_zero hvq] at h3 ⊢
      exact hK row gap h3
    · refine r_gaps hs hR hV hq (by omega) (fun gap' hg => ?_)
      have hl := dsOf_len (N := N) q.2 i
      have key := fun row => ih (i - 1) row gap' (by omega) (by omega)
      have hst := above_step hvq (show 1 ≤ i by omega)
      rw [hst] at key
      have hsub : (PL (above q.2 i ++ (if dsOf N q.2 i = [] then [] else [(i, dsOf N q.2 i)]))).length ≤ (PL q.2).length := by
        rw [← hst]
        exact PL_sub List.filter_sublist
      rw [I_an (by omega)]
      have hgl : (gp 0 (dsOf N q.2 i)).length = (dsOf N q.2 i).length := gp_len _ _
      refine ⟨fun y => ?_, fun y => ?_⟩
      · have hne : dsOf N q.2 i ≠ [] := fun z => y (by rw [hgl, z]; rfl)
        rw [if_neg hne] at key hsub
        have hds : ∀ d ∈ dsOf N q.2 i, d < N := fun d hd => List.mem_range.mp ((List.mem_filter.mp hd).1)
        have hok := gp_ok hds hN hl 0
        have hel := encS_len (c := c) (s := (i, dsOf N q.2 i)) hc2 hok hne
        have hes : (encS c (i, dsOf N q.2 i)).length = 2 + (encG c (gp 0 (dsOf N q.2 i))).length := by unfold encS; simp only [List.length_cons]; omega
        have e1 := encSs_len (c := c) (b := b) hc2 hN (above q.2 i) (fun x hx => hvq.all x ((List.mem_filter.mp hx).1))
        have e3 : (PL (above q.2 i ++ [(i, dsOf N q.2 i)])).length = (PL (above q.2 i)).length + (dsOf N q.2 i).length := by
          unfold PL; rw [List.flatMap_append, List.length_append]; simp
        rw [e3] at hsub
        simp only at hel
        refine r_put h3 (by rw [List.length_append]; omega) (fun row1 h4 => ?_)
        rw [hgl]
        refine r_put h4 (by simp only [List.length_append, List.length_singleton]; omega) (fun row2 h5 => ?_)
        have hlen2 : (l ++ (above q.2 i).flatMap (encS c) ++ [i] ++ [(dsOf N q.2 i).length]).length = l.length + ((above q.2 i).flatMap (encS c)).length + 2 := by simp only [List.length_append, List.length_singleton]
        rw [I_in (by omega), I_cl (by omega), hR.2.1]
        refine ⟨hs, ?_⟩
        rw [← hgl]
        rw [← hgl] at h5 hlen2
        refine r_putGaps hc2 h5 hg hok (by omega) (fun row3 h6 => ?_)
        have e4 : l ++ (above q.2 i).flatMap (encS c) ++ [i] ++ [(gp 0 (dsOf N q.2 i)).length] ++ encG c (gp 0 (dsOf N q.2 i)) = l ++ (above q.2 i ++ [(i, dsOf N q.2 i)]).flatMap (encS c) := by
          rw [List.flatMap_append, hgl]; unfold encS; simp only [List.append_assoc, List.singleton_append, List.flatMap_cons, List.flatMap_nil, List.append_nil, List.cons_append, List.nil_append]
        rw [e4] at h6 ⊢
        exact key row3 h6
      · rw [hgl, I_eq (by omega) (by omega)] at y
        have he : dsOf N q.2 i = [] := List.length_eq_zero_iff.mp y
        rw [if_pos he, List.append_nil] at key
        exact key row h3
theorem l_rwterms {s b c N : Nat} {TG : List (Nat × List Sg)} {l : List Nat} {bits codec size words letter impact : Nat → Int32} {K Φ : Int32 → (Nat → Int32) → (Nat → Int32) → Prop} (hs : s < 5) (hR : RX s b c N TG bits codec size words letter impact) (hV : VT b N TG) (hc2 : c ≤ 2) (hc : l.length + 10 * TG.length + 10 * (PL (SLt TG)).length ≤ 16000)
    (hK : ∀ row gap, Row row (l ++ TG.flatMap (encT c)) → (l ++ TG.flatMap (encT c)).length ≤ l.length + 10 * TG.length + 10 * (PL (SLt TG)).length → K (I (l ++ TG.flatMap (encT c)).length) row gap) :
    ∀ k t row gap, TG.length ≤ t + k → t ≤ TG.length → ((TG.take t).flatMap (encT c)).length ≤ 10 * t + 10 * (PL (SLt (TG.take t))).length → Row row (l ++ (TG.take t).flatMap (encT c)) → L_X9_writes_59 (k + 1) (I (l ++ (TG.take t).flatMap (encT c)).length) row bits codec size words letter impact gap (I s) (I t) K Φ := by
  have h64 : TG.length ≤ 64 := hV.2.2.2.2.1
  have hN := hV.2.2.2.1
  intro k
  induction k with
  | zero =>
    intro t row gap h1 h2 hle h3
    unfold L_X9_writes_59
    rw [I_in (by omega), I_cl (by omega), hR.2.2.2.1]
    have : t = TG.length := by omega
    subst this
    rw [List.take_of_length_le (Nat.le_refl _)] at h3 hle ⊢
    exact ⟨hs, fun _ => hK row gap h3 (by rw [List.length_append]; omega), fun z => absurd (Int32.le_refl _) z⟩
  | succ k ih =>
    intro t row gap h1 h2 hle h3
    unfold L_X9_writes_59
    rw [I_in (by omega), I_cl (by omega), hR.2.2.2.1, I_le (by omega) (by omega)]
    refine ⟨hs, fun z => ?_, fun z => ?_⟩
    · have : t = TG.length := by omega
      subst this
      rw [List.take_of_length_le (Nat.le_refl _)] at h3 hle ⊢
      exact hK row gap h3 (by rw [List.length_append]; omega)
    · have ht : t < TG.length := by omega
      obtain ⟨q, hq⟩ : ∃ q, TG[t]? = some q := ⟨_, List.getElem?_eq_getElem ht⟩
      obtain ⟨hok, -, hvq⟩ := hV.2.2.2.2.2.2.1 q (List.mem_of_getElem? hq)
      obtain ⟨g1, g2, g3, g4⟩ := hok.lets
      have e1 : SLt (TG.take (t + 1)) = SLt (TG.take t) ++ q.2 := flat_take hq
      have e2 : (PL (SLt (TG.take (t + 1)))).length = (PL (SLt (TG.take t))).length + (PL q.2).length := by
        rw [e1]; unfold PL; rw [List.flatMap_append, List.length_append]
      have e3 : (PL (SLt (TG.take (t + 1)))).length ≤ (PL (SLt TG)).length := by
        conv => rhs; rw [← List.take_append_drop (t + 1) TG]
        unfold PL SLt
        rw [List.flatMap_append, List.flatMap_append, List.length_append]; omega
      have e4 := encT_len (c := c) hc2 hN hok hvq
      have hL : ∀ k, k < 8 → letter (512 * s + 8 * t + k) = I (lw q.1 k) := fun k hk => by
        rw [hR.2.2.2.2.1 t (by rw [List.length_map]; exact ht) k hk, map_get hq]
      have hfull : (l ++ (TG.take t).flatMap (encT c)).length + 10 + 10 * (PL q.2).length ≤ 16000 := by rw [List.length_append]; omega
      generalize hl' : l ++ (TG.take t).flatMap (encT c) = l' at h3 hfull
      refine r_letters hs (by omega) hok hL (r_put h3 (by omega) (fun row1 h4 => ⟨(lets q.1).length + 1, ?_⟩))
      have hl1 : (l' ++ [(lets q.1).length]).length = l'.length + 1 := by simp
      refine cast ?_ (l_rwlet (bits := bits) (codec := codec) (size := size) (words := words) (impact := impact) (gap := gap) (K := fun drafted_24 draft_25 gap_26 l1_27 l2_28 => P_X9_segmentsOf size impact gap_26 l1_27 l2_28 (fun r_29 gap_30 => P_X9_put drafted_24 draft_25 r_29 (fun drafted_31 draft_32 => ∃ n, L_X9_writes_132 n drafted_31 draft_32 bits codec size words letter impact gap_30 l1_27 l2_28 255 (fun drafted_46 draft_47 gap_48 l1_49 l2_50 => L_X9_writes_59 (k + 1) drafted_46 draft_47 bits codec size words letter impact gap_48 l1_49 (l2_50 + 1) K Φ) Φ))) (Φ := Φ) (l := l' ++ [(lets q.1).length]) hs (by omega) hok hL (by omega) ?_ (lets q.1).length 0 row1 (by omega) (by omega) (by rw [List.take_zero, List.append_nil]; exact h4))
      · rw [List.take_zero, List.append_nil]; rfl
      · intro row2 h5
        refine r_segsOf hs hR hV hq (fun gap2 => ?_)
        refine r_put h5 (by simp only [List.length_append, List.length_singleton]; omega) (fun row3 h6 => ⟨255 + 1, ?_⟩)
        have et : l' ++ [(lets q.1).length] ++ lets q.1 ++ [q.2.length] ++ q.2.flatMap (encS c) = l' ++ encT c q := by
          unfold encT; simp only [List.append_assoc, List.singleton_append, List.cons_append, List.nil_append]
        have hl3 : (l' ++ [(lets q.1).length] ++ lets q.1 ++ [q.2.length]).length = l'.length + (lets q.1).length + 2 := by simp only [List.length_append, List.length_singleton]; omega
        have key := l_rwsegs (l := l' ++ [(lets q.1).length] ++ lets q.1 ++ [q.2.length]) (K := fun drafted_46 draft_47 gap_48 l1_49 l2_50 => L_X9_writes_59 (k + 1) drafted_46 draft_47 bits codec size words letter impact gap_48 l1_49 (l2_50 + 1) K Φ) (Φ := Φ) hs hR hV hc2 hq (by omega) ?_ 255 255 row3 gap2 (by omega) (by omega) (by rw [above_top hvq hV.2.1, List.flatMap_nil, List.append_nil]; exact h6)
        · rw [above_top hvq hV.2.1, List.flatMap_nil, List.append_nil] at key
          exact key
        · intro row4 gap4 h7
          rw [et, ← hl', List.append_assoc, ← flat_take hq] at h7 ⊢
          rw [i_1, I_add]
          exact ih (t + 1) row4 gap4 (by omega) (by omega) (by rw [flat_take hq, List.length_append, e2]; omega) h7
theorem J_div {a b : Nat} (ha : a < 9223372036854775808) (hb : b < 9223372036854775808) : J a / J b = J (a / b) := (Int64.ofNat_div ha hb).symm
theorem J_mod {a b : Nat} (ha : a < 9223372036854775808) (hb : b < 9223372036854775808) : J a - J a / J b * J b = J (a % b) := by
  rw [J_div ha hb, J_mul, J_sub (Nat.div_mul_le_self a b)]
  congr 1
  have := Nat.div_add_mod a b
  rw [Nat.mul_comm] at this
  omega
theorem l_check {l : List Nat} {row : Nat → Int32} {K : Int64 → Int64 → Prop} {Φ : Int64 → Prop} (hb : Row row l) (hy : byt l) (hc : l.length ≤ 16000)
    (hK : K (J (ad l).1) (J (ad l).2)) :
    ∀ k i, l.length ≤ i + k → i ≤ l.length → L_X9_check_8 (k + 1) 16000 row (I l.length) (J (ad (l.take i)).1) (J (ad (l.take i)).2) (I i) K Φ := by
  intro k
  induction k with
  | zero =>
    intro i h1 h2
    unfold L_X9_check_8
    rw [I_le (by omega) (by omega), List.take_of_length_le (by omega)]
    exact ⟨fun _ => hK, fun z => by omega⟩
  | succ k ih =>
    intro i h1 h2
    unfold L_X9_check_8
    rw [I_le (by omega) (by omega)]
    refine ⟨fun z => ?_, fun z => ?_⟩
    · rw [List.take_of_length_le (by omega)]; exact hK
    · have hby := hy.get i
      have hl := ad_lt (l.take i)
      have key := ih (i + 1) (by omega) (by omega)
      rw [ad_take (by omega)] at key
      unfold adS at key
      rw [I_in (by omega), I_cl (by omega), hb i (by omega), IJ (by omega), J_add, j_65521, J_mod (by omega) (by omega)]
      have hm : ((ad (l.take i)).1 + l.getD i 0) % 65521 < 65521 := Nat.mod_lt _ (by decide)
      rw [J_add, J_mod (by omega) (by omega), i_1, I_add]
      exact ⟨by omega, key⟩
theorem r_check {l : List Nat} {row : Nat → Int32} {Φ : Int64 → Prop} (hb : Row row l) (hy : byt l) (hc : l.length ≤ 16000) (h : Φ (J ((ad l).1 + 65536 * (ad l).2))) : P_X9_check 16000 row (I l.length) Φ := by
  have hl := ad_lt l
  refine ⟨l.length + 1, l_check (K := fun l2_3 l4_4 => Φ ((l2_3 + (65536 * l4_4)) &&& 4294967295)) hb hy hc ?_ l.length 0 (by omega) (by omega)⟩
  have e : ((ad l).1 + 65536 * (ad l).2) &&& 4294967295 = (ad l).1 + 65536 * (ad l).2 := by
    rw [show (4294967295 : Nat) = 2 ^ 32 - 1 from rfl, Nat.and_two_pow_sub_one_eq_mod]
    exact Nat.mod_eq_of_lt (by omega)
  rw [j_65536, j_4294967295, J_mul, J_add, J_and, e]
  exact h
theorem sum4_bytes (l : List Nat) : sum4 l = bytesOf ((ad l).1 + 65536 * (ad l).2) 4 := by
  have hl := ad_lt l
  unfold sum4 bytesOf
  simp only [List.range_succ, List.range_zero, List.nil_append, List.map_append, List.map_cons, List.map_nil, List.cons_append]
  refine List.cons_eq_cons.mpr ⟨?_, List.cons_eq_cons.mpr ⟨?_, List.cons_eq_cons.mpr ⟨?_, List.cons_eq_cons.mpr ⟨?_, rfl⟩⟩⟩⟩ <;> omega
theorem l_rsum {P : Nat} {l : List Nat} {bits codec size words letter impact gap : Nat → Int32} {K Φ : Int32 → (Nat → Int32) → (Nat → Int32) → Prop} (hP : P < 18446744073709551616) (hc : l.length + 4 ≤ 16000)
    (hK : ∀ row', Row row' (l ++ bytesOf P 4) → K (I (l ++ bytesOf P 4).length) row' gap) :
    ∀ k i row, 4 ≤ i + k → i ≤ 4 → Row row (l ++ bytesOf P i) → L_X9_writes_203 (k + 1) (I (l ++ bytesOf P i).length) row bits codec size words letter impact gap (J P) (I i) K Φ := by
  intro k
  induction k with
  | zero =>
    intro i row h1 h2 h3
    unfold L_X9_writes_203
    rw [i_4, I_le (by omega) (by omega)]
    have : i = 4 := by omega
    subst this
    exact ⟨fun _ => hK row h3, fun z => by omega⟩
  | succ k ih =>
    intro i row h1 h2 h3
    unfold L_X9_writes_203
    rw [i_4, I_le (by omega) (by omega)]
    refine ⟨fun z => ?_, fun z => ?_⟩
    · have : i = 4 := by omega
      subst this
      exact hK row h3
    · rw [i_8, I_mul, IJ (by omega), j_63, j_255, J_sr8 hP (by omega), JI, pow256]
      refine r_put h3 (by rw [List.length_append, bytesOf_len]; omega) (fun row' h4 => ?_)
      have e : l ++ bytesOf P i ++ [P / 256 ^ i % 256] = l ++ bytesOf P (i + 1) := by rw [bytesOf_succ, List.append_assoc]
      rw [e] at h4 ⊢
      rw [i_1, I_add]
      exact ih (i + 1) row' (by omega) (by omega) h4
theorem r_writes {s b c N : Nat} {TG : List (Nat × List Sg)} {bits codec size words letter impact gap draft : Nat → Int32} {dd : Int32} {Φ : Int32 → (Nat → Int32) → (Nat → Int32) → Prop} (hs : s < 5) (hR : RX s b c N TG bits codec size words letter impact) (hV : VT b N TG) (hc2 : c ≤ 2) (hy : byt (body c (b, N, TG)))
    (h : ∀ row' gap', Row row' (E c (b, N, TG)) → (E c (b, N, TG)).length ≤ 6650 → Φ (I (E c (b, N, TG)).length) row' gap') : P_X9_writes dd draft bits codec size words letter impact gap (I s) Φ := by
  have h64 : TG.length ≤ 64 := hV.2.2.2.2.1
  have hpl := hV.2.2.2.2.2.2.2
  have hb0 : Row draft [] := fun i hi => by simp at hi
  have hins : vp_in (I s) 5 := by rw [I_in (by omega)]; exact hs
  have hcl : (I s).toNatClampNeg = s := I_cl (by omega)
  unfold P_X9_writes
  rw [hcl, hR.1, hR.2.1, hR.2.2.1, hR.2.2.2.1]
  refine r_put (l := []) (x := 73) hb0 (by decide) (fun r1 h1 => ?_)
  refine r_put (x := 109) h1 (by simp) (fun r2 h2 => ⟨hins, ?_⟩)
  refine r_put h2 (by simp) (fun r3 h3 => ⟨hins, ?_⟩)
  refine r_put h3 (by simp) (fun r4 h4 => ⟨hins, ?_⟩)
  refine r_put h4 (by simp) (fun r5 h5 => ⟨hins, ?_⟩)
  refine r_put h5 (by simp) (fun r6 h6 => ⟨TG.length + 1, ?_⟩)
  have e : [] ++ [73] ++ [109] ++ [b] ++ [c] ++ [N] ++ [TG.length] = [73, 109, b, c, N, TG.length] := rfl
  rw [e] at h6 ⊢
  have key := l_rwterms (l := [73, 109, b, c, N, TG.length]) (K := fun drafted_54 draft_55 gap_56 => P_X9_check 16000 draft_55 drafted_54 (fun r_57 => ∃ n, L_X9_writes_203 n drafted_54 draft_55 bits codec size words letter impact gap_56 r_57 0 (fun drafted_63 draft_64 gap_65 => Φ drafted_63 draft_64 gap_65) Φ)) (Φ := Φ) hs hR hV hc2 (by simp only [List.length_cons, List.length_nil]; omega) ?_ TG.length 0 r6 gap (by omega) (by omega) (by simp) (by simpa using h6)
  · rw [List.take_zero, List.flatMap_nil, List.append_nil] at key
    exact key
  · intro r7 gap' h7 hlen
    have hbd : [73, 109, b, c, N, TG.length] ++ TG.flatMap (encT c) = body c (b, N, TG) := rfl
    rw [hbd] at h7 hlen ⊢
    simp only [List.length_cons, List.length_nil] at hlen
    have hl := ad_lt (body c (b, N, TG))
    refine r_check h7 hy (by omega) ⟨4 + 1, ?_⟩
    have e0 : body c (b, N, TG) ++ bytesOf ((ad (body c (b, N, TG))).1 + 65536 * (ad (body c (b, N, TG))).2) 0 = body c (b, N, TG) := by simp [bytesOf]
    have key := l_rsum (bits := bits) (codec := codec) (size := size) (words := words) (letter := letter) (impact := impact) (gap := gap') (l := body c (b, N, TG)) (P := (ad (body c (b, N, TG))).1 + 65536 * (ad (body c (b, N, TG))).2) (K := fun drafted_63 draft_64 gap_65 => Φ drafted_63 draft_64 gap_65) (Φ := Φ) (by omega) (by omega) ?_ 4 0 r7 (by omega) (by omega) (by rw [e0]; exact h7)
    · rw [e0] at key
      exact key
    · intro row8 h8
      rw [← sum4_bytes] at h8 ⊢
      refine h row8 gap' h8 ?_
      show (body c (b, N, TG) ++ sum4 (body c (b, N, TG))).length ≤ 6650
      rw [List.length_append]
      simp only [sum4, List.length_cons, List.length_nil]
      omega
