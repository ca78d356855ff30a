
/-! the class reads a file: terms -/
theorem I_pred {a : Nat} (h : 1 ≤ a) : I a - I 1 = I (a - 1) := I_sub h
theorem SLt_app (TG : List (Nat × List Sg)) (q : Nat × List Sg) : SLt (TG ++ [q]) = SLt TG ++ q.2 := by unfold SLt; rw [List.flatMap_append]; simp
theorem PL_app (sl m : List Sg) : PL (sl ++ m) = PL sl ++ PL m := by unfold PL; rw [List.flatMap_append]
theorem PL_one (s : Sg) : PL [s] = s.2 := by unfold PL; simp
theorem fsF_app {TG : List (Nat × List Sg)} {q : Nat × List Sg} {t : Nat} (h : t ≤ TG.length) : fsF (TG ++ [q]) t = fsF TG t := by unfold fsF; rw [List.take_append_of_le_length h]
theorem fpF_app {sl m : List Sg} {s : Nat} (h : s ≤ sl.length) : fpF (sl ++ m) s = fpF sl s := by unfold fpF; rw [List.take_append_of_le_length h]
theorem fsF_len (TG : List (Nat × List Sg)) : fsF TG TG.length = (SLt TG).length := by unfold fsF; rw [List.take_length]
theorem fpF_len (sl : List Sg) : fpF sl sl.length = (PL sl).length := by unfold fpF; rw [List.take_length]
theorem CA.startTerm {TG : List (Nat × List Sg)} {tm : Nat → Int64} {fs im fp doc : Nat → Int32} (h : CA TG tm fs im fp doc) (w : Nat) : CA (TG ++ [(w, [])]) (vp_updL tm TG.length (J w)) (upd fs (TG.length + 1) (I (SLt TG).length)) im fp doc := by
  obtain ⟨a1, a2, a3, a4, a5⟩ := h
  have e : SLt (TG ++ [(w, ([] : List Sg))]) = SLt TG := by rw [SLt_app, List.append_nil]
  refine ⟨?_, fun t ht => ?_, by rw [e]; exact a3, by rw [e]; exact a4, by rw [e]; exact a5⟩
  · have := a1.put w
    rw [List.length_map] at this
    rw [List.map_append]; exact this
  · by_cases q : t = TG.length + 1
    · subst q
      have hl : TG.length + 1 = (TG ++ [(w, ([] : List Sg))]).length := by simp
      rw [upd_eq, hl, fsF_len, e]
    · have ht2 : t ≤ TG.length := by simp at ht; omega
      rw [upd_ne q, fsF_app ht2]; exact a2 t ht2
theorem CA.startSeg {TG : List (Nat × List Sg)} {w : Nat} {segs : List Sg} {tm : Nat → Int64} {fs im fp doc : Nat → Int32} (h : CA (TG ++ [(w, segs)]) tm fs im fp doc) (i : Nat) :
    CA (TG ++ [(w, segs ++ [(i, [])])]) tm (upd fs (TG.length + 1) (I ((SLt (TG ++ [(w, segs)])).length + 1))) (upd im (SLt (TG ++ [(w, segs)])).length (I i)) (upd fp ((SLt (TG ++ [(w, segs)])).length + 1) (I (PL (SLt (TG ++ [(w, segs)]))).length)) doc := by
  obtain ⟨a1, a2, a3, a4, a5⟩ := h
  have e : SLt (TG ++ [(w, segs ++ [(i, ([] : List Nat))])]) = SLt (TG ++ [(w, segs)]) ++ [(i, [])] := by rw [SLt_app, SLt_app, List.append_assoc]
  have e2 : PL (SLt (TG ++ [(w, segs)]) ++ [(i, ([] : List Nat))]) = PL (SLt (TG ++ [(w, segs)])) := by rw [PL_app, PL_one, List.append_nil]
  refine ⟨by rw [List.map_append] at a1 ⊢; exact a1, fun t ht => ?_, ?_, fun s hs => ?_, by rw [e, e2]; exact a5⟩
  · by_cases q : t = TG.length + 1
    · subst q
      have hl : TG.length + 1 = (TG ++ [(w, segs ++ [(i, ([] : List Nat))])]).length := by simp
      rw [upd_eq, hl, fsF_len, e, List.length_append]; rfl
    · have ht2 : t ≤ TG.length := by simp at ht; omega
      rw [upd_ne q, fsF_app ht2]
      have := a2 t (by simp; omega)
      rwa [fsF_app ht2] at this
  · rw [e, List.map_append]
    have := a3.put i
    rw [List.length_map] at this
    exact this
  · rw [e] at hs ⊢
    by_cases q : s = (SLt (TG ++ [(w, segs)])).length + 1
    · subst q
      have hl : (SLt (TG ++ [(w, segs)])).length + 1 = (SLt (TG ++ [(w, segs)]) ++ [(i, ([] : List Nat))]).length := by simp
      rw [upd_eq, hl, fpF_len, e2]
    · have hs2 : s ≤ (SLt (TG ++ [(w, segs)])).length := by rw [List.length_append] at hs; simp only [List.length_singleton] at hs; omega
      rw [upd_ne q, fpF_app hs2]; exact a4 s hs2
theorem CA.post {TG : List (Nat × List Sg)} {w i : Nat} {segs : List Sg} {ds : List Nat} {tm : Nat → Int64} {fs im fp doc : Nat → Int32} (h : CA (TG ++ [(w, segs ++ [(i, ds)])]) tm fs im fp doc) (d : Nat) :
    CA (TG ++ [(w, segs ++ [(i, ds ++ [d])])]) tm fs im (upd fp (SLt (TG ++ [(w, segs ++ [(i, ds)])])).length (I ((PL (SLt (TG ++ [(w, segs ++ [(i, ds)])]))).length + 1))) (upd doc (PL (SLt (TG ++ [(w, segs ++ [(i, ds)])]))).length (I d)) := by
  obtain ⟨a1, a2, a3, a4, a5⟩ := h
  have e : ∀ l : List Nat, SLt (TG ++ [(w, segs ++ [(i, l)])]) = SLt TG ++ segs ++ [(i, l)] := fun l => by rw [SLt_app, List.append_assoc]
  have hl : ∀ l : List Nat, (SLt (TG ++ [(w, segs ++ [(i, l)])])).length = (SLt TG ++ segs).length + 1 := fun l => by rw [e, List.length_append]; rfl
  have hp : PL (SLt (TG ++ [(w, segs ++ [(i, ds ++ [d])])])) = PL (SLt (TG ++ [(w, segs ++ [(i, ds)])])) ++ [d] := by simp only [e, PL_app, PL_one, List.append_assoc]
  refine ⟨by rw [List.map_append] at a1 ⊢; exact a1, fun t ht => ?_, ?_, fun s hs => ?_, ?_⟩
  · have := a2 t (by simpa using ht)
    rw [this]
    congr 1
    by_cases q : t ≤ TG.length
    · rw [fsF_app q, fsF_app q]
    · have : t = TG.length + 1 := by simp at ht; omega
      subst this
      have h1 : TG.length + 1 = (TG ++ [(w, segs ++ [(i, ds)])]).length := by simp
      have h2 : TG.length + 1 = (TG ++ [(w, segs ++ [(i, ds ++ [d])])]).length := by simp
      conv => lhs; rw [h1, fsF_len, hl]
      conv => rhs; rw [h2, fsF_len, hl]
  · rw [e] at a3 ⊢
    rw [List.map_append] at a3 ⊢; exact a3
  · rw [hl] at hs
    rw [hl]
    by_cases q : s = (SLt TG ++ segs).length + 1
    · subst q
      rw [upd_eq]
      have h2 : (SLt TG ++ segs).length + 1 = (SLt (TG ++ [(w, segs ++ [(i, ds ++ [d])])])).length := (hl _).symm
      rw [h2, fpF_len, hp, List.length_append]; rfl
    · have hs2 : s ≤ (SLt TG ++ segs).length := by omega
      rw [upd_ne q]
      have := a4 s (by rw [hl]; omega)
      rw [e, fpF_app hs2] at this
      rw [e, fpF_app hs2]; exact this
  · rw [hp]; exact a5.put d
theorem s_startTerm {TG : List (Nat × List Sg)} {w : Nat} {tm : Nat → Int64} {fs im fp doc : Nat → Int32} {Φ : Int32 → Int32 → (Nat → Int64) → (Nat → Int32) → Prop} (hA : CA TG tm fs im fp doc) (h64 : TG.length < 64)
    (h : ∀ tm' fs', CA (TG ++ [(w, [])]) tm' fs' im fp doc → Φ (I 1) (I (TG.length + 1)) tm' fs') : P_X4_startTerm (I TG.length) (I (SLt TG).length) tm fs (J w) Φ := by
  unfold P_X4_startTerm
  rw [i_64, I_lt (by omega) (by omega), i_1, I_add, I_in (by omega), I_in (by omega), I_cl (by omega), I_cl (by omega)]
  exact ⟨fun _ => ⟨by omega, by omega, h _ _ (hA.startTerm w)⟩, fun q => absurd h64 q⟩
theorem s_startSeg {TG : List (Nat × List Sg)} {w i : Nat} {segs : List Sg} {tm : Nat → Int64} {fs im fp doc : Nat → Int32} {Φ : Int32 → Int32 → (Nat → Int32) → (Nat → Int32) → (Nat → Int32) → Prop} (hA : CA (TG ++ [(w, segs)]) tm fs im fp doc) (h64 : TG.length < 64) (hsl : (SLt (TG ++ [(w, segs)])).length ≤ 600)
    (h1 : (SLt (TG ++ [(w, segs)])).length < 600 → ∀ im' fs' fp', CA (TG ++ [(w, segs ++ [(i, [])])]) tm fs' im' fp' doc → Φ (I 1) (I ((SLt (TG ++ [(w, segs)])).length + 1)) im' fs' fp')
    (h0 : ¬ (SLt (TG ++ [(w, segs)])).length < 600 → Φ (I 0) (I (SLt (TG ++ [(w, segs)])).length) im fs fp) :
    P_X4_startSegment (I (TG.length + 1)) (I (SLt (TG ++ [(w, segs)])).length) (I (PL (SLt (TG ++ [(w, segs)]))).length) im fs fp (I i) Φ := by
  unfold P_X4_startSegment
  rw [i_600, I_lt (by omega) (by omega), i_1, I_add, I_in (by omega), I_in (by omega), I_in (by omega), I_cl (by omega), I_cl (by omega), I_cl (by omega)]
  exact ⟨fun q => ⟨by omega, by omega, by omega, h1 q _ _ _ (hA.startSeg i)⟩, fun q => h0 q⟩
theorem s_post {TG : List (Nat × List Sg)} {w i d : Nat} {segs : List Sg} {ds : List Nat} {tm : Nat → Int64} {fs im fp doc : Nat → Int32} {Φ : Int32 → Int32 → (Nat → Int32) → (Nat → Int32) → Prop} (hA : CA (TG ++ [(w, segs ++ [(i, ds)])]) tm fs im fp doc) (hsl : (SLt (TG ++ [(w, segs ++ [(i, ds)])])).length ≤ 600) (hpl : (PL (SLt (TG ++ [(w, segs ++ [(i, ds)])]))).length ≤ 600)
    (h1 : (PL (SLt (TG ++ [(w, segs ++ [(i, ds)])]))).length < 600 → ∀ doc' fp', CA (TG ++ [(w, segs ++ [(i, ds ++ [d])])]) tm fs im fp' doc' → Φ (I 1) (I ((PL (SLt (TG ++ [(w, segs ++ [(i, ds)])]))).length + 1)) doc' fp')
    (h0 : ¬ (PL (SLt (TG ++ [(w, segs ++ [(i, ds)])]))).length < 600 → Φ (I 0) (I (PL (SLt (TG ++ [(w, segs ++ [(i, ds)])]))).length) doc fp) :
    P_X4_appendPosting (I (SLt (TG ++ [(w, segs ++ [(i, ds)])])).length) (I (PL (SLt (TG ++ [(w, segs ++ [(i, ds)])]))).length) doc fp (I d) Φ := by
  unfold P_X4_appendPosting
  rw [i_600, I_lt (by omega) (by omega), i_1, I_add, I_in (by omega), I_in (by omega), I_cl (by omega), I_cl (by omega)]
  exact ⟨fun q => ⟨by omega, by omega, h1 q _ _ (hA.post d)⟩, fun q => h0 q⟩
/-- a word is read -/
def RW (F : List Nat) (p w p' : Nat) : Prop := p' ≤ F.length ∧ (w = 0 ∨ okw w) ∧ ∀ v rest, okw v → F.drop p = (lets v).length :: (lets v ++ rest) → w = v ∧ F.drop p' = rest
theorem okw_pos {w : Nat} (h : okw w) : 0 < w := by
  obtain ⟨h1, h2, h3, h4⟩ := h.lets
  apply Nat.pos_of_ne_zero
  intro z
  have e : lw w 0 = (lets w).getD 0 0 := by
    conv => lhs; rw [h4]
    exact lw_pk h1.lt (by omega)
  have := h1 _ (getD_mem (ds := lets w) (i := 0) (by omega))
  have e0 : lw w 0 = 0 := by rw [z]; decide
  omega
theorem l_rdword2 {F : List Nat} {row : Nat → Int32} {p0 n : Nat} {K : Int32 → Int64 → Prop} {Φ : Int64 → Int32 → Prop} (hb : BRow row F) (hy : byt F) (hn : F.length ≤ 6650) (hn1 : 1 ≤ n) (hn8 : n ≤ 8)
    (hK : ∀ w p', RW F p0 w p' → K (I p') (J w)) (hΦ : ∀ p', RW F p0 0 p' → Φ (J 0) (I p')) :
    ∀ k i p m, n ≤ i + k → i ≤ n → p ≤ F.length → m.length = i → ltr m → (∀ v rest, okw v → F.drop p0 = (lets v).length :: (lets v ++ rest) → (lets v).length = n ∧ (lets v).take i = m ∧ F.drop p = (lets v).drop i ++ rest) →
      L_X5_readWord_22 (k + 1) 6650 (I F.length) (I p) row (I n) (J (pk m)) (I i) K Φ := by
  have fin : ∀ i p m, n ≤ i → i ≤ n → p ≤ F.length → m.length = i → ltr m → (∀ v rest, okw v → F.drop p0 = (lets v).length :: (lets v ++ rest) → (lets v).length = n ∧ (lets v).take i = m ∧ F.drop p = (lets v).drop i ++ rest) → K (I p) (J (pk m)) := by
    intro i p m h1 h2 h3 h4 h5 h6
    refine hK _ p ⟨h3, Or.inr ⟨m, by intro q; subst q; simp at h4; omega, by omega, h5, rfl⟩, fun v rest e1 e2 => ?_⟩
    obtain ⟨a1, a2, a3⟩ := h6 v rest e1 e2
    rw [List.take_of_length_le (by omega)] at a2
    rw [List.drop_of_length_le (l := lets v) (by omega)] at a3
    exact ⟨by rw [← a2]; exact e1.lets.2.2.2.symm, a3⟩
  intro k
  induction k with
  | zero =>
    intro i p m h1 h2 h3 h4 h5 h6
    unfold L_X5_readWord_22
    rw [I_le (by omega) (by omega)]
    exact ⟨fun _ => fin i p m (by omega) h2 h3 h4 h5 h6, fun z => by omega⟩
  | succ k ih =>
    intro i p m h1 h2 h3 h4 h5 h6
    unfold L_X5_readWord_22
    rw [I_le (by omega) (by omega)]
    refine ⟨fun z => fin i p m (by omega) h2 h3 h4 h5 h6, fun z => s_next hb hn h3 ?_⟩
    have hc : ∀ v rest, okw v → F.drop p0 = (lets v).length :: (lets v ++ rest) → F.drop p = (lets v).getD i 0 :: ((lets v).drop (i + 1) ++ rest) := fun v rest e1 e2 => by
      obtain ⟨a1, a2, a3⟩ := h6 v rest e1 e2
      rw [a3, drop_cons (by omega)]; rfl
    rw [i_97, i_122]
    refine s_within hy (by omega) (by omega) (fun q1 q2 q3 => ?_) (fun q => ?_)
    · have e1 : nv F p = I (F.getD p 0) := by unfold nv; rw [if_pos q1]
      have e2 : np F p = p + 1 := by unfold np; rw [if_pos q1]
      rw [e1, e2]
      refine ⟨fun _ => s_place (by omega) (by omega) ?_, fun y => absurd y (by decide)⟩
      rw [J_or, i_1, I_add]
      have hm8 : m.length < 8 := by omega
      rw [← h4, pk_or hm8 (by omega), h4]
      refine ih (i + 1) (p + 1) _ (by omega) (by omega) (by omega) (by simp [h4]) (fun x hx => ?_) (fun v rest a1 a2 => ?_)
      · rcases List.mem_append.mp hx with hx | hx
        · exact h5 x hx
        · simp only [List.mem_singleton] at hx; omega
      · obtain ⟨d1, d2, d3⟩ := drop_eq (hc v rest a1 a2)
        obtain ⟨b1, b2, b3⟩ := h6 v rest a1 a2
        exact ⟨b1, by rw [take_succ_getD (by omega), b2, d2], d3⟩
    · refine ⟨fun y => absurd rfl y, fun _ => hΦ _ ⟨np_le h3, Or.inl rfl, fun v rest a1 a2 => ?_⟩⟩
      obtain ⟨d1, d2, d3⟩ := drop_eq (hc v rest a1 a2)
      obtain ⟨b1, b2, b3⟩ := h6 v rest a1 a2
      have := a1.lets.1 _ (getD_mem (ds := lets v) (i := i) (by omega))
      exact absurd ⟨d1, by omega, by omega⟩ q
theorem s_rdword {F : List Nat} {row : Nat → Int32} {p : Nat} {Φ : Int64 → Int32 → Prop} (hb : BRow row F) (hy : byt F) (hn : F.length ≤ 6650) (hp : p ≤ F.length)
    (h : ∀ w p', RW F p w p' → Φ (J w) (I p')) : P_X5_readWord 6650 (I F.length) (I p) row Φ := by
  refine s_next hb hn hp ?_
  rw [i_1, i_8]
  refine s_within hy (by omega) (by omega) (fun q1 q2 q3 => ?_) (fun q => ?_)
  · have e1 : nv F p = I (F.getD p 0) := by unfold nv; rw [if_pos q1]
    have e2 : np F p = p + 1 := by unfold np; rw [if_pos q1]
    rw [e1, e2]
    refine ⟨fun _ => ⟨F.getD p 0 + 1, ?_⟩, fun y => absurd y (by decide)⟩
    refine l_rdword2 (p0 := p) (K := fun a0_place_10 l2_11 => Φ l2_11 a0_place_10) hb hy hn q2 q3 (fun w p' z => h w p' z) (fun p' z => h 0 p' z) (F.getD p 0) 0 (p + 1) [] (by omega) (by omega) (by omega) rfl (fun x hx => by cases hx) (fun v rest a1 a2 => ?_)
    obtain ⟨d1, d2, d3⟩ := drop_eq a2
    exact ⟨d2.symm, rfl, d3⟩
  · refine ⟨fun y => absurd rfl y, fun _ => h 0 _ ⟨np_le hp, Or.inl rfl, fun v rest a1 a2 => ?_⟩⟩
    obtain ⟨d1, d2, d3⟩ := drop_eq a2
    have := a1.lets
    exact absurd ⟨d1, by omega, by omega⟩ q
/-- a bit for each document -/
def msk (ds : List Nat) : Nat := ds.foldl (fun m d => m ||| 2 ^ d) 0
theorem msk_app (ds : List Nat) (d : Nat) : msk (ds ++ [d]) = msk ds ||| 2 ^ d := by unfold msk; rw [List.foldl_append]; rfl
theorem msk_bit (ds : List Nat) (j : Nat) : (msk ds).testBit j = decide (j ∈ ds) := by
  have : ∀ (ds : List Nat) (m : Nat), (ds.foldl (fun m d => m ||| 2 ^ d) m).testBit j = (m.testBit j || decide (j ∈ ds)) := by
    intro ds
    induction ds with
    | nil => intro m; simp
    | cons d ds ih =>
      intro m
      rw [List.foldl_cons, ih, Nat.testBit_or, Nat.testBit_two_pow]
      by_cases e : d = j
      · subst e; simp
      · have : ¬ j = d := fun q => e q.symm
        simp [e, this]
  rw [msk, this]; simp
theorem msk_lt {ds : List Nat} {n : Nat} (h : ∀ d ∈ ds, d < n) : msk ds < 2 ^ n := by
  refine Nat.lt_pow_two_of_testBit _ (fun i hi => ?_)
  rw [msk_bit]
  simp only [decide_eq_false_iff_not]
  intro q; have := h i q; omega
theorem msk_zero {ds : List Nat} (h : msk ds = 0) : ds = [] := by
  apply List.eq_nil_iff_forall_not_mem.mpr
  intro d hd
  have := msk_bit ds d
  rw [h, Nat.zero_testBit] at this
  simp [hd] at this
theorem msk_disj (a b : List Nat) : msk a &&& msk b = 0 ↔ ∀ d ∈ a, d ∉ b := by
  constructor
  · intro h d ha hb
    have := congrArg (fun x => Nat.testBit x d) h
    simp only [Nat.testBit_and, msk_bit, Nat.zero_testBit] at this
    simp [ha, hb] at this
  · intro h
    apply Nat.eq_of_testBit_eq
    intro i
    rw [Nat.testBit_and, msk_bit, msk_bit, Nat.zero_testBit]
    by_cases q : i ∈ a
    · simp [h i q]
    · simp [q]
theorem msk_or (a b : List Nat) : msk a ||| msk b = msk (a ++ b) := by
  apply Nat.eq_of_testBit_eq
  intro i
  rw [Nat.testBit_or, msk_bit, msk_bit, msk_bit]
  by_cases q : i ∈ a <;> by_cases r : i ∈ b <;> simp [q, r]

/-- the gaps become documents -/
theorem gp_srt_get {ds : List Nat} (h : srt ds) {i : Nat} (hi : i < ds.length) : (gp 0 ds).getD i 0 + nx 0 (ds.take i) = ds.getD i 0 := by
  rw [gp_get _ _ _ hi]
  cases i with
  | zero => simp [nx]
  | succ i =>
    rw [if_neg (by omega), Nat.add_sub_cancel, take_succ_getD (by omega), nx_app]
    have := h.get (i := i) (j := i + 1) (by omega) hi
    omega
theorem srt_app {ds : List Nat} {d : Nat} (h : srt ds) (hd : nx 0 ds ≤ d) : srt (ds ++ [d]) := by
  refine List.pairwise_append.mpr ⟨h, by simp, fun a ha b hb => ?_⟩
  simp only [List.mem_singleton] at hb
  subst hb
  have : ∀ (l : List Nat) (e : Nat), srt l → ∀ a ∈ l, a < nx e l := by
    intro l
    induction l with
    | nil => intro e _ a ha; cases ha
    | cons x l ih =>
      intro e hs a ha
      have hs2 := List.pairwise_cons.mp hs
      rcases List.mem_cons.mp ha with rfl | ha
      · show a < nx (a + 1) l
        cases l with
        | nil => exact Nat.lt_succ_self _
        | cons y l =>
          have h1 := hs2.1 y List.mem_cons_self
          have h2 := ih (a + 1) hs2.2 y List.mem_cons_self
          omega
      · exact ih (x + 1) hs2.2 a ha
  have := this ds 0 h a ha
  omega
def DQ (N n : Nat) (gs ds : List Nat) : Prop := srt ds ∧ (∀ d ∈ ds, d < N) ∧ gp 0 ds = gs ∧ n + ds.length ≤ 600
theorem l_docs {TG : List (Nat × List Sg)} {w i N P0 : Nat} {segs : List Sg} {gs : List Nat} {gap : Nat → Int32} {tm : Nat → Int64} {fs im : Nat → Int32} {K : Int32 → (Nat → Int32) → (Nat → Int32) → Int64 → Prop} {Φ : Int64 → Int32 → (Nat → Int32) → (Nat → Int32) → Prop} (hg : Row gap gs) (hg128 : ∀ g ∈ gs, g < 128) (hn40 : gs.length ≤ 40) (hN : N ≤ 40) (hsl : (SLt TG ++ segs).length < 600) (hP0 : P0 = (PL (SLt TG ++ segs)).length)
    (hK : ∀ ds fp doc, CA (TG ++ [(w, segs ++ [(i, ds)])]) tm fs im fp doc → DQ N P0 gs ds → K (I (P0 + ds.length)) doc fp (J (msk ds)))
    (hΦ : ∀ ps fp doc, fp 0 = I 0 → (∀ ds, ¬ DQ N P0 gs ds) → Φ (J 0) ps doc fp) :
    ∀ k j ds fp doc, gs.length ≤ j + k → j ≤ gs.length → CA (TG ++ [(w, segs ++ [(i, ds)])]) tm fs im fp doc → DQ N P0 (gs.take j) ds → (∀ ds2, DQ N P0 gs ds2 → ds2.take j = ds) →
      L_X5_appendDocuments_8 (k + 1) (I gs.length) gap (I N) (I ((SLt TG ++ segs).length + 1)) (I (P0 + ds.length)) doc fp (J (msk ds)) (I (nx 0 ds) - I 1) (I j) K Φ := by
  have eS : ∀ l : List Nat, SLt (TG ++ [(w, segs ++ [(i, l)])]) = SLt TG ++ segs ++ [(i, l)] := fun l => by rw [SLt_app, List.append_assoc]
  have eL : ∀ l : List Nat, (SLt (TG ++ [(w, segs ++ [(i, l)])])).length = (SLt TG ++ segs).length + 1 := fun l => by rw [eS, List.length_append]; rfl
  have eP : ∀ l : List Nat, (PL (SLt (TG ++ [(w, segs ++ [(i, l)])]))).length = P0 + l.length := fun l => by rw [eS, PL_app, PL_one, List.length_append, hP0]
  have fin : ∀ j ds fp doc, gs.length ≤ j → CA (TG ++ [(w, segs ++ [(i, ds)])]) tm fs im fp doc → DQ N P0 (gs.take j) ds → K (I (P0 + ds.length)) doc fp (J (msk ds)) := by
    intro j ds fp doc h1 hA hD
    rw [List.take_of_length_le h1] at hD
    exact hK ds fp doc hA hD
  intro k
  induction k with
  | zero =>
    intro j ds fp doc h1 h2 hA hD hU
    unfold L_X5_appendDocuments_8
    rw [I_le (by omega) (by omega)]
    exact ⟨fun _ => fin j ds fp doc (by omega) hA hD, fun z => by omega⟩
  | succ k ih =>
    intro j ds fp doc h1 h2 hA hD hU
    unfold L_X5_appendDocuments_8
    rw [I_le (by omega) (by omega)]
    refine ⟨fun z => fin j ds fp doc (by omega) hA hD, fun z => ?_⟩
    have hj : j < gs.length := by omega
    obtain ⟨d1, d2, d3, d4⟩ := hD
    have hlen : ds.length = j := by
      have := congrArg List.length d3
      rw [gp_len, List.length_take] at this; omega
    have hnx : nx 0 ds ≤ N := nx_le d2 0 (by omega)
    have hgj := hg128 _ (getD_mem hj)
    have e1 : I (nx 0 ds) - I 1 + (I (gs.getD j 0) + 1) = I (gs.getD j 0 + nx 0 ds) := by
      rw [← I_add, i_1]
      generalize I (nx 0 ds) = a
      generalize I (gs.getD j 0) = b
      generalize I 1 = c
      grind
    rw [I_in (by omega), I_cl (by omega), hg j hj, e1, I_le (by omega) (by omega)]
    have hfp0 : fp 0 = I 0 := by
      have := hA.2.2.2.1 0 (Nat.zero_le _)
      rw [this]; rfl
    have hd2 : ∀ ds2, DQ N P0 gs ds2 → j < ds2.length ∧ ds2.getD j 0 = gs.getD j 0 + nx 0 ds := fun ds2 hq => by
      have hl2 : ds2.length = gs.length := by rw [← hq.2.2.1, gp_len]
      have := gp_srt_get hq.1 (i := j) (by omega)
      rw [hU ds2 hq, hq.2.2.1] at this
      exact ⟨by omega, this.symm⟩
    refine ⟨by omega, fun q => hΦ _ _ _ hfp0 (fun ds2 hq => ?_), fun q => ?_⟩
    · obtain ⟨a1, a2⟩ := hd2 ds2 hq
      have := hq.2.1 _ (getD_mem a1)
      omega
    · rw [← eL ds, ← eP ds]
      refine s_post hA (by rw [eL]; omega) (by rw [eP]; omega) (fun hlt doc' fp' hA' => ?_) (fun hge => ?_)
      · refine ⟨fun _ => ?_, fun y => absurd y (by decide)⟩
        have e2 : I (gs.getD j 0 + nx 0 ds) = I (nx 0 (ds ++ [gs.getD j 0 + nx 0 ds])) - I 1 := by
          rw [nx_app, I_sub (by omega), Nat.add_sub_cancel]
        rw [j_1, j_63, IJ (by omega), J_sl (by omega), Nat.one_mul, J_or, ← msk_app, i_1, I_add, eL, ← eL (ds ++ [gs.getD j 0 + nx 0 ds]), eP ds, Nat.add_assoc]
        have e3 : ds.length + 1 = (ds ++ [gs.getD j 0 + nx 0 ds]).length := by simp
        rw [e3, e2, eL]
        refine ih (j + 1) (ds ++ [gs.getD j 0 + nx 0 ds]) fp' doc' (by omega) (by omega) hA' ⟨srt_app d1 (by omega), fun x hx => ?_, ?_, by rw [eP] at hlt; simp; omega⟩ (fun ds2 hq => ?_)
        · rcases List.mem_append.mp hx with hx | hx
          · exact d2 x hx
          · simp only [List.mem_singleton] at hx; omega
        · rw [gp_app, d3, Nat.add_sub_cancel, ← take_succ_getD hj]
        · obtain ⟨a1, a2⟩ := hd2 ds2 hq
          rw [take_succ_getD a1, hU ds2 hq, a2]
      · refine ⟨fun y => absurd rfl y, fun _ => hΦ _ _ _ hfp0 (fun ds2 hq => ?_)⟩
        have hl2 : ds2.length = gs.length := by rw [← hq.2.2.1, gp_len]
        have := hq.2.2.2
        rw [eP] at hge
        omega
theorem s_docs {TG : List (Nat × List Sg)} {w i N : Nat} {segs : List Sg} {gs : List Nat} {gap : Nat → Int32} {tm : Nat → Int64} {fs im fp doc : Nat → Int32} {Φ : Int64 → Int32 → (Nat → Int32) → (Nat → Int32) → Prop} (hA : CA (TG ++ [(w, segs ++ [(i, [])])]) tm fs im fp doc) (hg : Row gap gs) (hg128 : ∀ g ∈ gs, g < 128) (hn40 : gs.length ≤ 40) (hN : N ≤ 40) (hsl : (SLt TG ++ segs).length < 600) (hpl : (PL (SLt TG ++ segs)).length ≤ 600)
    (h1 : ∀ ds fp' doc', CA (TG ++ [(w, segs ++ [(i, ds)])]) tm fs im fp' doc' → DQ N (PL (SLt TG ++ segs)).length gs ds → Φ (J (msk ds)) (I ((PL (SLt TG ++ segs)).length + ds.length)) doc' fp')
    (h0 : ∀ ps fp' doc', fp' 0 = I 0 → (∀ ds, ¬ DQ N (PL (SLt TG ++ segs)).length gs ds) → Φ (J 0) ps doc' fp') :
    P_X5_appendDocuments (I gs.length) gap (I N) (I ((SLt TG ++ segs).length + 1)) (I (PL (SLt TG ++ segs)).length) doc fp Φ := by
  refine ⟨gs.length + 1, ?_⟩
  have key := l_docs (P0 := (PL (SLt TG ++ segs)).length) (K := fun a1_postings_9 a1_document_10 a1_firstPosting_11 l2_12 => Φ l2_12 a1_postings_9 a1_document_10 a1_firstPosting_11) (Φ := Φ) hg hg128 hn40 hN hsl rfl (fun ds fp' doc' a b => h1 ds fp' doc' a b) h0 gs.length 0 [] fp doc (by omega) (by omega) hA ⟨List.Pairwise.nil, by simp, rfl, by simpa using hpl⟩ (fun ds2 _ => rfl)
  exact key
