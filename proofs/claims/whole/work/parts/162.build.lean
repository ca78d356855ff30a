
/-! both sides build -/
theorem I_between {x : Int32} {a c : Nat} (ha : a < 2147483648) (hc : c < 2147483648) (h1 : ¬ x < I a) (h2 : ¬ I c < x) : ∃ n, a ≤ n ∧ n ≤ c ∧ x = I n := by
  obtain ⟨n, n1, n2, rfl⟩ := I_surj' h1 ha
  rw [I_lt hc n1] at h2
  exact ⟨n, n2, by omega, rfl⟩
theorem J_toInt {n : Nat} (h : n < 9223372036854775808) : (J n).toInt = (n : Int) := Int64.toInt_ofNat_of_lt h
/-- any int of the script against two bounds -/
theorem r_withinS {x : Int32} {a c : Nat} {Φ : Int32 → Prop} (ha : a < 2147483648) (hc : c < 2147483648) (h1 : ∀ n, a ≤ n → n ≤ c → x = I n → Φ (I 1)) (h0 : (∀ n, a ≤ n → n ≤ c → x ≠ I n) → Φ (I 0)) : P_X9_within x.toInt64 (J a) (J c) Φ := by
  have e : ∀ n, n < 2147483648 → (x.toInt64 < J n ↔ x < I n) := fun n hn => by
    rw [Int64.lt_iff_toInt_lt, Int32.lt_iff_toInt_lt, Int32.toInt_toInt64, J_toInt (by omega), I_toInt hn]
  have e2 : ∀ n, n < 2147483648 → (J n < x.toInt64 ↔ I n < x) := fun n hn => by
    rw [Int64.lt_iff_toInt_lt, Int32.lt_iff_toInt_lt, Int32.toInt_toInt64, J_toInt (by omega), I_toInt hn]
  unfold P_X9_within
  rw [e a ha, e2 c hc]
  refine ⟨fun z => h0 (fun n n1 n2 en => ?_), fun z => ⟨fun y => h0 (fun n n1 n2 en => ?_), fun y => ?_⟩⟩
  · subst en; rw [I_lt (by omega) ha] at z; omega
  · subst en; rw [I_lt hc (by omega)] at y; omega
  · obtain ⟨n, n1, n2, en⟩ := I_between ha hc z y
    exact h1 n n1 n2 en
/-- the arguments that a build takes -/
def BA (l1 l2 : Int32) (b c : Nat) : Prop := 2 ≤ b ∧ b ≤ 8 ∧ c ≤ 2 ∧ l1 = I b ∧ l2 = I c
theorem s_build {D : List (List Nat)} {T : List Nat} {tm atm : Nat → Int64} {ind ti len imps fs im fp doc row gap : Nat → Int32} {sc : Nat → UInt64} {ab ad at' as ap fsz gm l1 l2 : Int32} {Φ : Int32 → (Nat → UInt64) → Int32 → Int32 → Int32 → Int32 → Int32 → (Nat → Int32) → (Nat → Int64) → (Nat → Int32) → (Nat → Int32) → (Nat → Int32) → (Nat → Int32) → Int32 → (Nat → Int32) → Int32 → (Nat → Int32) → Prop} {X : String → (Nat → UInt64) → Int32 → Int32 → Int32 → Int32 → Int32 → (Nat → Int32) → (Nat → Int64) → (Nat → Int32) → (Nat → Int32) → (Nat → Int32) → (Nat → Int32) → Int32 → (Nat → Int32) → Int32 → (Nat → Int32) → Prop}
    (hV : VD D T) (hD : docsOK D) (hC : CT D T tm ind ti) (hL : LN D len) (hfs : fs 0 = I 0) (hfp : fp 0 = I 0) (hsz : ¬ fsz < 0)
    (hbad : (∀ b c, ¬ BA l1 l2 b c) → X eIA sc ab ad at' as ap imps atm fs im fp doc fsz row gm gap)
    (hemp : ∀ b c, BA l1 l2 b c → D = [] → X eIS sc ab ad at' as ap imps atm fs im fp doc fsz row gm gap)
    (hok : ∀ b c, BA l1 l2 b c → D ≠ [] → ∀ lo hi sc ab ad at' as ap imps atm fs im fp doc row gm gap, Ends D lo hi → CA (TGof D b lo hi T) atm fs im fp doc → BRow row (E c (b, D.length, TGof D b lo hi T)) → (E c (b, D.length, TGof D b lo hi T)).length ≤ 6650 → Φ (I (E c (b, D.length, TGof D b lo hi T)).length) sc ab ad at' as ap imps atm fs im fp doc (I (E c (b, D.length, TGof D b lo hi T)).length) row gm gap) :
    P_X8_build (I D.length) (I T.length) (I (lens D)) ti ind len sc ab ad at' as ap imps tm atm fs im fp doc fsz row gm gap l1 l2 Φ X := by
  have h40 := hD.1
  unfold P_X8_build
  rw [i_2, i_8, i_0, i_3]
  refine ⟨fun z => hbad (fun b c q => ?_), fun z1 => ⟨fun z => hbad (fun b c q => ?_), fun z2 => ⟨fun z => hbad (fun b c q => ?_), fun z3 => ⟨fun z4 => ?_, fun z => hbad (fun b c q => ?_)⟩⟩⟩⟩
  · obtain ⟨q1, q2, q3, rfl, rfl⟩ := q; rw [I_lt (by omega) (by omega)] at z; omega
  · obtain ⟨q1, q2, q3, rfl, rfl⟩ := q; rw [I_lt (by omega) (by omega)] at z; omega
  · obtain ⟨q1, q2, q3, rfl, rfl⟩ := q; rw [I_lt (by omega) (by omega)] at z; omega
  · obtain ⟨b, b1, b2, e1⟩ := I_between (by omega) (by omega) z1 z2
    obtain ⟨c, c1, e2⟩ := I_surj z3
    subst e1; subst e2
    rw [I_lt c1 (by omega)] at z4
    rw [I_eq (by omega) (by omega)]
    have hBA : BA (I b) (I c) b c := ⟨b1, b2, by omega, rfl, rfl⟩
    refine ⟨fun y => ?_, fun y => hemp b c hBA (List.eq_nil_of_length_eq_zero y)⟩
    have h0 : D ≠ [] := fun q => y (by rw [q]; rfl)
    refine s_makeIndex hV hD h0 b1 b2 hC hL hfs hfp (fun lo hi sc imps atm fs im fp doc hE hA => ?_)
    have hVX := VX_TGof hV hE h0 b1 b2
    have hTl : (TGof D b lo hi T).length = T.length := by unfold TGof; rw [List.length_map]
    have key := s_write (c := c) (gap := gap) (row := row) (gm := gm) (sz := fsz) (Φ := fun s r g gg => P_X0_size s (fun r_17 => Φ r_17 sc (I b) (I D.length) (I T.length) (I (SLt (TGof D b lo hi T)).length) (I (PL (SLt (TGof D b lo hi T))).length) imps atm fs im fp doc s r g gg)) hA hVX.1 (by omega) hsz (body_byt (by omega) hVX.1) (fun row' gm' gap' hB hle => by
      unfold P_X0_size
      exact hok b c hBA h0 lo hi sc _ _ _ _ _ imps atm fs im fp doc row' gm' gap' hE hA hB hle)
    rw [hTl] at key
    exact key
  · obtain ⟨q1, q2, q3, rfl, rfl⟩ := q; rw [I_lt (by omega) (by omega)] at z; omega
theorem l_rbcopy {L : List Nat} {th dd fl te : Int32} {bits codec size words of len term word letter impact draft gap : Nat → Int32} {K : Int32 → Int32 → Int32 → (Nat → Int32) → (Nat → Int32) → (Nat → Int32) → (Nat → Int32) → (Nat → Int32) → (Nat → Int32) → (Nat → Int32) → (Nat → Int32) → (Nat → Int32) → (Nat → Int32) → Prop} {Φ : Int32 → Int32 → Int32 → Int32 → (Nat → Int32) → (Nat → Int32) → (Nat → Int32) → (Nat → Int32) → (Nat → Int32) → (Nat → Int32) → (Nat → Int32) → (Nat → Int32) → (Nat → Int32) → (Nat → Int32) → Prop}
    (hr : Row draft L) (hl : L.length ≤ 6650) (hK : ∀ file, Row file L → K th fl (I L.length) bits codec size words word letter impact draft gap file) :
    ∀ k i file, L.length ≤ i + k → i ≤ L.length → Row file (L.take i) → L_X9_build_74 (k + 1) th dd te fl (I L.length) bits codec size words of len term word letter impact draft gap file (I i) K Φ := by
  intro k
  induction k with
  | zero =>
    intro i file h1 h2 h3
    unfold L_X9_build_74
    rw [I_le (by omega) (by omega)]
    exact ⟨fun z => hK file (by rwa [List.take_of_length_le z] at h3), fun z => absurd (by omega) z⟩
  | succ k ih =>
    intro i file h1 h2 h3
    unfold L_X9_build_74
    rw [I_le (by omega) (by omega), I_in (by omega), I_cl (by omega), i_1, I_add]
    refine ⟨fun z => hK file (by rwa [List.take_of_length_le z] at h3), fun z => ⟨by omega, by omega, ih (i + 1) _ (by omega) (by omega) ?_⟩⟩
    rw [take_succ_getD (by omega), hr i (by omega)]
    have := h3.put (L.getD i 0)
    rwa [List.length_take, Nat.min_eq_left (by omega)] at this
theorem r_build {D : List (List Nat)} {R T : List Nat} {th fl dd l1 l2 : Int32} {bits codec size words of len term word letter imp draft gap file : Nat → Int32} {Φ : Int32 → Int32 → Int32 → Int32 → (Nat → Int32) → (Nat → Int32) → (Nat → Int32) → (Nat → Int32) → (Nat → Int32) → (Nat → Int32) → (Nat → Int32) → (Nat → Int32) → (Nat → Int32) → (Nat → Int32) → Prop}
    (hV : VD D T) (hD : docsOK D) (hR : RT D R term of) (hL : LN D len) (hP : R.Perm T)
    (hbad : (∀ b c, ¬ BA l1 l2 b c) → Φ (I 0) (I 1) fl dd bits codec size words word letter imp draft gap file)
    (hemp : ∀ b c, BA l1 l2 b c → D = [] → Φ (I 0) (I 2) fl dd bits codec size words word letter imp draft gap file)
    (hok : ∀ b c, BA l1 l2 b c → D ≠ [] → ∀ lo hi bits' codec' size' words' word letter' imp' draft gap file, Ends D lo hi → FS bits bits' → FS codec codec' → FS size size' → FS words words' → FR letter imp letter' imp' → Row file (E c (b, D.length, TGof D b lo hi T)) → Φ (I (E c (b, D.length, TGof D b lo hi T)).length) (I 0) (I (E c (b, D.length, TGof D b lo hi T)).length) (I (E c (b, D.length, TGof D b lo hi T)).length) bits' codec' size' words' word letter' imp' draft gap file) :
    P_X9_build th (I D.length) (I R.length) fl dd bits codec size words of len term word letter imp draft gap file l1 l2 Φ := by
  have h40 := hD.1
  have hTl : T.length = R.length := hP.length_eq.symm
  have bad : (∀ b c, ¬ BA l1 l2 b c) → J_X9_build_27 th (I D.length) (I R.length) fl dd bits codec size words of len term word letter imp draft gap file l1 l2 Φ := by
    intro hn
    unfold J_X9_build_27 J_X9_build_32
    rw [i_1]
    exact r_fails1 ⟨fun _ => hbad hn, fun w => by rw [i_0, I_eq (by omega) (by omega)] at w; omega⟩
  unfold P_X9_build
  rw [show (2 : Int64) = J 2 from rfl, show (8 : Int64) = J 8 from rfl, show (0 : Int64) = J 0 from rfl]
  refine r_withinS (by omega) (by omega) (fun b b1 b2 e1 => ?_) (fun hn => ⟨fun _ => bad (fun b c q => hn b q.1 q.2.1 q.2.2.2.1), fun w => absurd rfl w⟩)
  refine ⟨fun w => by rw [i_0, I_eq (by omega) (by omega)] at w; omega, fun _ => ?_⟩
  refine r_withinS (by omega) (by omega) (fun c _ c2 e2 => ?_) (fun hn => ⟨fun w => absurd rfl w, fun _ => bad (fun b c q => hn c (by omega) q.2.2.1 q.2.2.2.2)⟩)
  refine ⟨fun _ => ?_, fun w => by rw [i_0, I_eq (by omega) (by omega)] at w; omega⟩
  have hBA : BA l1 l2 b c := ⟨b1, b2, c2, e1, e2⟩
  unfold J_X9_build_32
  rw [i_0]
  refine r_fails0 ⟨fun w => absurd rfl w, fun _ => ?_⟩
  rw [I_eq (by omega) (by omega)]
  unfold J_X9_build_52
  refine ⟨fun y => ?_, fun y => ?_⟩
  · have h0 : D ≠ [] := fun q => y (by rw [q]; rfl)
    refine r_fails0 ⟨fun _ => ?_, fun w => absurd rfl w⟩
    rw [e1, e2, i_4]
    refine r_makes hV hD h0 b1 b2 c2 hR hL hP (fun lo hi word' letter' imp' hE hRX hFR => ?_)
    have hVX := VX_TGof hV hE h0 b1 b2
    refine r_writes (by omega) hRX hVX.1 c2 (body_byt c2 hVX.1) (fun row' gap' hr hl => ⟨(E c (b, D.length, TGof D b lo hi T)).length + 1, ?_⟩)
    have fs : ∀ (f : Nat → Int32) (x : Int32), FS f (upd f 4 x) := fun f x j hj => by unfold upd; rw [if_neg hj]
    refine l_rbcopy hr hl (fun file' hf => ?_) _ 0 file (by omega) (by omega) (by intro j hj; simp at hj)
    exact hok b c hBA h0 lo hi _ _ _ _ _ _ _ _ _ _ hE (fs _ _) (fs _ _) (fs _ _) (fs _ _) hFR hf
  · rw [i_1, i_2]
    refine r_fails1 ⟨fun w => by rw [i_0, I_eq (by omega) (by omega)] at w; omega, fun _ => hemp b c hBA (List.eq_nil_of_length_eq_zero y)⟩
