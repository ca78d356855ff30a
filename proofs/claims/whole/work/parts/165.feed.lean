
/-! tape and collection -/
theorem J_all (x : Int64) : ∃ v, v < 18446744073709551616 ∧ x = J v := by
  refine ⟨x.toUInt64.toNat, x.toUInt64.toNat_lt, ?_⟩
  apply Int64.toBitVec.inj
  show x.toBitVec = BitVec.ofNat 64 x.toBitVec.toNat
  apply BitVec.eq_of_toNat_eq
  rw [BitVec.toNat_ofNat, Nat.mod_eq_of_lt x.toBitVec.isLt]
theorem l_feed {bs : List Nat} {v n : Nat} {K : Int32 → (Nat → Int32) → Prop} {Φ : Int32 → Int32 → (Nat → Int32) → Prop} {X : String → Int32 → (Nat → Int32) → Prop} (hv : v < 18446744073709551616) (hn8 : n ≤ 8) (hn : bs.length + n ≤ 3000)
    (hK : ∀ row, BRow row (bs ++ bytesOf v n) → K (I (bs.length + n)) row) :
    ∀ k i row, n ≤ i + k → i ≤ n → BRow row (bs ++ bytesOf v i) → L_X8_feed_45 (k + 1) (I (bs.length + i)) row (I n) (J v) (I i) K Φ X := by
  intro k
  induction k with
  | zero =>
    intro i row h1 h2 h3
    have e : i = n := by omega
    subst e
    unfold L_X8_feed_45
    rw [I_le (by omega) (by omega)]
    exact ⟨fun _ => hK row h3, fun z => absurd (Nat.le_refl _) z⟩
  | succ k ih =>
    intro i row h1 h2 h3
    unfold L_X8_feed_45
    rw [I_le (by omega) (by omega)]
    refine ⟨fun z => ?_, fun z => ?_⟩
    · have e : i = n := by omega
      subst e; exact hK row h3
    · rw [i_8, I_mul, IJ (by omega), J_ur hv (by omega), JI]
      unfold P_X0_put
      rw [show (Int32.ofNat 3000) = I 3000 from rfl, I_le (by omega) (by omega), I_in (by omega), I_cl (by omega), i_1, I_add, I_add]
      refine ⟨fun y => absurd y (by omega), fun _ => ⟨by omega, ih (i + 1) _ (by omega) (by omega) ?_⟩⟩
      have := h3.put (v / 2 ^ (8 * i))
      rw [List.length_append, bytesOf_len, List.append_assoc] at this
      rw [bytesOf_succ, show 256 ^ i = 2 ^ (8 * i) from by rw [Nat.pow_mul]]
      exact this
theorem s_feed {bs : List Nat} {v : Nat} {row : Nat → Int32} {l1 : Int32} {Φ : Int32 → Int32 → (Nat → Int32) → Prop} {X : String → Int32 → (Nat → Int32) → Prop} (hb : BRow row bs) (hl : bs.length ≤ 3000) (hv : v < 18446744073709551616)
    (hA : (∀ n, 1 ≤ n → n ≤ 8 → l1 ≠ I n) → X eIA (I bs.length) row) (hS : ∀ n, 1 ≤ n → n ≤ 8 → l1 = I n → 3000 < bs.length + n → X eIS (I bs.length) row)
    (h : ∀ n row', 1 ≤ n → n ≤ 8 → l1 = I n → bs.length + n ≤ 3000 → BRow row' (bs ++ bytesOf v n) → Φ (I (bs.length + n)) (I (bs.length + n)) row') : P_X8_feed (I bs.length) row l1 (J v) Φ X := by
  unfold P_X8_feed P_X0_size
  rw [i_1, i_8, i_3000]
  refine ⟨fun z => hA (fun n n1 n2 e => ?_), fun z => ⟨fun y => ?_, fun y => hA (fun n n1 n2 e => ?_)⟩⟩
  · subst e; rw [I_lt (by omega) (by omega)] at z; omega
  · obtain ⟨n, n1, n2, e⟩ := I_surj' z (by omega)
    subst e
    rw [I_le n1 (by omega)] at y
    show _ ∧ _
    rw [I_add, I_le (by omega) (by omega)]
    refine ⟨fun x => ⟨n + 1, ?_⟩, fun x => hS n n2 y rfl (by omega)⟩
    have e0 : bs ++ bytesOf v 0 = bs := by simp [bytesOf]
    exact l_feed (K := fun a b => Φ a a b) hv y x (fun row' hr => h n row' n2 y rfl x hr) n 0 row (by omega) (by omega) (by rw [e0]; exact hb)
  · subst e; rw [I_le (by omega) (by omega)] at y; omega
theorem l_rfeed {bs : List Nat} {v n : Nat} {th : Int32} {K : Int32 → Int32 → (Nat → Int32) → Int32 → Prop} {Φ : Int32 → Int32 → Int32 → (Nat → Int32) → Prop} (hv : v < 18446744073709551616) (hn8 : n ≤ 8) (hn : bs.length + n ≤ 3000)
    (hK : ∀ row, Row row (bs ++ bytesOf v n) → K th (I bs.length) row (I n)) :
    ∀ k i row, n ≤ i + k → i ≤ n → Row row (bs ++ bytesOf v i) → L_X9_feed_55 (k + 1) th (I bs.length) row (I n) (J v) (I i) K Φ := by
  intro k
  induction k with
  | zero =>
    intro i row h1 h2 h3
    have e : i = n := by omega
    subst e
    unfold L_X9_feed_55
    rw [I_le (by omega) (by omega)]
    exact ⟨fun _ => hK row h3, fun z => absurd (Nat.le_refl _) z⟩
  | succ k ih =>
    intro i row h1 h2 h3
    unfold L_X9_feed_55
    rw [I_le (by omega) (by omega)]
    refine ⟨fun z => ?_, fun z => ?_⟩
    · have e : i = n := by omega
      subst e; exact hK row h3
    · rw [I_add, I_in (by omega), I_cl (by omega), i_8, I_mul, IJ (by omega), j_63, j_255, J_sr8 hv (by omega), JI, i_1, I_add]
      refine ⟨by omega, ih (i + 1) _ (by omega) (by omega) ?_⟩
      have := h3.put (v / 2 ^ (8 * i) % 256)
      rw [List.length_append, bytesOf_len, List.append_assoc] at this
      rw [bytesOf_succ, show 256 ^ i = 2 ^ (8 * i) from by rw [Nat.pow_mul]]
      exact this
theorem r_feed {bs : List Nat} {v : Nat} {row : Nat → Int32} {th l1 : Int32} {Φ : Int32 → Int32 → Int32 → (Nat → Int32) → Prop} (hb : Row row bs) (hl : bs.length ≤ 3000) (hv : v < 18446744073709551616)
    (hA : (∀ n, 1 ≤ n → n ≤ 8 → l1 ≠ I n) → Φ (I 0) (I 1) (I bs.length) row) (hS : ∀ n, 1 ≤ n → n ≤ 8 → l1 = I n → 3000 < bs.length + n → Φ (I 0) (I 2) (I bs.length) row)
    (h : ∀ n row', 1 ≤ n → n ≤ 8 → l1 = I n → bs.length + n ≤ 3000 → Row row' (bs ++ bytesOf v n) → Φ (I (bs.length + n)) (I 0) (I (bs.length + n)) row') : P_X9_feed th (I bs.length) row l1 (J v) Φ := by
  have n10 : ¬ (I 1 = I 0) := by rw [I_eq (by omega) (by omega)]; omega
  unfold P_X9_feed
  rw [show (1 : Int64) = J 1 from rfl, show (8 : Int64) = J 8 from rfl]
  refine r_withinS (by omega) (by omega) (fun n n1 n2 e => ⟨fun _ => ?_, fun z => absurd z n10⟩) (fun hno => ⟨fun z => absurd rfl z, fun _ => ?_⟩)
  · unfold J_X9_feed_18
    subst e
    rw [i_0]
    refine r_fails0 ⟨fun z => absurd rfl z, fun _ => ?_⟩
    rw [I_add, i_3000, I_le (by omega) (by omega)]
    refine ⟨fun x => r_fails0 ⟨fun _ => ⟨n + 1, ?_⟩, fun z => absurd rfl z⟩, fun x => ?_⟩
    · have e0 : bs ++ bytesOf v 0 = bs := by simp [bytesOf]
      refine l_rfeed hv n2 x (fun row' hr => ?_) n 0 row (by omega) (by omega) (by rw [e0]; exact hb)
      rw [I_add]
      exact h n row' n1 n2 rfl x hr
    · rw [i_1, i_2]
      exact r_fails1 ⟨fun z => absurd z n10, fun _ => hS n n1 n2 rfl (by omega)⟩
  · unfold J_X9_feed_18
    rw [i_1]
    exact r_fails1 ⟨fun _ => hA hno, fun z => absurd z n10⟩
theorem s_add8 {D : List (List Nat)} {T bs : List Nat} {tm wtm : Nat → Int64} {ind ti len row wti : Nat → Int32} {wd wt : Int32} {Φ : Int32 → Int32 → Int32 → Int32 → (Nat → Int64) → (Nat → Int32) → Int32 → Int32 → Int32 → Int32 → (Nat → Int64) → (Nat → Int32) → (Nat → Int32) → (Nat → Int32) → Prop} {X : String → Int32 → Int32 → Int32 → (Nat → Int64) → (Nat → Int32) → Int32 → Int32 → Int32 → Int32 → (Nat → Int64) → (Nat → Int32) → (Nat → Int32) → (Nat → Int32) → Prop}
    (hV : VD D T) (hC : CT D T tm ind ti) (hL : LN D len) (hb : BRow row bs) (hy : byt bs) (hn : bs.length ≤ 3000)
    (hA : stems bs = [] → ∀ wd wt wtm wti, X eIA wd wt (I 0) wtm wti (I D.length) (I T.length) (I (posts D T)) (I (lens D)) tm ind ti len)
    (hS : stems bs ≠ [] → ¬ Room D T (stems bs) → ∀ wd wt wtm wti, X eIS wd wt (I 0) wtm wti (I D.length) (I T.length) (I (posts D T)) (I (lens D)) tm ind ti len)
    (h : stems bs ≠ [] → Room D T (stems bs) → ∀ wd wt wtm wti T' tm' ind' ti' len', VD (D ++ [stems bs]) T' → CT (D ++ [stems bs]) T' tm' ind' ti' → LN (D ++ [stems bs]) len' → Φ (I D.length) wd wt (I 0) wtm wti (I (D ++ [stems bs]).length) (I T'.length) (I (posts (D ++ [stems bs]) T')) (I (lens (D ++ [stems bs]))) tm' ind' ti' len') :
    P_X8_add wd wt (I bs.length) row wtm wti (I D.length) (I T.length) (I (posts D T)) (I (lens D)) tm ind ti len Φ X := by
  obtain ⟨v1, v2, v3, v4, v5, v6, v7⟩ := id hV
  have hsl := stems_len bs
  unfold P_X8_add
  refine s_readTape hb hy hn (fun ds tm' ti' hW => ?_)
  rw [i_0, I_eq (by omega) (by omega)]
  refine ⟨fun z => ?_, fun z => hA (List.eq_nil_of_length_eq_zero z) _ _ _ _⟩
  have h0 : stems bs ≠ [] := fun q => z (by rw [q]; rfl)
  have hdl : ds.length ≤ (stems bs).length := nodup_len hW.1 (fun w hw => (hW.2.1 w).mp hw)
  refine s_room v4 hC.1 (fun v hv => (v7 v hv).lt) v2 hW.2.2.1 (fun v hv => hW.2.2.2.2 v ((hW.2.1 v).mp hv)) (by omega) v1 v3 hW.1 hW.2.1 (fun hR => ⟨fun _ => ?_, fun y => ?_⟩) (fun hR => ⟨fun y => absurd rfl y, fun _ => hS h0 hR _ _ _ _⟩)
  · exact s_append hV hR hW h0 (by omega) (fun w hw => stems_ok bs w hw) hC hL (fun T' tm2 ind2 ti2 len2 a b c => h h0 hR _ _ _ _ T' tm2 ind2 ti2 len2 a b c)
  · rw [I_eq (by omega) (by omega)] at y; omega
theorem s_count8 {D : List (List Nat)} {T : List Nat} {l1 : Int32} {Φ : Int32 → Prop} {X : String → Prop} (h0 : l1 = I 0 → Φ (I D.length)) (h1 : l1 = I 1 → Φ (I T.length)) (h2 : l1 = I 2 → Φ (I (posts D T))) (h3 : l1 = I 3 → Φ (I (lens D))) (hX : (∀ n, n ≤ 3 → l1 ≠ I n) → X eNS) : P_X8_count (I D.length) (I T.length) (I (posts D T)) (I (lens D)) l1 Φ X :=
  ⟨h0, h1, h2, h3, fun a b c d => hX (fun n hn e => by
    have : n = 0 ∨ n = 1 ∨ n = 2 ∨ n = 3 := by omega
    rcases this with q | q | q | q <;> subst q
    · exact a e
    · exact b e
    · exact c e
    · exact d e)⟩
theorem r_count9 {D : List (List Nat)} {R : List Nat} {th l1 : Int32} {term of len : Nat → Int32} {Φ : Int32 → Int32 → Prop} (hD : docsOK D) (hR : RT D R term of) (h64 : R.length ≤ 64) (hL : LN D len)
    (h0 : l1 = I 0 → Φ (I D.length) (I 0)) (h1 : l1 = I 1 → Φ (I R.length) (I 0)) (h2 : l1 = I 2 → Φ (I (posts D R)) (I 0)) (h3 : l1 = I 3 → Φ (I (lens D)) (I 0)) (hX : (∀ n, n ≤ 3 → l1 ≠ I n) → Φ (I 0) (I 1)) : P_X9_count th (I D.length) (I R.length) of len l1 Φ := by
  have n10 : ¬ (I 1 = I 0) := by rw [I_eq (by omega) (by omega)]; omega
  unfold P_X9_count
  rw [show (0 : Int64) = J 0 from rfl, show (3 : Int64) = J 3 from rfl]
  refine r_withinS (by omega) (by omega) (fun n _ n2 e => ⟨fun _ => ?_, fun z => absurd z n10⟩) (fun hno => ⟨fun z => absurd rfl z, fun _ => ?_⟩)
  · unfold J_X9_count_18
    rw [i_0, i_1, i_2]
    refine r_fails0 ⟨fun _ => ⟨fun a => ⟨fun b => ⟨fun c => r_lens hD hL (h3 ?_), fun c => r_cpost hD hR h64 (h2 c)⟩, h1⟩, h0⟩, fun z => absurd rfl z⟩
    have : n = 0 ∨ n = 1 ∨ n = 2 ∨ n = 3 := by omega
    rcases this with q | q | q | q <;> subst q
    · exact absurd e a
    · exact absurd e b
    · exact absurd e c
    · exact e
  · unfold J_X9_count_18
    rw [i_1]
    exact r_fails1 ⟨fun z => absurd z n10, fun _ => hX (fun n hn => hno n (by omega) hn)⟩
