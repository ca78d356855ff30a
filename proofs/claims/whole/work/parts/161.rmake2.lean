
/-! the reference lays the rows of a term -/
theorem l_mk184 {R : List Nat} {N r p : Nat} {bits codec size words of len term word imp : Nat → Int32} {lo hi : UInt64} {l9 : Int32} {l0 : Nat → Int32} {K : (Nat → Int32) → (Nat → Int32) → (Nat → Int32) → (Nat → Int32) → (Nat → Int32) → (Nat → Int32) → (Nat → Int32) → Int32 → UInt64 → UInt64 → Int32 → Int32 → Int32 → Prop} {Φ : (Nat → Int32) → (Nat → Int32) → (Nat → Int32) → (Nat → Int32) → (Nat → Int32) → (Nat → Int32) → (Nat → Int32) → Prop}
    (hT : TW term 0 R) (h64 : R.length ≤ 64) (hr : r < R.length) (hp : p < 64)
    (hK : ∀ letter, (∀ k, k < 8 → letter (2048 + 8 * p + k) = I (lw (R.getD r 0) k)) → (∀ j, (j < 2048 + 8 * p ∨ 2048 + 8 * p + 8 ≤ j) → letter j = l0 j) → K bits codec size words word letter imp (I 4) lo hi l9 (I r) (I p)) :
    ∀ k i letter, 8 ≤ i + k → i ≤ 8 → (∀ k, k < i → letter (2048 + 8 * p + k) = I (lw (R.getD r 0) k)) → (∀ j, (j < 2048 + 8 * p ∨ 2048 + 8 * p + 8 ≤ j) → letter j = l0 j) →
      L_X9_makes_184 (k + 1) (I N) (I R.length) bits codec size words of len term word letter imp (I 4) lo hi l9 (I r) (I p) (I i) K Φ := by
  intro k
  induction k with
  | zero =>
    intro i letter h1 h2 h3 h4
    unfold L_X9_makes_184
    rw [i_8, I_le (by omega) (by omega)]
    exact ⟨fun _ => hK letter (fun k hk => h3 k (by omega)) h4, fun z => absurd (by omega) z⟩
  | succ k ih =>
    intro i letter h1 h2 h3 h4
    unfold L_X9_makes_184
    rw [i_8, I_le (by omega) (by omega), i_512, I_mul, I_mul, I_mul, I_add, I_add, I_add, I_in (by omega), I_in (by omega), I_cl (by omega), I_cl (by omega), i_1, I_add]
    refine ⟨fun _ => hK letter (fun k hk => h3 k (by omega)) h4, fun z => ⟨by omega, by omega, ih (i + 1) _ (by omega) (by omega) (fun k hk => ?_) (fun j hj => ?_)⟩⟩
    · unfold upd
      by_cases e : k = i
      · subst e
        rw [if_pos (by omega)]
        have := hT r hr k (by omega)
        rwa [Nat.zero_add] at this
      · rw [if_neg (by omega)]; exact h3 k (by omega)
    · unfold upd
      rw [if_neg (by omega)]; exact h4 j hj
theorem l_mk232 {D : List (List Nat)} {R : List Nat} {r p b : Nat} {bits codec size words of len term word letter : Nat → Int32} {lo hi : UInt64} {i0 : Nat → Int32} {K : (Nat → Int32) → (Nat → Int32) → (Nat → Int32) → (Nat → Int32) → (Nat → Int32) → (Nat → Int32) → (Nat → Int32) → Int32 → UInt64 → UInt64 → Int32 → Int32 → Prop} {Φ : (Nat → Int32) → (Nat → Int32) → (Nat → Int32) → (Nat → Int32) → (Nat → Int32) → (Nat → Int32) → (Nat → Int32) → Prop}
    (hE : Ends D lo hi) (h2b : 2 ≤ b) (h8b : b ≤ 8) (hR : RT D R term of) (hL : LN D len) (h64 : R.length ≤ 64) (hr : r < R.length) (hp : p < 64)
    (hK : ∀ imp, (∀ d, d < 40 → imp (10240 + 40 * p + d) = I (impF D b lo hi (R.getD r 0) d)) → (∀ j, (j < 10240 + 40 * p ∨ 10240 + 40 * p + 40 ≤ j) → imp j = i0 j) → K bits codec size words word letter imp (I 4) lo hi (I (2 ^ b - 1)) (I r)) :
    ∀ k i imp, 40 ≤ i + k → i ≤ 40 → (∀ d, d < i → imp (10240 + 40 * p + d) = I (impF D b lo hi (R.getD r 0) d)) → (∀ j, (j < 10240 + 40 * p ∨ 10240 + 40 * p + 40 ≤ j) → imp j = i0 j) →
      L_X9_makes_232 (k + 1) (I D.length) (I R.length) bits codec size words of len term word letter imp (I 4) lo hi (I (2 ^ b - 1)) (I r) (I p) (I i) K Φ := by
  have h40 := hE.1.1
  obtain ⟨q1, q2, q3, q4⟩ := two_q h2b h8b
  obtain ⟨o1, o2, o3⟩ := hE.ok
  intro k
  induction k with
  | zero =>
    intro i imp h1 h2 h3 h4
    unfold L_X9_makes_232
    rw [i_40, I_le (by omega) (by omega)]
    exact ⟨fun _ => hK imp (fun d hd => h3 d (by omega)) h4, fun z => absurd (by omega) z⟩
  | succ k ih =>
    intro i imp h1 h2 h3 h4
    unfold L_X9_makes_232
    rw [i_40, I_le (by omega) (by omega)]
    refine ⟨fun _ => hK imp (fun d hd => h3 d (by omega)) h4, fun z => ?_⟩
    have step : ∀ v, v = impF D b lo hi (R.getD r 0) i → L_X9_makes_232 (k + 1) (I D.length) (I R.length) bits codec size words of len term word letter (upd imp (10240 + 40 * p + i) (I v)) (I 4) lo hi (I (2 ^ b - 1)) (I r) (I p) (I i + 1) K Φ := by
      intro v hv
      rw [i_1, I_add]
      refine ih (i + 1) _ (by omega) (by omega) (fun d hd => ?_) (fun j hj => ?_)
      · unfold upd
        by_cases e : d = i
        · subst e; rw [if_pos rfl, hv]
        · rw [if_neg (by omega)]; exact h3 d (by omega)
      · unfold upd
        rw [if_neg (by omega)]; exact h4 j hj
    have ec : ((2560 * I 4 + 40 * I p) + I i : Int32) = I (10240 + 40 * p + i) := by
      rw [show (2560 : Int32) = I 2560 from rfl, i_40, I_mul, I_mul, I_add, I_add]
    have zero : cnt D (R.getD r 0) i = 0 → J_X9_makes_268 (I D.length) (I R.length) bits codec size words of len term word letter imp (I 4) lo hi (I (2 ^ b - 1)) (I r) (I p) (I i) (fun bits_258 codec_259 size_260 words_261 word_262 letter_263 impact_264 l3_265 l4_266 l6_267 l9_268 l10_269 l11_270 l12_271 => L_X9_makes_232 (k + 1) (I D.length) (I R.length) bits_258 codec_259 size_260 words_261 of len term word_262 letter_263 impact_264 l3_265 l4_266 l6_267 l9_268 l10_269 l11_270 l12_271 K Φ) K Φ := by
      intro hc
      unfold J_X9_makes_268 J_X9_makes_269
      refine ⟨fun _ => ?_, fun w => absurd rfl w⟩
      unfold J_X9_makes_288 P_X9_cell
      rw [ec]
      show _ ∧ _
      rw [I_in (by omega), I_cl (by omega)]
      refine ⟨fun w => absurd rfl w, fun _ => ⟨by omega, ?_⟩⟩
      rw [i_0]
      exact step 0 (by unfold impF; rw [if_pos hc])
    have hcn := cnt_le hE.1 (R.getD r 0) i
    rw [I_le (by omega) (by omega)]
    refine ⟨fun y => zero (cnt_over y), fun y => ?_⟩
    rw [I_mul, I_add, I_in (by omega), I_cl (by omega), hR.2 r (by omega) i (by omega), i_0, I_le (by omega) (by omega)]
    refine ⟨by omega, fun x => zero (by omega), fun x => ?_⟩
    have hc : cnt D (R.getD r 0) i ≠ 0 := by omega
    unfold J_X9_makes_269
    refine ⟨fun w => absurd w (by decide), fun _ => ?_⟩
    refine r_scoreOf hE.1 hE.2.1 hR hL (by omega) (by omega) hc ?_
    unfold J_X9_makes_288 P_X9_cell
    rw [ec]
    show _ ∧ _
    rw [I_in (by omega), I_cl (by omega), cl_eq o1 o2]
    refine ⟨fun _ => ⟨fun w => ?_, fun w => ⟨by omega, ?_⟩⟩, fun w => absurd w (by decide)⟩
    · rw [i_1, I_sub (by omega)]
      obtain ⟨a1, a2, a3, a4, a5, a6, a7, -⟩ := imp_all (sf_ok hE.1 hE.2.1 (by omega) hc).1 o1 o2 (hE.2.2.1.2 _ i (by omega) hc) (hE.2.2.2.2 _ i (by omega) hc) o3 (fun e => w e.symm) q1 q2
      refine ⟨a1, a2, a3, a4, a5, a6, by omega, ?_⟩
      have e : FP.d2i (impX (sf D (R.getD r 0) i) lo hi (2 ^ b - 1)) = I (impV (sf D (R.getD r 0) i) lo hi (2 ^ b - 1)) := a7
      unfold impX at e
      rw [e, ← i_1]
      exact step _ (by unfold impF; rw [if_neg hc])
    · exact step _ (by unfold impF impV; rw [if_neg hc, if_pos w.symm])
def Q164 (D : List (List Nat)) (R T : List Nat) (b : Nat) (lo hi : UInt64) (l0 i0 : Nat → Int32) (r : Nat) (letter imp : Nat → Int32) : Prop :=
  (∀ p, p < T.length → T.getD p 0 ∈ R.take r → (∀ k, k < 8 → letter (2048 + 8 * p + k) = I (lw (T.getD p 0) k)) ∧ ∀ d, d < 40 → imp (10240 + 40 * p + d) = I (impF D b lo hi (T.getD p 0) d)) ∧ FR l0 i0 letter imp
theorem l_mk164 {D : List (List Nat)} {R T : List Nat} {b : Nat} {bits codec size words of len term : Nat → Int32} {lo hi : UInt64} {l0 i0 : Nat → Int32} {K Φ : (Nat → Int32) → (Nat → Int32) → (Nat → Int32) → (Nat → Int32) → (Nat → Int32) → (Nat → Int32) → (Nat → Int32) → Prop}
    (hE : Ends D lo hi) (h2b : 2 ≤ b) (h8b : b ≤ 8) (hR : RT D R term of) (hL : LN D len) (h64 : R.length ≤ 64) (hRo : ∀ w ∈ R, w < 18446744073709551616) (hs : srt T) (hP : R.Perm T)
    (hK : ∀ word letter imp, Q164 D R T b lo hi l0 i0 R.length letter imp → K bits codec size words word letter imp) :
    ∀ k r word letter imp, R.length ≤ r + k → r ≤ R.length → Q164 D R T b lo hi l0 i0 r letter imp → L_X9_makes_164 (k + 1) (I D.length) (I R.length) bits codec size words of len term word letter imp (I 4) lo hi (I (2 ^ b - 1)) (I r) K Φ := by
  have hTl : T.length = R.length := hP.length_eq.symm
  have fin : ∀ r word letter imp, R.length ≤ r → r ≤ R.length → Q164 D R T b lo hi l0 i0 r letter imp → K bits codec size words word letter imp := fun r word letter imp a1 a2 a3 => hK word letter imp (by rwa [show r = R.length from by omega] at a3)
  intro k
  induction k with
  | zero =>
    intro r word letter imp h1 h2 h3
    unfold L_X9_makes_164
    rw [I_le (by omega) (by omega)]
    exact ⟨fun z => fin r word letter imp z h2 h3, fun z => absurd (by omega) z⟩
  | succ k ih =>
    intro r word letter imp h1 h2 h3
    unfold L_X9_makes_164
    rw [I_le (by omega) (by omega)]
    refine ⟨fun z => fin r word letter imp z h2 h3, fun z => ?_⟩
    have hm : R.getD r 0 ∈ T := hP.mem_iff.mp (getD_mem (by omega))
    obtain ⟨p, hp, e⟩ := List.mem_iff_getElem.mp hm
    have e2 : T.getD p 0 = R.getD r 0 := by rw [List.getD_eq_getElem?_getD, List.getElem?_eq_getElem hp, Option.getD_some]; exact e
    have e3 : rk R (R.getD r 0) = p := by rw [rk_perm hP, ← e2]; exact rk_get hs hp
    refine r_rank hR.1 h64 hRo (by omega) (fun word' => ⟨8 + 1, ?_⟩)
    rw [e3]
    refine l_mk184 hR.1 h64 (by omega) (by omega) (fun letter' a1 a2 => ⟨40 + 1, ?_⟩) 8 0 letter (by omega) (by omega) (fun k hk => by omega) (fun j _ => rfl)
    refine l_mk232 hE h2b h8b hR hL h64 (by omega) (by omega) (fun imp' b1 b2 => ?_) 40 0 imp (by omega) (by omega) (fun k hk => by omega) (fun j _ => rfl)
    rw [i_1, I_add]
    refine ih (r + 1) word' letter' imp' (by omega) (by omega) ⟨fun p' hp' hm' => ?_, fun j hj => ?_, fun j hj => ?_⟩
    · by_cases c : p' = p
      · subst c
        rw [e2]; exact ⟨a1, b1⟩
      · rw [take_succ_getD (by omega), List.mem_append, List.mem_singleton] at hm'
        rcases hm' with hm' | hm'
        · obtain ⟨x1, x2⟩ := h3.1 p' hp' hm'
          exact ⟨fun k hk => by rw [a2 _ (by omega)]; exact x1 k hk, fun d hd => by rw [b2 _ (by omega)]; exact x2 d hd⟩
        · exact absurd (by
            rw [← e2] at hm'
            rcases Nat.lt_or_gt_of_ne c with q | q
            · have := hs.get q hp; omega
            · have := hs.get q hp'; omega) c
    · rw [a2 j (by omega)]; exact h3.2.1 j hj
    · rw [b2 j (by omega)]; exact h3.2.2 j hj
theorem r_makes {D : List (List Nat)} {R T : List Nat} {b c : Nat} {bits codec size words of len term word letter imp : Nat → Int32} {Φ : (Nat → Int32) → (Nat → Int32) → (Nat → Int32) → (Nat → Int32) → (Nat → Int32) → (Nat → Int32) → (Nat → Int32) → Prop}
    (hV : VD D T) (hD : docsOK D) (h0 : D ≠ []) (h2b : 2 ≤ b) (h8b : b ≤ 8) (hc : c ≤ 2) (hR : RT D R term of) (hL : LN D len) (hP : R.Perm T)
    (h : ∀ lo hi word' letter' imp', Ends D lo hi → RX 4 b c D.length (TGof D b lo hi T) (upd bits 4 (I b)) (upd codec 4 (I c)) (upd size 4 (I D.length)) (upd words 4 (I R.length)) letter' imp' → FR letter imp letter' imp' → Φ (upd bits 4 (I b)) (upd codec 4 (I c)) (upd size 4 (I D.length)) (upd words 4 (I R.length)) word' letter' imp') :
    P_X9_makes (I D.length) (I R.length) bits codec size words of len term word letter imp (I b) (I c) Φ := by
  obtain ⟨v1, v2, v3, v4, v5, v6, v7⟩ := id hV
  have hTl : T.length = R.length := hP.length_eq.symm
  have hne : ∀ doc ∈ D, doc ≠ [] := fun doc hd => (v6 doc hd).1
  have hRo : ∀ w ∈ R, w < 18446744073709551616 := fun w hw => by have := (v7 w (hP.mem_iff.mp hw)).lt; omega
  have hRT : ∀ w, w ∈ R ↔ ∃ doc ∈ D, w ∈ doc := fun w => by rw [hP.mem_iff]; exact v5 w
  unfold P_X9_makes
  rw [i_4, i_0, I_in (by omega), I_cl (by omega)]
  refine ⟨by omega, by omega, by omega, by omega, 40 * R.length + 1, ?_⟩
  refine l_mk48 hD hne hR hL (by omega) (fun a lo hi hA => ⟨R.length + 1, ?_⟩) (40 * R.length) 0 _ _ _ (by omega) (by omega) (Or.inl ⟨rfl, fun c hc => by omega⟩)
  have hE : Ends D lo hi := by
    rcases hA with ⟨-, n⟩ | ⟨-, x, y⟩
    · obtain ⟨w, d, hd, hcn⟩ := some_post h0 hne
      obtain ⟨c, c1, c2, -⟩ := cell_of hRT v1 hd hcn
      exact absurd c2 (n c c1)
    · exact ⟨hD, hne, LoI.lo hRT v1 h0 hne (Or.inr x), HiI.hi hRT v1 h0 hne (Or.inr y)⟩
  obtain ⟨q1, q2, q3, q4⟩ := two_q h2b h8b
  rw [I_sl1 (by omega), i_1, I_sub (by omega)]
  refine l_mk164 hE h2b h8b hR hL (by omega) hRo v4 hP (fun word' letter' imp' hQ => ?_) R.length 0 word letter imp (by omega) (by omega) ⟨fun p hp hm => by simp at hm, fun j _ => rfl, fun j _ => rfl⟩
  refine h lo hi word' letter' imp' hE ⟨rfl, rfl, rfl, ?_, ?_, ?_⟩ hQ.2
  · show I R.length = _
    unfold TGof
    rw [List.length_map, hTl]
  · have em : (TGof D b lo hi T).map (fun q => q.1) = T := by unfold TGof; rw [List.map_map]; exact List.map_id _
    rw [em]
    intro i hi' k hk
    refine (hQ.1 i hi' ?_).1 k hk
    rw [List.take_length]
    exact hP.mem_iff.mpr (getD_mem hi')
  · intro t q hq d hd
    unfold TGof at hq
    rw [List.getElem?_map] at hq
    have ht : t < T.length := Classical.byContradiction fun z => by rw [List.getElem?_eq_none (by omega)] at hq; simp at hq
    have e2 : T.getD t 0 = T[t] := by rw [List.getD_eq_getElem?_getD, List.getElem?_eq_getElem ht]; rfl
    rw [List.getElem?_eq_getElem ht, ← e2] at hq
    have hq2 : q = (T.getD t 0, canon D.length (impF D b lo hi (T.getD t 0))) := (Option.some.inj hq).symm
    rw [hq2]
    have := (hQ.1 t ht (by rw [List.take_length]; exact hP.mem_iff.mpr (getD_mem ht))).2 d hd
    rw [show 2560 * 4 + 40 * t + d = 10240 + 40 * t + d from by omega, this, impOf_canon h8b (fun d hd => (impF_range hE h2b h8b hd).1)]
    by_cases z : d < D.length
    · rw [if_pos z]
    · rw [if_neg z]; unfold impF; rw [if_pos (cnt_over (by omega))]
