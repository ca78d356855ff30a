
/-! words of a text -/
def sm (b : Nat) : Nat := if 97 ≤ b ∧ b ≤ 122 then b else if 65 ≤ b ∧ b ≤ 90 then b + 32 else 0
def toks : List Nat → List Nat → List (List Nat)
  | cur, [] => if cur = [] then [] else [cur]
  | cur, b :: bs => if sm b = 0 then (if cur = [] then toks [] bs else cur :: toks [] bs) else toks (cur ++ [sm b]) bs
def pkA : Nat → List Nat → Nat
  | _, [] => 0
  | 0, _ :: _ => 0
  | n + 1, x :: xs => x * 256 ^ n + pkA n xs
def pk (m : List Nat) : Nat := pkA 8 m
/-- a letter of a word -/
def lw (W k : Nat) : Nat := W / 256 ^ (7 - k) % 256
def ltr (m : List Nat) : Prop := ∀ x ∈ m, 97 ≤ x ∧ x ≤ 122
def stemL (r : List Nat) : List Nat :=
  if 3 < (r.take 8).length ∧ (r.take 8).getD ((r.take 8).length - 1) 0 = 115 ∧ (r.take 8).getD ((r.take 8).length - 2) 0 ≠ 115 then (r.take 8).take ((r.take 8).length - 1) else r.take 8
def stem (r : List Nat) : Nat := pk (stemL r)
def stems (bs : List Nat) : List Nat := (toks [] bs).map stem
def okw (W : Nat) : Prop := ∃ m : List Nat, m ≠ [] ∧ m.length ≤ 8 ∧ ltr m ∧ W = pk m
theorem sm_ltr {b : Nat} (h : sm b ≠ 0) : 97 ≤ sm b ∧ sm b ≤ 122 := by
  unfold sm at h ⊢
  split
  · assumption
  · split
    · omega
    · rename_i h1 h2; simp [h1, h2] at h
theorem drop_cons {l : List Nat} {i : Nat} (h : i < l.length) : l.drop i = l.getD i 0 :: l.drop (i + 1) := by
  rw [List.drop_eq_getElem_cons h, List.getD_eq_getElem?_getD, List.getElem?_eq_getElem h]; rfl
theorem toks_len (bs : List Nat) : ∀ cur, 2 * (toks cur bs).length ≤ bs.length + 1 + (if cur = [] then 0 else 1) := by
  induction bs with
  | nil => intro cur; unfold toks; by_cases h : cur = [] <;> simp [h]
  | cons b bs ih =>
    intro cur
    unfold toks
    have h0 := ih []
    have h1 := ih (cur ++ [sm b])
    simp only [List.append_eq_nil_iff] at h1
    by_cases hs : sm b = 0 <;> by_cases h : cur = [] <;> simp [hs, h] at * <;> omega
theorem toks_ltr (bs : List Nat) : ∀ cur, ltr cur → ∀ r ∈ toks cur bs, r ≠ [] ∧ ltr r := by
  induction bs with
  | nil =>
    intro cur hc r hr
    unfold toks at hr
    by_cases h : cur = []
    · simp [h] at hr
    · simp [h] at hr; subst hr; exact ⟨h, hc⟩
  | cons b bs ih =>
    intro cur hc r hr
    unfold toks at hr
    have hn : ltr [] := fun x hx => by cases hx
    by_cases hs : sm b = 0
    · by_cases h : cur = []
      · simp [hs, h] at hr; exact ih _ hn r hr
      · simp [hs, h] at hr
        rcases hr with rfl | hr
        · exact ⟨h, hc⟩
        · exact ih _ hn r hr
    · simp [hs] at hr
      refine ih _ (fun x hx => ?_) r hr
      rcases List.mem_append.mp hx with hx | hx
      · exact hc x hx
      · simp at hx; subst hx; exact sm_ltr hs
theorem pkA_lt (m : List Nat) : ∀ n, (∀ x ∈ m, x < 256) → pkA n m < 256 ^ n := by
  induction m with
  | nil => intro n _; unfold pkA; exact Nat.pow_pos (by decide)
  | cons x xs ih =>
    intro n h
    cases n with
    | zero => unfold pkA; exact Nat.pow_pos (by decide)
    | succ n =>
      unfold pkA
      have h1 := ih n (fun y hy => h y (List.mem_cons_of_mem _ hy))
      have h2 : x < 256 := h x List.mem_cons_self
      have h3 : x * 256 ^ n ≤ 255 * 256 ^ n := Nat.mul_le_mul_right _ (by omega)
      rw [Nat.pow_succ]; omega
theorem pkA_lt2 (m : List Nat) (n : Nat) (h : ∀ x ∈ m, x < 128) : pkA (n + 1) m < 128 * 256 ^ n := by
  cases m with
  | nil => unfold pkA; exact Nat.mul_pos (by decide) (Nat.pow_pos (by decide))
  | cons x xs =>
    unfold pkA
    have h1 := pkA_lt xs n (fun y hy => by have := h y (List.mem_cons_of_mem _ hy); omega)
    have h2 : x < 128 := h x List.mem_cons_self
    have h3 : x * 256 ^ n ≤ 127 * 256 ^ n := Nat.mul_le_mul_right _ (by omega)
    omega
theorem pkw_lt {m : List Nat} (h : ltr m) : pk m < 9223372036854775808 := by
  have := pkA_lt2 m 7 (fun x hx => by have := h x hx; omega)
  exact this
theorem pkA_app (m : List Nat) (x : Nat) : ∀ n, m.length < n → pkA n (m ++ [x]) = pkA n m + x * 256 ^ (n - 1 - m.length) := by
  induction m with
  | nil =>
    intro n h
    cases n with
    | zero => simp at h
    | succ n => simp [pkA]
  | cons y ys ih =>
    intro n h
    cases n with
    | zero => simp at h
    | succ n =>
      simp only [List.cons_append, pkA]
      rw [ih n (by simp at h; omega)]
      have : n + 1 - 1 - (y :: ys).length = n - 1 - ys.length := by simp; omega
      rw [this]; omega
theorem pkA_dvd (m : List Nat) : ∀ n, m.length ≤ n → 256 ^ (n - m.length) ∣ pkA n m := by
  induction m with
  | nil => intro n _; unfold pkA; exact Nat.dvd_zero _
  | cons y ys ih =>
    intro n h
    cases n with
    | zero => simp at h
    | succ n =>
      unfold pkA
      have e : n + 1 - (y :: ys).length = n - ys.length := by simp
      rw [e]
      refine Nat.dvd_add (Nat.dvd_trans (Nat.pow_dvd_pow 256 (by omega)) (Nat.dvd_mul_left _ _)) (ih n (by simp at h; omega))
theorem lw_pkA (m : List Nat) : ∀ n k, k < n → (∀ x ∈ m, x < 256) → pkA n m / 256 ^ (n - 1 - k) % 256 = m.getD k 0 := by
  induction m with
  | nil => intro n k _ _; simp [pkA]
  | cons y ys ih =>
    intro n k hk h
    cases n with
    | zero => omega
    | succ n =>
      unfold pkA
      have h1 := pkA_lt ys n (fun z hz => h z (List.mem_cons_of_mem _ hz))
      have hp : 0 < 256 ^ n := Nat.pow_pos (by decide)
      cases k with
      | zero =>
        have h2 : y < 256 := h y List.mem_cons_self
        simp only [Nat.sub_zero, Nat.add_sub_cancel]
        rw [Nat.add_comm, Nat.add_mul_div_right _ _ hp, Nat.div_eq_of_lt h1]
        simp; omega
      | succ k =>
        have e : n + 1 - 1 - (k + 1) = n - 1 - k := by omega
        rw [e]
        have e2 : 256 ^ n = 256 ^ (n - 1 - k) * (256 * 256 ^ k) := by
          rw [show 256 * 256 ^ k = 256 ^ (k + 1) by rw [Nat.pow_succ]; omega, ← Nat.pow_add]; congr 1; omega
        have hq : 0 < 256 ^ (n - 1 - k) := Nat.pow_pos (by decide)
        rw [show y * 256 ^ n + pkA n ys = pkA n ys + 256 ^ (n - 1 - k) * (256 * (256 ^ k * y)) by rw [e2]; simp only [Nat.mul_assoc, Nat.mul_comm, Nat.mul_left_comm]; omega, Nat.add_mul_div_left _ _ hq, Nat.add_mul_mod_self_left, ih n k (by omega) (fun z hz => h z (List.mem_cons_of_mem _ hz))]
        simp
theorem lw_pk {m : List Nat} {k : Nat} (h : ∀ x ∈ m, x < 256) (hk : k < 8) : lw (pk m) k = m.getD k 0 := by
  have := lw_pkA m 8 k hk h
  exact this
theorem ltr.lt {m : List Nat} (h : ltr m) : ∀ x ∈ m, x < 256 := fun x hx => by have := h x hx; omega
theorem ltr.take {m : List Nat} (h : ltr m) (n : Nat) : ltr (m.take n) := fun x hx => h x (List.mem_of_mem_take hx)
theorem stemL_take (r : List Nat) : stemL r = stemL (r.take 8) := by
  have ht : (r.take 8).take 8 = r.take 8 := List.take_of_length_le (by simp; omega)
  unfold stemL; rw [ht]
theorem stemL_ltr {r : List Nat} (h : ltr r) : ltr (stemL r) := by
  unfold stemL; split
  · exact (h.take 8).take _
  · exact h.take 8
theorem stemL_len (r : List Nat) : (stemL r).length ≤ 8 := by
  unfold stemL; split <;> simp <;> omega
theorem stemL_ne {r : List Nat} (h : r ≠ []) : stemL r ≠ [] := by
  have h1 : 0 < r.length := List.length_pos_iff.mpr h
  unfold stemL
  split
  · rename_i q
    intro e
    have e2 := congrArg List.length e
    rw [List.length_take, List.length_nil] at e2
    have := q.1
    omega
  · intro e
    have e2 := congrArg List.length e
    rw [List.length_take, List.length_nil] at e2
    omega
theorem stem_ok {r : List Nat} (h : r ≠ []) (hl : ltr r) : okw (stem r) := ⟨stemL r, stemL_ne h, stemL_len r, stemL_ltr hl, rfl⟩
theorem okw.lt {W : Nat} (h : okw W) : W < 9223372036854775808 := by
  obtain ⟨m, -, -, h3, rfl⟩ := h; exact pkw_lt h3
theorem stems_ok (bs : List Nat) : ∀ w ∈ stems bs, okw w := by
  intro w hw
  obtain ⟨r, hr, rfl⟩ := List.mem_map.mp hw
  obtain ⟨h1, h2⟩ := toks_ltr bs [] (fun x hx => by cases hx) r hr
  exact stem_ok h1 h2
theorem stems_len (bs : List Nat) : 2 * (stems bs).length ≤ bs.length + 1 := by
  have := toks_len bs []
  unfold stems; simpa using this
theorem pow256 (k : Nat) : 2 ^ (8 * k) = 256 ^ k := by rw [Nat.pow_mul]
/-- the word grows -/
theorem pk_or {m : List Nat} {x : Nat} (hm : m.length < 8) (hx : x < 256) : pk m ||| x * 256 ^ (7 - m.length) = pk (m ++ [x]) := by
  unfold pk
  rw [pkA_app m x 8 hm]
  obtain ⟨a, ha⟩ := pkA_dvd m 8 (by omega)
  have e : 8 - 1 - m.length = 7 - m.length := by omega
  rw [ha, e]
  have e2 : 256 ^ (8 - m.length) = 2 ^ (8 * (8 - m.length)) := (pow256 _).symm
  have h3 : x * 256 ^ (7 - m.length) < 256 ^ (8 - m.length) := by
    have : 256 ^ (8 - m.length) = 256 * 256 ^ (7 - m.length) := by
      rw [show 8 - m.length = (7 - m.length) + 1 by omega, Nat.pow_succ]; omega
    rw [this]; exact Nat.mul_lt_mul_of_pos_right hx (Nat.pow_pos (by decide))
  rw [e2] at h3 ⊢
  exact (Nat.two_pow_add_eq_or_of_lt h3 a).symm
/-- the last letter goes -/
theorem pk_clear {m : List Nat} {x : Nat} (hm : m.length < 8) (hx : x < 256) : J (pk (m ++ [x])) &&& (J (255 * 256 ^ (7 - m.length)) ^^^ (-1)) = J (pk m) := by
  have hp : pk (m ++ [x]) = pk m + x * 256 ^ (7 - m.length) := by
    unfold pk; rw [pkA_app m x 8 hm]
  obtain ⟨a, ha⟩ := pkA_dvd m 8 (by omega)
  have hpm : pk m = 256 ^ (8 - m.length) * a := ha
  apply Int64.toBitVec.inj
  rw [Int64.toBitVec_and, Int64.toBitVec_xor]
  show BitVec.ofNat 64 (pk (m ++ [x])) &&& (BitVec.ofNat 64 (255 * 256 ^ (7 - m.length)) ^^^ BitVec.allOnes 64) = BitVec.ofNat 64 (pk m)
  apply BitVec.eq_of_getLsbD_eq
  intro i hi
  rw [BitVec.getLsbD_and, BitVec.getLsbD_xor]
  simp only [BitVec.getLsbD_ofNat, BitVec.getLsbD_allOnes, hi, decide_true, Bool.true_and]
  have e7 : (256 : Nat) ^ (7 - m.length) = 2 ^ (8 * (7 - m.length)) := (pow256 _).symm
  have e8 : (256 : Nat) ^ (8 - m.length) = 2 ^ (8 * (8 - m.length)) := (pow256 _).symm
  have hs : 8 * (8 - m.length) = 8 * (7 - m.length) + 8 := by omega
  rw [hp, hpm, e7, e8, hs]
  generalize 8 * (7 - m.length) = s
  have hor : 2 ^ (s + 8) * a + x * 2 ^ s = 2 ^ (s + 8) * a ||| x * 2 ^ s := by
    refine Nat.two_pow_add_eq_or_of_lt ?_ a
    rw [Nat.pow_add, Nat.mul_comm x]
    exact Nat.mul_lt_mul_of_pos_left (by omega) (Nat.pow_pos (by decide))
  rw [hor, Nat.testBit_or]
  simp only [Nat.testBit_two_pow_mul, Nat.testBit_mul_two_pow]
  have h255 : ∀ j, Nat.testBit 255 j = decide (j < 8) := fun j => by
    rw [show (255 : Nat) = 2 ^ 8 - 1 from rfl, Nat.testBit_two_pow_sub_one]
  rw [h255]
  by_cases h1 : s ≤ i
  · by_cases h2 : i - s < 8
    · have h3 : ¬ (s + 8 ≤ i) := by omega
      simp [h1, h2, h3]
    · have h3 : Nat.testBit x (i - s) = false := Nat.testBit_lt_two_pow (Nat.lt_of_lt_of_le hx (by
        rw [show (256 : Nat) = 2 ^ 8 from rfl]; exact Nat.pow_le_pow_right (by decide) (by omega)))
      simp [h2, h3]
  · have h3 : ¬ (s + 8 ≤ i) := by omega
    simp [h1, h3]
/-- letters and order -/
theorem lw_lt (W k : Nat) : lw W k < 256 := Nat.mod_lt _ (by decide)
theorem lw_step (W : Nat) {k : Nat} (hk : k < 8) : W / 256 ^ (7 - k) = W / 256 ^ (8 - k) * 256 + lw W k := by
  unfold lw
  have : 256 ^ (8 - k) = 256 ^ (7 - k) * 256 := by rw [← Nat.pow_succ]; congr 1; omega
  rw [this, ← Nat.div_div_eq_div_mul]
  omega
theorem lw_eq {W V : Nat} (hW : W < 18446744073709551616) (hV : V < 18446744073709551616) (h : ∀ k, k < 8 → lw W k = lw V k) : W = V := by
  have : ∀ k, k ≤ 8 → W / 256 ^ (8 - k) = V / 256 ^ (8 - k) := by
    intro k
    induction k with
    | zero => intro _; rw [Nat.div_eq_of_lt (by exact hW), Nat.div_eq_of_lt (by exact hV)]
    | succ k ih =>
      intro hk
      have e : 8 - (k + 1) = 7 - k := by omega
      rw [e, lw_step W (by omega), lw_step V (by omega), ih (by omega), h k (by omega)]
  have := this 8 (by omega)
  simpa using this
theorem lw_pre {W V k : Nat} (hW : W < 18446744073709551616) (hV : V < 18446744073709551616) (h : ∀ j, j < k → lw W j = lw V j) (hk : k ≤ 8) : W / 256 ^ (8 - k) = V / 256 ^ (8 - k) := by
  induction k with
  | zero => rw [Nat.div_eq_of_lt (by exact hW), Nat.div_eq_of_lt (by exact hV)]
  | succ k ih =>
    have e : 8 - (k + 1) = 7 - k := by omega
    rw [e, lw_step W (by omega), lw_step V (by omega), ih (fun j hj => h j (by omega)) (by omega), h k (by omega)]
theorem lw_less {W V k : Nat} (hW : W < 18446744073709551616) (hV : V < 18446744073709551616) (h : ∀ j, j < k → lw W j = lw V j) (hk : k < 8) (hl : lw W k < lw V k) : W < V := by
  have h1 := lw_pre hW hV h (by omega)
  have h2 := lw_step W hk
  have h3 := lw_step V hk
  rw [h1] at h2
  have h4 : W / 256 ^ (7 - k) < V / 256 ^ (7 - k) := by omega
  exact Nat.lt_of_not_le fun hle => Nat.not_le_of_lt h4 (Nat.div_le_div_right hle)
