
/-! scores: what is used of the doubles -/
def lnA : Nat → UInt64 → Nat → UInt64 × Nat
  | 0, x, e => (x, e)
  | k + 1, x, e => if (Op.cmpValue (FP.dcmp x 4611686018427387904) .l) < 0 then (x, e) else lnA k (FP.ddiv x 4611686018427387904) (e + 1)
def lnS : Nat → UInt64 → UInt64 → UInt64 → Nat → UInt64
  | 0, _, _, s, _ => s
  | k + 1, y, t, s, i => lnS k y (FP.dmul (FP.dmul t y) y) (FP.dadd s (FP.ddiv t (FP.i2d (I i)))) (i + 2)
def lnY (x : UInt64) : UInt64 := FP.ddiv (FP.dsub x FP.dconst1) (FP.dadd x FP.dconst1)
def lnF (x : UInt64) : UInt64 := FP.dadd (FP.dmul 4611686018427387904 (lnS 12 (lnY (lnA 6 x 0).1) (lnY (lnA 6 x 0).1) FP.dconst0 1)) (FP.dmul (FP.i2d (I (lnA 6 x 0).2)) 4604418534313441775)
def n64b (r : UInt64) : Bool := decide (r &&& 0x7fffffffffffffff ≤ 0x7ff0000000000000)
def lnAok : Nat → UInt64 → Bool
  | 0, x => decide ((Op.cmpValue (FP.dcmp x 4611686018427387904) .l) < 0)
  | k + 1, x => if (Op.cmpValue (FP.dcmp x 4611686018427387904) .l) < 0 then true else n64b (FP.ddiv x 4611686018427387904) && lnAok k (FP.ddiv x 4611686018427387904)
def lnSok : Nat → UInt64 → UInt64 → UInt64 → Nat → Bool
  | 0, _, _, _, _ => true
  | k + 1, y, t, s, i => n64b (FP.ddiv t (FP.i2d (I i))) && (n64b (FP.dadd s (FP.ddiv t (FP.i2d (I i)))) && (n64b (FP.dmul t y) && (n64b (FP.dmul (FP.dmul t y) y) && lnSok k y (FP.dmul (FP.dmul t y) y) (FP.dadd s (FP.ddiv t (FP.i2d (I i)))) (i + 2))))
/-- all that is asked of a logarithm, to be reckoned -/
def lnOk (x : UInt64) : Bool := lnAok 6 x && (n64b (FP.dsub (lnA 6 x 0).1 FP.dconst1) && (n64b (FP.dadd (lnA 6 x 0).1 FP.dconst1) && (n64b (lnY (lnA 6 x 0).1) && (lnSok 12 (lnY (lnA 6 x 0).1) (lnY (lnA 6 x 0).1) FP.dconst0 1 && (n64b (FP.dmul 4611686018427387904 (lnS 12 (lnY (lnA 6 x 0).1) (lnY (lnA 6 x 0).1) FP.dconst0 1)) && (n64b (FP.dmul (FP.i2d (I (lnA 6 x 0).2)) 4604418534313441775) && (n64b (lnF x) && decide ((lnF x).toNat < 4616189618054758400))))))))
theorem lnA_e : ∀ k x e, (lnA k x e).2 ≤ e + k := by
  intro k
  induction k with
  | zero => intro x e; exact Nat.le_refl _
  | succ k ih =>
    intro x e
    unfold lnA
    split
    · show e ≤ _; omega
    · have := ih (FP.ddiv x 4611686018427387904) (e + 1); omega
theorem n64 {r : UInt64} (h : n64b r = true) : vf_n64 r := by unfold n64b at h; unfold vf_n64; exact of_decide_eq_true h
theorem l_log1 {K : UInt64 → Int32 → Prop} {Φ : UInt64 → Prop} : ∀ k x e, e + k ≤ 6 → lnAok k x = true → K (lnA k x e).1 (I (lnA k x e).2) → L_X1_logarithm_5 (k + 1) x (I e) K Φ := by
  intro k
  induction k with
  | zero =>
    intro x e h1 h2 hK
    unfold L_X1_logarithm_5
    exact ⟨fun _ => hK, fun q => absurd (of_decide_eq_true h2) q⟩
  | succ k ih =>
    intro x e h1 h2 hK
    unfold L_X1_logarithm_5
    unfold lnAok at h2
    unfold lnA at hK
    by_cases q : (Op.cmpValue (FP.dcmp x 4611686018427387904) .l) < 0
    · rw [if_pos q] at hK
      exact ⟨fun _ => hK, fun z => absurd q z⟩
    · rw [if_neg q] at hK h2
      rw [Bool.and_eq_true] at h2
      refine ⟨fun z => absurd z q, fun _ => ⟨fun z => ?_, fun _ => ⟨n64 h2.1, ?_⟩⟩⟩
      · rw [i_1100, I_le (by omega) (by omega)] at z; omega
      · rw [i_1, I_add]; exact ih _ (e + 1) (by omega) h2.2 hK
theorem l_ln1 {K : UInt64 → Int32 → Prop} {Φ : UInt64 → Prop} : ∀ k x e, lnAok k x = true → K (lnA k x e).1 (I (lnA k x e).2) → L_X9_ln_5 (k + 1) x (I e) K Φ := by
  intro k
  induction k with
  | zero =>
    intro x e h2 hK
    unfold L_X9_ln_5
    exact ⟨fun _ => hK, fun q => absurd (of_decide_eq_true h2) q⟩
  | succ k ih =>
    intro x e h2 hK
    unfold L_X9_ln_5
    unfold lnAok at h2
    unfold lnA at hK
    by_cases q : (Op.cmpValue (FP.dcmp x 4611686018427387904) .l) < 0
    · rw [if_pos q] at hK
      exact ⟨fun _ => hK, fun z => absurd q z⟩
    · rw [if_neg q] at hK h2
      rw [Bool.and_eq_true] at h2
      refine ⟨fun z => absurd z q, fun _ => ⟨n64 h2.1, ?_⟩⟩
      rw [i_1, I_add]; exact ih _ (e + 1) h2.2 hK
theorem l_log2 {e : Int32} {y : UInt64} {K : Int32 → UInt64 → Prop} {Φ : UInt64 → Prop} : ∀ k t s i, i + 2 * k = 25 → lnSok k y t s i = true → K e (lnS k y t s i) → L_X1_logarithm_52 (k + 1) e y t s (I i) K Φ := by
  intro k
  induction k with
  | zero =>
    intro t s i h1 h2 hK
    unfold L_X1_logarithm_52
    have e23 : (23 : Int32) = I 23 := rfl
    rw [e23, I_lt (by omega) (by omega)]
    exact ⟨fun _ => hK, fun q => by omega⟩
  | succ k ih =>
    intro t s i h1 h2 hK
    unfold L_X1_logarithm_52
    unfold lnSok at h2
    simp only [Bool.and_eq_true] at h2
    obtain ⟨a1, a2, a3, a4, a5⟩ := h2
    have e23 : (23 : Int32) = I 23 := rfl
    rw [e23, I_lt (by omega) (by omega)]
    refine ⟨fun q => by omega, fun _ => ⟨n64 a1, n64 a2, n64 a3, n64 a4, ?_⟩⟩
    rw [i_2, I_add]; exact ih _ _ (i + 2) (by omega) a5 hK
theorem l_ln2 {e : Int32} {y : UInt64} {K : Int32 → UInt64 → Prop} {Φ : UInt64 → Prop} : ∀ k t s i, i + 2 * k = 25 → lnSok k y t s i = true → K e (lnS k y t s i) → L_X9_ln_44 (k + 1) e y t s (I i) K Φ := by
  intro k
  induction k with
  | zero =>
    intro t s i h1 h2 hK
    unfold L_X9_ln_44
    rw [i_24, I_le (by omega) (by omega)]
    exact ⟨fun _ => hK, fun q => by omega⟩
  | succ k ih =>
    intro t s i h1 h2 hK
    unfold L_X9_ln_44
    unfold lnSok at h2
    simp only [Bool.and_eq_true] at h2
    obtain ⟨a1, a2, a3, a4, a5⟩ := h2
    rw [i_24, I_le (by omega) (by omega)]
    refine ⟨fun q => by omega, fun _ => ⟨n64 a1, n64 a2, n64 a3, n64 a4, ?_⟩⟩
    rw [i_2, I_add]; exact ih _ _ (i + 2) (by omega) a5 hK
theorem s_log {x : UInt64} {Φ : UInt64 → Prop} (hx : lnOk x = true) (h : Φ (lnF x)) : P_X1_logarithm x Φ := by
  unfold lnOk at hx
  simp only [Bool.and_eq_true] at hx
  obtain ⟨a1, a2, a3, a4, a5, a6, a7, a8, -⟩ := hx
  refine ⟨6 + 1, l_log1 6 x 0 (by omega) a1 ?_⟩
  unfold J_X1_logarithm_33
  exact ⟨n64 a2, n64 a3, n64 a4, 12 + 1, l_log2 12 _ _ 1 (by omega) a5 ⟨n64 a6, n64 a7, n64 a8, h⟩⟩
theorem r_ln {x : UInt64} {Φ : UInt64 → Prop} (hx : lnOk x = true) (h : Φ (lnF x)) : P_X9_ln x Φ := by
  unfold lnOk at hx
  simp only [Bool.and_eq_true] at hx
  obtain ⟨a1, a2, a3, a4, a5, a6, a7, a8, -⟩ := hx
  exact ⟨6 + 1, l_ln1 6 x 0 a1 ⟨n64 a2, n64 a3, n64 a4, 12 + 1, l_ln2 12 _ _ 1 (by omega) a5 ⟨n64 a6, n64 a7, n64 a8, h⟩⟩⟩
/-- the parts of a score -/
def scM (N S : Nat) : UInt64 := FP.ddiv (FP.i2d (I S)) (FP.i2d (I N))
def scA (tf : Nat) : UInt64 := FP.dmul 4611235658464650854 (FP.i2d (I tf))
def scB (len : Nat) : UInt64 := FP.dmul 4600877379321698714 (FP.i2d (I len))
def scC (N S len : Nat) : UInt64 := FP.ddiv (scB len) (scM N S)
def scD (N S len : Nat) : UInt64 := FP.dadd 4603579539098121011 (scC N S len)
def scE (N S len : Nat) : UInt64 := FP.dmul 4606281698874543309 (scD N S len)
def scG (N S tf len : Nat) : UInt64 := FP.dadd (scE N S len) (FP.i2d (I tf))
def scW (N S tf len : Nat) : UInt64 := FP.ddiv (scA tf) (scG N S tf len)
def scX (N df : Nat) : UInt64 := FP.ddiv (FP.i2d (I N)) (FP.i2d (I df))
def scF (N S tf df len : Nat) : UInt64 := FP.dmul (lnF (scX N df)) (scW N S tf len)
/-- a double that is no less than 0 and no infinity -/
def scOK (x : UInt64) : Prop := x.toNat < 9218868437227405312
def scV (N S tf df len : Nat) : Prop := 1 ≤ N ∧ N ≤ 40 ∧ 1 ≤ df ∧ df ≤ N ∧ N ≤ S ∧ S ≤ 60000 ∧ 1 ≤ tf ∧ tf ≤ 1500 ∧ len ≤ 1500
def impX (v lo hi : UInt64) (q : Nat) : UInt64 := FP.dadd (FP.dadd FP.dconst1 (FP.ddiv (FP.dmul (FP.dsub v lo) (FP.i2d (I (q - 1)))) (FP.dsub hi lo))) 4602678819172646912
def impV (v lo hi : UInt64) (q : Nat) : Nat := if hi = lo then q else (FP.d2i (impX v lo hi q)).toNatClampNeg
