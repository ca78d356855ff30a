
/-! the parts of a score are numbers -/
theorem cmp_val (o : Option Ordering) (op : CmpOp) : Op.cmpValue o op = (match o with | none => (match op with | .l => -1 | .g => 1) | some .lt => -1 | some .eq => 0 | some .gt => 1) := by
  cases o with
  | none => cases op <;> rfl
  | some x => cases x <;> rfl
theorem sc_lt63 {a : UInt64} (h : scOK a) : a.toNat < 2 ^ 63 := by unfold scOK at h; omega
theorem sc_cmp {a b : UInt64} (ha : scOK a) (hb : scOK b) : FP.dcmp a b = (if a.toNat < b.toNat then some .lt else if a.toNat = b.toNat then some .eq else some .gt) := by
  obtain ⟨h1, h2, h3⟩ := FP.Core.mono_bits (sc_nn ha) (sc_nn hb) (sc_lt63 ha) (sc_lt63 hb)
  show FP.Core.dcmp a b = _
  by_cases q : a.toNat < b.toNat
  · rw [if_pos q]; exact h1.mpr q
  · rw [if_neg q]
    by_cases r : a.toNat = b.toNat
    · rw [if_pos r]; exact h2.mpr r
    · rw [if_neg r]; exact h3.mpr (by omega)
theorem cl_le {a b : UInt64} (ha : scOK a) (hb : scOK b) : (Op.cmpValue (FP.dcmp a b) .l ≤ 0) = (a.toNat ≤ b.toNat) := by
  rw [sc_cmp ha hb, cmp_val]
  apply propext
  by_cases q : a.toNat < b.toNat
  · rw [if_pos q]; exact ⟨fun _ => by omega, fun _ => by decide⟩
  · rw [if_neg q]
    by_cases r : a.toNat = b.toNat
    · rw [if_pos r]; exact ⟨fun _ => by omega, fun _ => by decide⟩
    · rw [if_neg r]; exact ⟨fun z => absurd z (by decide), fun _ => by omega⟩
theorem cg_ge {a b : UInt64} (ha : scOK a) (hb : scOK b) : (0 ≤ Op.cmpValue (FP.dcmp a b) .g) = (b.toNat ≤ a.toNat) := by
  rw [sc_cmp ha hb, cmp_val]
  apply propext
  by_cases q : a.toNat < b.toNat
  · rw [if_pos q]; exact ⟨fun z => absurd z (by decide), fun _ => by omega⟩
  · rw [if_neg q]
    by_cases r : a.toNat = b.toNat
    · rw [if_pos r]; exact ⟨fun _ => by omega, fun _ => by decide⟩
    · rw [if_neg r]; exact ⟨fun _ => by omega, fun _ => by decide⟩
theorem cl_eq {a b : UInt64} (ha : scOK a) (hb : scOK b) : (Op.cmpValue (FP.dcmp a b) .l = 0) = (a = b) := by
  rw [sc_cmp ha hb, cmp_val]
  apply propext
  by_cases q : a.toNat < b.toNat
  · rw [if_pos q]; exact ⟨fun z => absurd z (by decide), fun z => by subst z; omega⟩
  · rw [if_neg q]
    by_cases r : a.toNat = b.toNat
    · rw [if_pos r]; exact ⟨fun _ => UInt64.toNat.inj r, fun _ => rfl⟩
    · rw [if_neg r]; exact ⟨fun z => absurd z (by decide), fun z => absurd (congrArg UInt64.toNat z) r⟩
theorem sc_zero : scOK FP.dconst0 := by unfold scOK; decide
theorem cg_lt0 {a : UInt64} (ha : scOK a) : ¬ Op.cmpValue (FP.dcmp a FP.dconst0) .g < 0 := by
  have h := cg_ge ha sc_zero
  have z : (0 : Int32) ≤ Op.cmpValue (FP.dcmp a FP.dconst0) .g := h.mpr (Nat.zero_le _)
  intro q
  rw [Int32.lt_iff_toInt_lt] at q
  rw [Int32.le_iff_toInt_le] at z
  omega
theorem cg_m1 : Op.cmpValue (FP.dcmp 13830554455654793216 FP.dconst0) .g < 0 := by decide +kernel
theorem cl_m1 {a : UInt64} (ha : scOK a) : ¬ Op.cmpValue (FP.dcmp a 13830554455654793216) .l ≤ 0 := by
  have h : FP.Core.dcmp a 13830554455654793216 = some .gt := by
    rw [FP.Core.dcmp_gt_key (sc_nn ha) (by decide +kernel)]
    have e : FP.Core.dkey 13830554455654793216 < 0 := by decide +kernel
    have f : 0 ≤ FP.Core.dkey a := by
      unfold FP.Core.dkey
      have := sc_lt63 ha
      rw [if_neg (by omega)]
      exact Int.natCast_nonneg _
    omega
  show ¬ Op.cmpValue (FP.Core.dcmp a 13830554455654793216) .l ≤ 0
  rw [h, cmp_val]
  decide
/-! bounds -/
theorem one_pos : 0 < FP.Core.one64 := FP.Core.one64_pos
theorem mul_b {a b : UInt64} {A B : Nat} (ha : scOK a) (hb : scOK b) (h1 : uu a ≤ A * FP.Core.one64) (h2 : uu b ≤ B * FP.Core.one64) (h3 : A * B < 2147483648) :
    vf_n64 (FP.dmul a b) ∧ scOK (FP.dmul a b) ∧ uu (FP.dmul a b) ≤ A * B * FP.Core.one64 := by
  have r := rr_mul ha hb
  refine ⟨r.vf, r.below h3 ?_⟩
  have := Nat.mul_le_mul h1 h2
  generalize FP.Core.one64 = O at *
  calc uu a * uu b ≤ A * O * (B * O) := this
    _ = A * B * O * O := by ac_rfl
theorem div_b {a b : UInt64} {A : Nat} (ha : scOK a) (hb : scOK b) (h1 : uu a ≤ A * FP.Core.one64) (h2 : FP.Core.one64 ≤ uu b) (h3 : A < 2147483648) :
    vf_n64 (FP.ddiv a b) ∧ scOK (FP.ddiv a b) ∧ uu (FP.ddiv a b) ≤ A * FP.Core.one64 := by
  have h0 := one_pos
  have r := rr_div ha hb (by omega)
  exact ⟨r.vf, r.below h3 (Nat.mul_le_mul h1 h2)⟩
theorem div_ge {a b : UInt64} (ha : scOK a) (hb : scOK b) (h0 : 0 < uu b) (h1 : uu b ≤ uu a) : FP.Core.one64 ≤ uu (FP.ddiv a b) := by
  have r := rr_div ha hb h0
  have := r.above (k := 1) (by omega) (by rw [Nat.one_mul, Nat.mul_comm]; exact Nat.mul_le_mul_right _ h1)
  rwa [Nat.one_mul] at this
theorem add_b {a b : UInt64} {A B : Nat} (ha : scOK a) (hb : scOK b) (h1 : uu a ≤ A * FP.Core.one64) (h2 : uu b ≤ B * FP.Core.one64) (h3 : A + B < 2147483648) :
    vf_n64 (FP.dadd a b) ∧ scOK (FP.dadd a b) ∧ uu (FP.dadd a b) ≤ (A + B) * FP.Core.one64 := by
  have r := rr_add ha hb
  refine ⟨r.vf, r.below h3 ?_⟩
  rw [Nat.mul_one, Nat.add_mul]; omega
theorem add_ge {a b : UInt64} {k : Nat} (ha : scOK a) (hb : scOK b) (hk : k < 2147483648) (h1 : k * FP.Core.one64 ≤ uu a + uu b) : k * FP.Core.one64 ≤ uu (FP.dadd a b) :=
  (rr_add ha hb).above hk (by rw [Nat.mul_one]; exact h1)
theorem k_A : scOK 4611235658464650854 ∧ uu 4611235658464650854 ≤ 2 * FP.Core.one64 := by unfold scOK; decide +kernel
theorem k_B : scOK 4600877379321698714 ∧ uu 4600877379321698714 ≤ 1 * FP.Core.one64 := by unfold scOK; decide +kernel
theorem k_D : scOK 4603579539098121011 ∧ uu 4603579539098121011 ≤ 1 * FP.Core.one64 := by unfold scOK; decide +kernel
theorem k_E : scOK 4606281698874543309 ∧ uu 4606281698874543309 ≤ 1 * FP.Core.one64 := by unfold scOK; decide +kernel
theorem k_4 : scOK 4616189618054758400 ∧ uu 4616189618054758400 ≤ 4 * FP.Core.one64 := by unfold scOK; decide +kernel
theorem n_le {n k : Nat} (h : n ≤ k) (hk : k < 2147483648) : scOK (FP.i2d (I n)) ∧ uu (FP.i2d (I n)) ≤ k * FP.Core.one64 := by
  obtain ⟨a, b⟩ := sc_i2d (n := n) (by omega)
  exact ⟨a, by rw [b]; exact Nat.mul_le_mul_right _ h⟩
theorem n_ge {n : Nat} (h : 1 ≤ n) (hk : n < 2147483648) : FP.Core.one64 ≤ uu (FP.i2d (I n)) := by
  rw [(sc_i2d hk).2]; exact Nat.le_mul_of_pos_left _ h
theorem sc_all {N S tf df len : Nat} (h : scV N S tf df len) : vf_n64 (scM N S) ∧ vf_n64 (scA tf) ∧ vf_n64 (scB len) ∧ vf_n64 (scC N S len) ∧ vf_n64 (scD N S len) ∧ vf_n64 (scE N S len) ∧ vf_n64 (scG N S tf len) ∧ vf_n64 (scW N S tf len) ∧ vf_n64 (scX N df) ∧ vf_n64 (scF N S tf df len) ∧ scOK (scF N S tf df len) ∧ uu (scF N S tf df len) ≤ 12000 * FP.Core.one64 ∧ lnOk (scX N df) = true := by
  obtain ⟨h1, h2, h3, h4, h5, h6, h7, h8, h9⟩ := h
  have nN := n_le (n := N) (k := 40) h2 (by omega)
  have nN1 := n_ge (n := N) h1 (by omega)
  have nS := n_le (n := S) (k := 60000) h6 (by omega)
  have nT := n_le (n := tf) (k := 1500) h8 (by omega)
  have nL := n_le (n := len) (k := 1500) h9 (by omega)
  have nD := n_le (n := df) (k := 40) (by omega) (by omega)
  have nD1 := n_ge (n := df) h3 (by omega)
  have p0 := one_pos
  obtain ⟨m1, m2, m3⟩ := div_b nS.1 nN.1 nS.2 nN1 (by omega)
  have m4 : FP.Core.one64 ≤ uu (scM N S) := div_ge nS.1 nN.1 (by omega) (by rw [(sc_i2d (n := N) (by omega)).2, (sc_i2d (n := S) (by omega)).2]; exact Nat.mul_le_mul_right _ h5)
  obtain ⟨a1, a2, a3⟩ := mul_b k_A.1 nT.1 k_A.2 nT.2 (by omega)
  obtain ⟨b1, b2, b3⟩ := mul_b k_B.1 nL.1 k_B.2 nL.2 (by omega)
  obtain ⟨c1, c2, c3⟩ := div_b (b := scM N S) b2 m2 b3 m4 (by omega)
  obtain ⟨d1, d2, d3⟩ := add_b k_D.1 c2 k_D.2 c3 (by omega)
  obtain ⟨e1, e2, e3⟩ := mul_b k_E.1 d2 k_E.2 d3 (by omega)
  obtain ⟨g1, g2, g3⟩ := add_b e2 nT.1 e3 nT.2 (by omega)
  have g4 : 1 * FP.Core.one64 ≤ uu (scG N S tf len) := add_ge e2 nT.1 (by omega) (by have := n_ge (n := tf) h7 (by omega); omega)
  rw [Nat.one_mul] at g4
  obtain ⟨w1, w2, w3⟩ := div_b (b := scG N S tf len) a2 g2 a3 g4 (by omega)
  obtain ⟨x1, x2, x3⟩ := div_b nN.1 nD.1 nN.2 nD1 (by omega)
  have l0 := ln_ok h3 h4 h2
  have l1 : (lnF (scX N df)).toNat < 4616189618054758400 := by
    have := l0
    unfold lnOk at this
    simp only [Bool.and_eq_true] at this
    exact of_decide_eq_true this.2.2.2.2.2.2.2.2
  have l2 : scOK (lnF (scX N df)) := by unfold scOK; omega
  have l3 : uu (lnF (scX N df)) ≤ 4 * FP.Core.one64 := by
    have e : (4616189618054758400 : UInt64).toNat = 4616189618054758400 := rfl
    have := (sc_le l2 k_4.1).mpr (by rw [e]; omega)
    have := k_4.2
    omega
  obtain ⟨f1, f2, f3⟩ := mul_b l2 w2 l3 w3 (by omega)
  have e5 : 4 * (2 * 1500) = 12000 := by decide
  rw [e5] at f3
  exact ⟨m1, a1, b1, c1, d1, e1, g1, w1, x1, f1, f2, f3, l0⟩
