
/-! the reference finds the a-th term that is asked for -/
theorem AsK_srt (T S : List Nat) : srt (AsK T S) := (srt_range _).filter _
theorem m1_lt {r : Nat} (h : r < 100000) : (I r - 1 < 0) = (r = 0) := by
  apply propext
  by_cases z : r = 0
  · subst z; exact ⟨fun _ => rfl, fun _ => by decide⟩
  · rw [i_1, I_sub (by omega), i_0, I_lt (by omega) (by omega)]
    exact ⟨fun q => by omega, fun q => absurd q z⟩
theorem l_works12 {T S : List Nat} {a : Nat} {clk : Int64} {dn pd l1 : Int32} {pT' asked size impact pI' sums pZ' : Nat → Int32} {K : Int64 → Int32 → Int32 → (Nat → Int32) → Int32 → Int32 → Prop} {Φ : Int64 → Int32 → Int32 → (Nat → Int32) → Prop} (hR : AskR T S asked) (h64 : T.length ≤ 64) (ha : a < (AsK T S).length)
    (hK : K clk dn pd sums l1 (I ((AsK T S).getD a 0))) :
    ∀ k i c, 64 ≤ i + k → c ≤ a + 1 → (∀ j, j < c → (AsK T S).getD j 0 < i) → (∀ j, c ≤ j → j < (AsK T S).length → i ≤ (AsK T S).getD j 0) → (c = a + 1 → i = (AsK T S).getD a 0 + 1) → L_X9_works_12 (k + 1) clk dn pd pT' asked size impact pI' sums pZ' l1 (I (a + 1 - c) - 1) (I i - 1) K Φ := by
  have hle := AsK_le T S
  have hmem : ∀ j, j < (AsK T S).length → (AsK T S).getD j 0 < T.length := fun j hj => (mem_AsK.mp (getD_mem hj)).1
  have hcan : ∀ x : Int32, x - 1 + 1 = x := fun x => Int32.sub_add_cancel x 1
  intro k
  induction k with
  | zero =>
    intro i c h1 h2 h3 h4 h5
    unfold L_X9_works_12
    rw [m1_lt (by omega)]
    refine ⟨fun z => ?_, fun z => ?_⟩
    · have e := h5 (by omega)
      rw [e, show I ((AsK T S).getD a 0 + 1) - 1 = I ((AsK T S).getD a 0) from by rw [i_1, I_sub (by omega), Nat.add_sub_cancel]]; exact hK
    · have := h4 c (Nat.le_refl _) (by omega)
      have := hmem c (by omega)
      omega
  | succ k ih =>
    intro i c h1 h2 h3 h4 h5
    unfold L_X9_works_12
    rw [m1_lt (by omega)]
    refine ⟨fun z => ?_, fun z => ?_⟩
    · have e := h5 (by omega)
      rw [e, show I ((AsK T S).getD a 0 + 1) - 1 = I ((AsK T S).getD a 0) from by rw [i_1, I_sub (by omega), Nat.add_sub_cancel]]; exact hK
    · have x1 := h4 c (Nat.le_refl _) (by omega)
      have x2 := hmem c (by omega)
      rw [hcan, I_in (by omega), I_cl (by omega), hR i (by omega)]
      have ei : I i = I (i + 1) - 1 := by rw [i_1, I_sub (by omega), Nat.add_sub_cancel]
      refine ⟨by omega, fun y => ?_, fun y => ?_⟩
      · have hno : i ∉ AsK T S := fun q => y (by rw [if_pos (mem_AsK.mp q)]; rfl)
        rw [ei]
        refine ih (i + 1) c (by omega) h2 (fun j hj => by have := h3 j hj; omega) (fun j hj hj2 => ?_) (fun q => by omega)
        have := h4 j hj hj2
        have : (AsK T S).getD j 0 ≠ i := fun q => hno (q ▸ getD_mem hj2)
        omega
      · have hi : i ∈ AsK T S := Classical.byContradiction fun q => by
          rw [if_neg (fun w => q (mem_AsK.mpr w))] at y
          exact absurd y (by decide)
        have ec : (AsK T S).getD c 0 = i := by
          obtain ⟨j, hj, e⟩ := List.mem_iff_getElem.mp hi
          have e2 : (AsK T S).getD j 0 = i := by rw [List.getD_eq_getElem?_getD, List.getElem?_eq_getElem hj, Option.getD_some]; exact e
          rcases Nat.lt_trichotomy j c with q | q | q
          · have := h3 j q; omega
          · subst q; exact e2
          · have := (AsK_srt T S).get q hj; omega
        have er : I (a + 1 - c) - 1 + -1 = I (a + 1 - (c + 1)) - 1 := by
          rw [show a + 1 - c = (a + 1 - (c + 1)) + 1 from by omega, i_1, I_sub (by omega), Nat.add_sub_cancel, Int32.sub_eq_add_neg]
        rw [er, ei]
        refine ih (i + 1) (c + 1) (by omega) (by omega) (fun j hj => ?_) (fun j hj hj2 => ?_) (fun q => ?_)
        · by_cases w : j = c
          · subst w; omega
          · have := h3 j (by omega); omega
        · have := (AsK_srt T S).get (i := c) (j := j) (by omega) hj2; omega
        · have : c = a := by omega
          subst this; omega
