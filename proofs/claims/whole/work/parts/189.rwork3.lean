
/-! the reference's work, one entry -/
theorem r_works {sl b c N k a dp z : Nat} {TG : List (Nat × List Sg)} {S : List Nat} {q : Nat × List Sg} {s : Sg} {f : Nat → Nat} {clk : Int64} {pT' asked pI' pZ' bits codec size words letter impact sums : Nat → Int32} {Φ : Int64 → Int32 → Int32 → (Nat → Int32) → Prop} (hsl : sl < 5) (hR : RX sl b c N TG bits codec size words letter impact) (hV : VT b N TG)
    (hAs : AskR (TG.map (fun q => q.1)) S asked) (ha : a < (AsK (TG.map (fun q => q.1)) S).length) (hq : TG[(AsK (TG.map (fun q => q.1)) S).getD a 0]? = some q) (hs : s ∈ q.2) (hk : k < 600) (hpt : pT' k = I a) (hpi : pI' k = I s.1) (hpz : pZ' k = I z) (hf : ∀ d, d < 40 → sums d = I (f d)) (ha8 : a < 64)
    (h : ∀ sums, (∀ d, d < 40 → sums d = I (stp f s d)) → Φ (clk + (I z).toInt64) (I (k + 1)) (I (dp + z)) sums) : P_X9_works clk (I k) (I dp) pT' asked size impact pI' sums pZ' (I sl) Φ := by
  have h64 : TG.length ≤ 64 := hV.2.2.2.2.1
  have e1 : I a = I (a + 1 - 0) - 1 := by rw [i_1, I_sub (by omega)]; rfl
  have e2 : (-1 : Int32) = I 0 - 1 := by decide
  unfold P_X9_works
  rw [I_in (by omega), I_cl (by omega), hpt, e1, e2]
  refine ⟨hk, 64 + 1, ?_⟩
  refine l_works12 hAs (by rw [List.length_map]; exact h64) ha ⟨N + 1, ?_⟩ 64 0 0 (by omega) (by omega) (fun j hj => by omega) (fun j _ _ => Nat.zero_le _) (fun y => by omega)
  refine l_works38 (f := f) hsl hR hV hq hs hk hpi (fun sums' hs' => ?_) N 0 sums (by omega) (by omega) (fun d hd => ?_)
  · show _ ∧ _
    rw [I_in (by omega), I_cl (by omega), hpz, i_1, I_add, I_add]
    exact ⟨hk, hk, h sums' hs'⟩
  · rw [hf d hd]
    unfold stp
    simp only [List.mem_filter, decide_eq_true_eq]
    rw [if_neg (fun x => Nat.not_lt_zero _ x.2)]; rfl
