
/-! the class runs a search, all of it -/
def sgP (TG : List (Nat × List Sg)) (P : List (Nat × Nat × Nat × Nat)) : List Sg := P.map (fun e => (SLt TG).getD (pG e) (0, []))
theorem s_run {TG : List (Nat × List Sg)} {b N m : Nat} {A : List Nat} {tm : Nat → Int64} {picked fs im fp doc pa pb pc' pd io sums hit : Nat → Int32} {te sg po dn dp wy hits bud : Int32} {clk dl : Int64}
    {Φ : Int32 → Int32 → Int32 → Int32 → Int32 → Int32 → Int32 → (Nat → Int32) → (Nat → Int32) → (Nat → Int32) → (Nat → Int32) → (Nat → Int32) → (Nat → Int32) → (Nat → Int32) → Prop}
    (hA : CA TG tm fs im fp doc) (hV : VT b N TG) (hAk : ∀ t ∈ A, t < TG.length) (hA8 : A.length ≤ 8) (hpk : Row picked A) (hm : m ≤ 40)
    (h : ∀ P k q f hs pa pb pc' pd io sums hit, P.Pairwise pord → (∀ x, x ∈ P ↔ x ∈ allE TG A A.length) → P.length = (allE TG A A.length).length → R4 pa pb pc' pd P → (∀ c, c < 320 → io c = I (ioF TG A A.length c)) → wrun (sgP TG P) bud clk dl P.length 0 0 (fun _ => 0) = (k, q, f) → k ≤ P.length → q ≤ 40 * k → (∀ d, d < 40 → sums d = I (f d)) → (∀ d, f d ≤ 256 * k) → HO f 40 hs → Row hit hs →
      Φ (I A.length) (I P.length) (I k) (I q) (I ((allE TG A A.length).map pZ).sum) (whyO P.length k q bud) (I (min hs.length m)) io pa pb pc' pd sums hit) :
    P_X6_run (I A.length) te sg dn dp po wy hits io picked fs im fp pa pb pc' pd doc sums hit (I m) bud dl clk Φ := by
  obtain ⟨b1, b2, b3⟩ := allE_bd hV hAk A.length (Nat.le_refl _)
  unfold P_X6_run
  refine s_makePlan hA hV hAk hA8 hpk (fun P pa pb pc' pd io p1 p2 p3 p4 p5 => ?_)
  have hsl : (sgP TG P).length = P.length := by unfold sgP; rw [List.length_map]
  have hget : ∀ i, i < P.length → ∃ e, P.getD i (0, 0, 0, 0) = e ∧ e ∈ P := fun i hi => ⟨_, rfl, by rw [List.getD_eq_getElem?_getD, List.getElem?_eq_getElem hi]; exact List.getElem_mem _⟩
  have hsg : ∀ i, i < P.length → (sgP TG P).getD i (0, []) = (SLt TG).getD (pG (P.getD i (0, 0, 0, 0))) (0, []) := fun i hi => by
    unfold sgP
    rw [List.getD_eq_getElem?_getD (l := P.map _), List.getElem?_map, List.getD_eq_getElem?_getD (l := P), List.getElem?_eq_getElem hi]; rfl
  have hw : ∀ s ∈ sgP TG P, s.2.length ≤ 40 ∧ s.2.Nodup ∧ (∀ d ∈ s.2, d < 40) ∧ s.1 < 256 := fun s hs => by
    unfold sgP at hs
    rw [List.mem_map] at hs
    obtain ⟨e, he, rfl⟩ := hs
    obtain ⟨s, s1, s2, s3, s4, s5, s6, s7⟩ := allE_sg hV hAk (Nat.le_refl _) ((p2 e).mp he)
    rw [List.getD_eq_getElem?_getD, s1]
    exact ⟨s4, s5, s6, s7⟩
  have key := s_work (pg := pd) (sgs := sgP TG P) (sums := sums) (bud := bud) (dn := dn) (dp := dp) (wy := wy) (clk := clk) (dl := dl) (Φ := fun doneSegments_9 donePostings_10 why_11 sums_12 => P_X6_rank hits sums_12 hit (I m) (fun hits_13 hitDocument_14 => Φ (I A.length) (I P.length) doneSegments_9 donePostings_10 (I ((allE TG A A.length).map pZ).sum) why_11 hits_13 io pa pb pc' pd sums_12 hitDocument_14)) hA hV (by rw [hsl]; omega) (fun i hi => by
    rw [hsl] at hi
    obtain ⟨e, e1, e2⟩ := hget i hi
    obtain ⟨s, s1, -⟩ := allE_sg hV hAk (Nat.le_refl _) ((p2 e).mp e2)
    refine ⟨pG e, ?_, ?_⟩
    · have := p4.2.2.2 i (by rw [List.length_map]; exact hi)
      rw [this, mget rfl, e1]
    · rw [hsg i hi, e1, List.getD_eq_getElem?_getD (l := SLt TG), s1]; rfl) (fun s hs => ⟨(hw s hs).1, (hw s hs).2.1, (hw s hs).2.2.1⟩) (fun k q f sums2 e q1 q2 q3 => by
    rw [hsl] at e q1
    have hbd := wrun_bd (fun s hs => (hw s hs).2.2.2) _ _ _ _ _ _ _ e (fun d => Nat.zero_le _)
    refine s_rankC hm (fun d hd => ⟨q3 d hd, ?_⟩) (fun hs hit2 r1 r2 => ?_)
    · have := hbd d; omega
    · rw [hsl]
      exact h P k q f hs pa pb pc' pd io sums2 hit2 p1 p2 p3 p4 p5 e q1 q2 q3 hbd r1 r2)
  rw [hsl] at key
  exact key
