
/-! generations: what both sides hold -/
def hk3 (h0 h1 h2 : Nat) : Nat → Nat := fun p => if p = 0 then h0 else if p = 1 then h1 else h2
/-- the contents of an index object -/
def IXR (X : Ix) (dc tc sc pc : Int32) (tm : Nat → Int64) (fs im fp doc : Nat → Int32) : Prop := dc = I X.2.1 ∧ tc = I X.2.2.length ∧ sc = I (SLt X.2.2).length ∧ pc = I (PL (SLt X.2.2)).length ∧ CA X.2.2 tm fs im fp doc
/-- one of the three -/
def KP (C : Nat → Nat × Ix) (n : Nat) (dc tc sc pc : Int32) (tm : Nat → Int64) (fs im fp doc : Nat → Int32) : Prop := GD fs fp ∧ (n ≠ 0 → IXR (C n).2 dc tc sc pc tm fs im fp doc)
/-- all but the objects -/
def GX (m lat : Nat) (num : Nat → Nat) (kp : Nat → Bool) (gn : Nat → Nat) (hl : Nat → Option Nat) (C : Nat → Nat × Ix) (lat1 : Int32) (number held : Nat → Int32) (lat2 : Int32) (bits codec size words letter impact generation kept2 holds : Nat → Int32) : Prop :=
  lat ≤ m ∧ lat1 = I lat ∧ lat2 = I lat ∧ GI lat num kp gn hl ∧ NN num number ∧ KK kp gn kept2 generation ∧ HH hl held ∧ HH hl holds ∧ ∀ s, s < 4 → kp s = true → RX s (C (gn s)).2.1 (C (gn s)).1 (C (gn s)).2.2.1 (C (gn s)).2.2.2 bits codec size words letter impact ∧ VX (C (gn s)).2
def GN (m : Nat) (lat1 : Int32) (kept : Nat → Option Nat) (number held : Nat → Int32) (h0 h1 h2 : Nat) (dc0 tc0 sc0 pc0 : Int32) (tm0 : Nat → Int64) (fs0 im0 fp0 doc0 : Nat → Int32) (dc1 tc1 sc1 pc1 : Int32) (tm1 : Nat → Int64) (fs1 im1 fp1 doc1 : Nat → Int32) (dc2 tc2 sc2 pc2 : Int32) (tm2 : Nat → Int64) (fs2 im2 fp2 doc2 : Nat → Int32) (lat2 : Int32) (bits codec size words letter impact generation kept2 holds : Nat → Int32) : Prop :=
  ∃ lat num kp gn hl C, GX m lat num kp gn hl C lat1 number held lat2 bits codec size words letter impact generation kept2 holds ∧ (∀ p, p < 3 → kept p = some (hk3 h0 h1 h2 p)) ∧ KP C (num 0) dc0 tc0 sc0 pc0 tm0 fs0 im0 fp0 doc0 ∧ KP C (num 1) dc1 tc1 sc1 pc1 tm1 fs1 im1 fp1 doc1 ∧ KP C (num 2) dc2 tc2 sc2 pc2 tm2 fs2 im2 fp2 doc2
theorem GX.mono {m m' lat : Nat} {num : Nat → Nat} {kp : Nat → Bool} {gn : Nat → Nat} {hl : Nat → Option Nat} {C : Nat → Nat × Ix} {lat1 lat2 : Int32} {number held bits codec size words letter impact generation kept2 holds : Nat → Int32} (h : GX m lat num kp gn hl C lat1 number held lat2 bits codec size words letter impact generation kept2 holds) (hm : m ≤ m') : GX m' lat num kp gn hl C lat1 number held lat2 bits codec size words letter impact generation kept2 holds := ⟨Nat.le_trans h.1 hm, h.2⟩
theorem GX.sf {m lat : Nat} {num : Nat → Nat} {kp : Nat → Bool} {gn : Nat → Nat} {hl : Nat → Option Nat} {C : Nat → Nat × Ix} {lat1 lat2 : Int32} {number held bits codec size words letter impact generation kept2 holds bits' codec' size' words' letter' impact' : Nat → Int32} (h : GX m lat num kp gn hl C lat1 number held lat2 bits codec size words letter impact generation kept2 holds) (hS : ∀ s, s < 4 → SF s bits codec size words letter impact bits' codec' size' words' letter' impact') : GX m lat num kp gn hl C lat1 number held lat2 bits' codec' size' words' letter' impact' generation kept2 holds := by
  obtain ⟨a1, a2, a3, a4, a5, a6, a7, a8, a9⟩ := h
  refine ⟨a1, a2, a3, a4, a5, a6, a7, a8, fun s hs hk => ?_⟩
  obtain ⟨b1, b2⟩ := a9 s hs hk
  exact ⟨b1.frame b2.1.2.2.2.2.1 (hS s hs), b2⟩
theorem KP.up {C C' : Nat → Nat × Ix} {n : Nat} {dc tc sc pc : Int32} {tm : Nat → Int64} {fs im fp doc : Nat → Int32} (h : KP C n dc tc sc pc tm fs im fp doc) (hC : n ≠ 0 → C' n = C n) : KP C' n dc tc sc pc tm fs im fp doc :=
  ⟨h.1, fun q => by rw [hC q]; exact h.2 q⟩
theorem KP.zero {C : Nat → Nat × Ix} {dc tc sc pc : Int32} {tm : Nat → Int64} {fs im fp doc : Nat → Int32} (h : GD fs fp) : KP C 0 dc tc sc pc tm fs im fp doc := ⟨h, fun q => absurd rfl q⟩
theorem ctN_all {num : Nat → Nat} (h : ctN num 3 = 3) : ∀ p, p < 3 → num p ≠ 0 := fun p hp => by
  unfold ctN at h
  have := (List.length_filter_eq_length_iff (l := List.range 3)).mp (by rw [h]; rfl) p (List.mem_range.mpr hp)
  exact of_decide_eq_true this
def newC (C : Nat → Nat × Ix) (g : Nat) (x : Nat × Ix) : Nat → Nat × Ix := fun n => if n = g then x else C n
theorem NN.put {num : Nat → Nat} {number : Nat → Int32} {p v : Nat} (h : NN num number) (hv : v < 100000) : NN (fun q => if q = p then v else num q) (upd number p (I v)) := fun q hq => by
  show upd number p (I v) q = I (if q = p then v else num q) ∧ (if q = p then v else num q) < 100000
  unfold upd
  by_cases e : q = p
  · rw [if_pos e, if_pos e]
    exact ⟨rfl, hv⟩
  · rw [if_neg e, if_neg e]; exact h q hq
theorem GX.pub {m lat p s c b N : Nat} {TG : List (Nat × List Sg)} {num : Nat → Nat} {kp kp1 : Nat → Bool} {gn : Nat → Nat} {hl : Nat → Option Nat} {C : Nat → Nat × Ix} {lat1 lat2 : Int32} {number held bits codec size words letter impact generation kept2 holds bits' codec' size' words' letter' impact' kept' generation' : Nat → Int32} (h : GX m lat num kp gn hl C lat1 number held lat2 bits codec size words letter impact generation kept2 holds)
    (hm : m < 99998) (hp : p < 3) (hc : (Rel lat hl ∧ num p = lat) ∨ (¬ Rel lat hl ∧ num p = 0)) (k4 : Rel lat hl → ∀ t, t < 4 → (kp1 t = true ↔ kp t = true ∧ gn t ≠ lat)) (k5 : ¬ Rel lat hl → kp1 = kp) (hs : s < 4) (hz : kp1 s = false) (hVX : VX (b, N, TG))
    (hKK : KK (fun t => if t = s then true else kp1 t) (fun t => if t = s then lat + 1 else gn t) kept' generation') (hRX : RX s b c N TG bits' codec' size' words' letter' impact') (hSF : ∀ t, t < 4 → t ≠ s → SF t bits codec size words letter impact bits' codec' size' words' letter' impact') :
    GX (m + 1) (lat + 1) (fun q => if q = p then lat + 1 else num q) (fun t => if t = s then true else kp1 t) (fun t => if t = s then lat + 1 else gn t) hl (newC C (lat + 1) (c, (b, N, TG))) (I (lat + 1)) (upd number p (I (lat + 1))) held (I (lat + 1)) bits' codec' size' words' letter' impact' generation' kept' holds := by
  obtain ⟨a1, a2, a3, a4, a5, a6, a7, a8, a9⟩ := h
  refine ⟨by omega, rfl, rfl, a4.pub hp hc k4 k5 hs hz, a5.put (by omega), hKK, a7, a8, fun t ht hk => ?_⟩
  obtain ⟨g1, g2, g3, g4, g5, g6, g7, g8, g9⟩ := a4
  by_cases e : t = s
  · subst e
    simp only [if_pos]
    have e2 : newC C (lat + 1) (c, (b, N, TG)) (lat + 1) = (c, (b, N, TG)) := by unfold newC; rw [if_pos rfl]
    rw [e2]
    exact ⟨hRX, hVX⟩
  · simp only [if_neg e] at hk ⊢
    have hkt : kp t = true := by
      by_cases r : Rel lat hl
      · exact ((k4 r t ht).mp hk).1
      · rw [← k5 r]; exact hk
    obtain ⟨p', p1, p2⟩ := (g3 t ht hkt).2
    have hle := g8 p' p1
    have e2 : newC C (lat + 1) (c, (b, N, TG)) (gn t) = C (gn t) := by unfold newC; rw [if_neg (by omega)]
    rw [e2]
    obtain ⟨b1, b2⟩ := a9 t ht hkt
    exact ⟨b1.frame b2.1.2.2.2.2.1 (hSF t ht e), b2⟩
theorem KP.new {C : Nat → Nat × Ix} {lat c b N : Nat} {TG : List (Nat × List Sg)} {tm : Nat → Int64} {fs im fp doc : Nat → Int32} (h : CA TG tm fs im fp doc) : KP (newC C (lat + 1) (c, (b, N, TG))) (lat + 1) (I N) (I TG.length) (I (SLt TG).length) (I (PL (SLt TG)).length) tm fs im fp doc := by
  refine ⟨⟨h.2.1 0 (Nat.zero_le _), h.2.2.2.1 0 (Nat.zero_le _)⟩, fun _ => ?_⟩
  have e2 : newC C (lat + 1) (c, (b, N, TG)) (lat + 1) = (c, (b, N, TG)) := by unfold newC; rw [if_pos rfl]
  rw [e2]
  exact ⟨rfl, rfl, rfl, rfl, h⟩
theorem GX.le {m lat : Nat} {num : Nat → Nat} {kp : Nat → Bool} {gn : Nat → Nat} {hl : Nat → Option Nat} {C : Nat → Nat × Ix} {lat1 lat2 : Int32} {number held bits codec size words letter impact generation kept2 holds : Nat → Int32} (h : GX m lat num kp gn hl C lat1 number held lat2 bits codec size words letter impact generation kept2 holds) (x : Nat × Ix) {p : Nat} (hp : p < 3) : num p ≠ 0 → newC C (lat + 1) x (num p) = C (num p) := fun _ => by
  obtain ⟨a1, a2, a3, a4, -⟩ := h
  have := a4.2.2.2.2.2.2.2.1 p hp
  unfold newC; rw [if_neg (by omega)]
