/-! ===== the model: clashes, round ===== -/
/-- s is sung at t0, in a round of n ticks -/
def grownR (h h1 : AH) (s t0 n : Int) (G : Int → Int) : Prop := (∀ c, c ≠ 115 → h1 c = h c) ∧ ∀ t s', 0 ≤ t → t < n → 0 ≤ s' → s' < 8 → h1 115 (8 * t + s') = h 115 (8 * t + s') + if s' = s then sg (fun d : Nat => if (t0 + d) % n = t then G d else 0) 121 else 0
theorem grownR_0 (h : AH) (s t0 n : Int) : grownR h h s t0 n (fun _ => 0) := ⟨fun _ _ => rfl, fun t s' _ _ _ _ => by
  rw [sg_zero (fun d _ => by split <;> rfl)]
  split <;> omega⟩
theorem grownR_s {h h1 : AH} {s t0 n δ x : Int} {G : Int → Int} (hs : 0 ≤ s ∧ s < 8) (n0 : 0 < n) (d0 : 0 ≤ δ ∧ δ ≤ 120) (hg : grownR h h1 s t0 n G) : grownR h (up h1 115 (8 * ((t0 + δ) % n) + s) (h1 115 (8 * ((t0 + δ) % n) + s) + x)) s t0 n (fun d => G d + if d = δ then x else 0) := by
  have a0 : 0 ≤ (t0 + δ) % n := Int.emod_nonneg _ (by omega)
  have a1 : (t0 + δ) % n < n := Int.emod_lt_of_pos _ n0
  refine ⟨fun c hc => by rw [up_n hc, hg.1 c hc], fun t s' t0' t1 s0 s1 => ?_⟩
  have hsum : sg (fun d : Nat => if (t0 + d) % n = t then G d + (if (d : Int) = δ then x else 0) else 0) 121 = sg (fun d : Nat => if (t0 + d) % n = t then G d else 0) 121 + if (t0 + δ) % n = t then x else 0 := by
    rw [sg_cong (g := fun d : Nat => (if (t0 + d) % n = t then G d else 0) + (if d = δ.toNat then (if (t0 + δ) % n = t then x else 0) else 0)) (fun d _ => ?_), sg_add, sg_one, if_pos (by omega)]
    by_cases e : (d : Int) = δ
    · rw [if_pos (c := (d : Int) = δ) e, if_pos (c := d = δ.toNat) (by omega), e]
      split <;> omega
    · rw [if_neg (c := (d : Int) = δ) e, if_neg (c := d = δ.toNat) (by omega)]
      split <;> omega
  by_cases e : s' = s
  · rw [if_pos e, hsum]
    have := hg.2 t s' t0' t1 s0 s1
    rw [if_pos e] at this
    by_cases e2 : (t0 + δ) % n = t
    · rw [if_pos e2, e2, e, up_ci, ← e, this]
      omega
    · rw [if_neg e2, up_cn (by omega), this]
      omega
  · rw [if_neg e, up_cn (by omega)]
    have := hg.2 t s' t0' t1 s0 s1
    rw [if_neg e] at this
    exact this
theorem grownR_eq {h h1 : AH} {s t0 n : Int} {G F : Int → Int} (hg : grownR h h1 s t0 n G) (e : ∀ d, G d = F d) : grownR h h1 s t0 n F := by
  have : G = F := funext e
  rw [← this]; exact hg
theorem foggy0 (D : DT) (w : Int) : foggy D 0 w = D 5 w := by unfold foggy; omega
/-- the row so far -/
def rowN (A : Int → Int → Int) (row : Int → Int) (n t s : Int) : Nat → Int := fun u => if row u = s then sg (fun d : Nat => if ((u : Int) + d) % n = t then A s d else 0) 121 else 0
theorem rowN_lam {A : Int → Int → Int} {row : Int → Int} {R n t s : Int} (R0 : 0 ≤ R) (R1 : R ≤ n) (t0 : 0 ≤ t) (t1 : t < n) : sg (rowN A row n t s) R.toNat = lamR A row R n t s := by
  have key : ∀ (u d : Int), 0 ≤ u → u < n → ((u + d) % n = t ↔ u = (t - d) % n) := fun u d u0 u1 => by
    constructor
    · intro e
      rw [← e, Int.sub_eq_add_neg, Int.emod_add_emod, Int.add_neg_cancel_right, Int.emod_eq_of_lt u0 u1]
    · intro e
      rw [e, Int.emod_add_emod, Int.sub_add_cancel, Int.emod_eq_of_lt t0 t1]
  rw [sg_cong (g := fun u : Nat => sg (fun d : Nat => if decide (row u = s) = true ∧ (u : Int) = (t - d) % n then A s d else 0) 121) (fun u hu => ?_), sg_swap]
  · unfold lamR
    refine sg_cong (fun d _ => ?_)
    rw [sg_pick (p := fun u : Nat => decide (row u = s))]
    have a0 : 0 ≤ (t - (d : Int)) % n := Int.emod_nonneg _ (by omega)
    rw [show ((((t - (d : Int)) % n).toNat : Nat) : Int) = (t - d) % n by omega]
    by_cases c : (t - (d : Int)) % n < R ∧ row ((t - d) % n) = s
    · rw [if_pos (decide_eq_true c), if_pos ⟨by omega, decide_eq_true c.2⟩]
    · rw [if_neg (fun z => c (of_decide_eq_true z)), if_neg (fun z => c ⟨by omega, of_decide_eq_true z.2⟩)]
  · unfold rowN
    by_cases c : row u = s
    · rw [if_pos c]
      refine sg_cong (fun d _ => ?_)
      by_cases e : ((u : Int) + d) % n = t
      · rw [if_pos e, if_pos ⟨decide_eq_true c, (key u d (by omega) (by omega)).mp e⟩]
      · rw [if_neg e, if_neg (fun z => e ((key u d (by omega) (by omega)).mpr z.2))]
    · rw [if_neg c]
      refine (sg_zero (fun d _ => ?_)).symm
      rw [if_neg (fun z => c (of_decide_eq_true z.1))]
abbrev ampR (h : AH) : Int → Int → Int := fun s d => amp (dM h) 0 (h 104 12) 0 (-1) s d
theorem rowN_rng {h : AH} {n t s : Int} {k : Nat} (hd : okD (dM h)) (hk : k ≤ 16) (hr : ∀ i, 0 ≤ i → i < 16 → -1 ≤ h 123 i ∧ h 123 i < h 98 1) (s0 : 0 ≤ s) : 0 ≤ sg (rowN (ampR h) (fun i => h 123 i) n t s) k ∧ sg (rowN (ampR h) (fun i => h 123 i) n t s) k < 10000000 := by
  have hai : 0 ≤ h 104 12 ∧ h 104 12 ≤ 100 := hd.2.2.2.2.2.2.2.2.2.2.2.2.1 12 (by decide) (by decide)
  have := sg_rng (f := rowN (ampR h) (fun i => h 123 i) n t s) (B := 227601) (n := k) (fun u hu => by
    unfold rowN
    by_cases c : h 123 u = s
    · rw [if_pos c]
      have := hr u (by omega) (by omega)
      have := sg_rng (f := fun d : Nat => if ((u : Int) + d) % n = t then ampR h s d else 0) (B := 1881) (n := 121) (fun d _ => by
        split
        · exact amp_rng hd s0 (show s < h 98 1 by omega) (by decide) (by decide) hai.1 hai.2
        · decide)
      omega
    · rw [if_neg c]; decide)
  omega
