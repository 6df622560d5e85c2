/-! ===== the class: measureForm, adopt ===== -/
theorem linesD_rng {D : DT} (hd : okD D) {f : Nat} (hf : (f : Int) < D 0 3) : ∀ {k : Nat}, k ≤ 3 → 0 ≤ pr (fun i => kindsD D (D 14 ((f : Int) * 3 + i))) k ∧ pr (fun i => kindsD D (D 14 ((f : Int) * 3 + i))) k ≤ 8 ^ k
  | 0, _ => by show (0 : Int) ≤ 1 ∧ (1 : Int) ≤ 8 ^ 0; decide
  | k + 1, h => by
    have a := linesD_rng hd hf (k := k) (by omega)
    have b := kindsD_rng hd (D 14 ((f : Int) * 3 + k))
    rw [pr]
    have m := mul_rng a.1 a.2 b.1 b.2
    rw [Int.pow_succ]
    exact m
theorem linesD_512 {D : DT} (hd : okD D) {f : Nat} (hf : (f : Int) < D 0 3) : 0 ≤ linesD D f ∧ linesD D f ≤ 512 := by
  have L := (hd.2.2.2.2.2.2.2.2.2.2.2.2.2.2 f (by omega) hf).1
  rcases (show D 13 f = 1 ∨ D 13 f = 2 ∨ D 13 f = 3 by omega) with e | e | e
  · have := linesD_rng hd hf (k := 1) (by decide)
    unfold linesD; rw [e]
    exact ⟨this.1, Int.le_trans this.2 (by decide)⟩
  · have := linesD_rng hd hf (k := 2) (by decide)
    unfold linesD; rw [e]
    exact ⟨this.1, Int.le_trans this.2 (by decide)⟩
  · have := linesD_rng hd hf (k := 3) (by decide)
    unfold linesD; rw [e]
    exact ⟨this.1, Int.le_trans this.2 (by decide)⟩
def begF (D : DT) (f : Nat) : Int := if 0 < linesD D f then kindsD D (D 14 ((f : Int) * 3)) else 0
def begD (D : DT) : Int := sg (begF D) (D 0 3).toNat
theorem begF_rng {D : DT} (hd : okD D) (f : Nat) : 0 ≤ begF D f ∧ begF D f ≤ 8 := by
  have := kindsD_rng hd (D 14 ((f : Int) * 3))
  unfold begF
  split <;> omega
theorem c_measureForm {fr : Nat} {f : Nat} {h : AH} (hg : isG (h 55 0)) (hd : okD (dV h)) (hv : vtab h (dV h)) (f1 : (f : Int) < h (h 55 0) 3) (r1 : 0 ≤ h 55 1 ∧ h 55 1 ≤ 100000) (r2 : 0 ≤ h 55 2 ∧ h 55 2 ≤ 100000) (m3 : m16 (h 55 3)) :
    Sp mX10_measureForm true fr 0 0 [zR 55, zI f] 137 h (rV (fun h' => ((∀ c, c ≠ 55 → c ≠ 73 → h' c = h c) ∧ (∀ j, j ≠ 1 → j ≠ 2 → j ≠ 3 → h' 55 j = h 55 j) ∧ ∀ i, i ≠ (f : Int) → h' 73 i = h 73 i) ∧ h' 73 f = linesD (dV h) f ∧ h' 55 1 = h 55 1 + linesD (dV h) f ∧ h' 55 2 = h 55 2 + begF (dV h) f ∧ m16 (h' 55 3) ∧ ∀ j : Nat, bt (h' 55 3) j = true ↔ (bt (h 55 3) j = true ∨ reachL (dV h) f (dV h 13 f).toNat j))) := by
  refine Sp.mk yX10_measureForm_ok rfl rfl ?_
  have cg := hg.cel
  obtain ⟨⟨f6, L1⟩, fk⟩ := formD hd (show (0 : Int) ≤ f by omega) f1
  have gs : h 55 0 ≠ 55 ∧ h 55 0 ≠ 73 ∧ h 55 0 + 14 ≠ 55 ∧ h 55 0 + 14 ≠ 73 := by unfold isG at hg; omega
  generalize hD : dV h = D at *
  have eD : ∀ k x, D k x = h (h 55 0 + k) x := fun k x => by rw [← hD]
  have e02 : D 0 2 = h (h 55 0) 2 := by rw [← hD]; exact dV0 h 2
  have e03 : D 0 3 = h (h 55 0) 3 := by rw [← hD]; exact dV0 h 3
  have fD : (f : Int) < D 0 3 := by rw [e03]; exact f1
  generalize hQ : (rV (fun h' : AH => ((∀ c, c ≠ 55 → c ≠ 73 → h' c = h c) ∧ (∀ j, j ≠ 1 → j ≠ 2 → j ≠ 3 → h' 55 j = h 55 j) ∧ ∀ i, i ≠ (f : Int) → h' 73 i = h 73 i) ∧ h' 73 f = linesD D f ∧ h' 55 1 = h 55 1 + linesD D f ∧ h' 55 2 = h 55 2 + begF D f ∧ m16 (h' 55 3) ∧ ∀ j : Nat, bt (h' 55 3) j = true ↔ (bt (h 55 3) j = true ∨ reachL D f (D 13 f).toNat j))) = Q
  refine bX10_measureForm_0 (kk := ?_)
  suffices O : ∀ (d k : Nat) (r : Int) (x5 x6 x7 : AV), (k : Int) + d = h (h 55 0 + 13) f → m16 r → (∀ p : Nat, bt r p = true ↔ reachL D f k p) → Wp mX10_measureForm (kR fr 0 0) Q (0, 0) 7 [zR 55, zI f, zI (pr (fun i => kindsD D (D 14 ((f : Int) * 3 + i))) k), zI r, zI k, x5, x6, x7] [] 137 h by
    refine O (h (h 55 0 + 13) f).toNat 0 1 _ _ _ (by omega) (by constructor <;> decide) (fun p => ?_)
    have o := (one16 (s := 0) (by decide) (by decide)).2 p
    have e1 : (1 : Int) * 2 ^ (0 : Int).toNat = 1 := by decide
    rw [e1] at o
    rw [o]
    show decide (p = (0 : Int).toNat) = true ↔ (p : Int) = 0
    rw [decide_eq_true_eq]
    show p = 0 ↔ (p : Int) = 0
    omega
  intro d
  induction d with
  | zero =>
    intro k r x5 x6 x7 hk mr hr
    have ek : (D 13 f).toNat = k := by rw [eD 13]; omega
    have eL : pr (fun i => kindsD D (D 14 ((f : Int) * 3 + i))) k = linesD D f := by unfold linesD; rw [ek]
    rw [eL]
    have l512 := linesD_512 hd fD
    obtain ⟨o1, o2⟩ := or16 m3 mr
    refine bX10_measureForm_7 (kt := fun _ => ?_) (kf := fun q => by omega)
    have kk := fk 0 (by decide) (by omega)
    rw [Int.add_zero] at kk
    have fin : ∀ v : Int, v = begF D f → Q (.inl none) 137 (up (up (up (up h 73 f (linesD D f)) 55 1 (h 55 1 + linesD D f)) 55 3 (bOr (h 55 3) r)) 55 2 (h 55 2 + v)) := fun v hv2 => by
      rw [← hQ]
      refine ⟨rfl, rfl, ⟨fun c a b => by rw [up_n a, up_n a, up_n a, up_n b], fun j a b c => by rw [up_cn b, up_cn c, up_cn a, up_n (by decide)], fun i hi => by rw [up_n (by decide), up_n (by decide), up_n (by decide), up_cn hi]⟩, ?_, ?_, ?_, ?_, fun j => ?_⟩
      · rw [up_n (by decide), up_n (by decide), up_n (by decide), up_ci]
      · rw [up_cn (by decide), up_cn (by decide), up_ci]
      · rw [up_ci, hv2]
      · rw [up_cn (by decide), up_ci]; exact o1
      · rw [up_cn (by decide), up_ci, o2, Bool.or_eq_true, hr, ek]
    have same : ∀ hh : AH, up hh 55 2 (hh 55 2) = hh := fun hh => by
      funext c i
      by_cases e : c = 55
      · rw [e]
        by_cases e2 : i = 2
        · rw [e2, up_ci]
        · rw [up_cn e2]
      · rw [up_n e]
    refine bX10_measureForm_108 (kt := fun q => ?_) (kf := fun q => ?_)
    · refine bX10_measureForm_164 (hq := ?_)
      have := fin 0 (by unfold begF; rw [if_neg (by omega)])
      rw [Int.add_zero] at this
      have e2 : up (up (up h 73 f (linesD D f)) 55 1 (h 55 1 + linesD D f)) 55 3 (bOr (h 55 3) r) 55 2 = h 55 2 := by rw [up_cn (by decide), up_cn (by decide), up_n (by decide)]
      rw [← e2, same] at this
      exact this
    · generalize hh1 : up (up (up h 73 f (linesD D f)) 55 1 (h 55 1 + linesD D f)) 55 3 (bOr (h 55 3) r) = h1 at fin
      have g0 : h1 55 0 = h 55 0 := by rw [← hh1, up_cn (by decide), up_cn (by decide), up_n (by decide)]
      have e2 : h1 55 2 = h 55 2 := by rw [← hh1, up_cn (by decide), up_cn (by decide), up_n (by decide)]
      have e14 : h1 (h 55 0 + 14) = h (h 55 0 + 14) := by rw [← hh1, up_n gs.2.2.1, up_n gs.2.2.1, up_n gs.2.2.2]
      have e71 : h1 71 = h 71 := by rw [← hh1, up_n (by decide), up_n (by decide), up_n (by decide)]
      refine bX10_measureForm_139 (c1 := by rw [g0]; exact cg) (r2 := by rw [g0, e14]; exact kk) (kk := bX10_measureForm_164 (hq := ?_))
      rw [g0, e14, e71, e2]
      refine fin _ ?_
      have := (hv (h (h 55 0 + 14) ((f : Int) * 3)) kk.1 kk.2).1
      unfold begF
      rw [if_pos q, this, eD 14]
  | succ d ih =>
    intro k r x5 x6 x7 hk mr hr
    have kr := fk k (by omega) (by omega)
    have k14 : D 14 ((f : Int) * 3 + k) = h (h 55 0 + 14) ((f : Int) * 3 + k) := eD 14 _
    obtain ⟨q71, q72⟩ := hv (D 14 ((f : Int) * 3 + k)) (by rw [k14]; exact kr.1) (by rw [k14]; exact kr.2)
    have q8 := kindsD_rng hd (D 14 ((f : Int) * 3 + k))
    refine bX10_measureForm_7 (kt := fun q => by omega) (kf := fun _ => ?_)
    refine bX10_measureForm_21 (kk := ?_)
    rw [← k14, q71]
    have eP : pr (fun i => kindsD D (D 14 ((f : Int) * 3 + i))) k * kindsD D (D 14 ((f : Int) * 3 + k)) = pr (fun i => kindsD D (D 14 ((f : Int) * 3 + i))) (k + 1) := rfl
    rw [eP]
    suffices I : ∀ (dj : Nat) (j x : Int), 0 ≤ j → j + dj = kindsD D (D 14 ((f : Int) * 3 + k)) → m16 x → (∀ p : Nat, bt x p = true ↔ ∃ i, (0 ≤ i ∧ i < j) ∧ ∃ q : Nat, bt r q = true ∧ (p : Int) = q + D 11 (h 72 (D 14 ((f : Int) * 3 + k) * 8 + i))) → Wp mX10_measureForm (kR fr 0 0) Q (0, 0) 53 [zR 55, zI f, zI (pr (fun i => kindsD D (D 14 ((f : Int) * 3 + i))) (k + 1)), zI r, zI k, zI (D 14 ((f : Int) * 3 + k)), zI x, zI j] [] 137 h by
      refine I (kindsD D (D 14 ((f : Int) * 3 + k))).toNat 0 0 (by decide) (by omega) (by constructor <;> decide) (fun p => ?_)
      rw [bt_zero]
      refine ⟨fun z => absurd z (by decide), fun z => ?_⟩
      obtain ⟨i, a, -⟩ := z
      omega
    intro dj
    induction dj with
    | zero =>
      intro j x j0 hj mx hx
      refine bX10_measureForm_53 (r1 := by rw [k14]; exact kr) (r3 := by rw [q71]; omega) (kt := fun _ => ?_) (kf := fun q => by rw [q71] at q; omega)
      refine bX10_measureForm_99 (kk := ?_)
      rw [show (k : Int) + 1 = ((k + 1 : Nat) : Int) by omega]
      refine ih (k + 1) x _ _ _ (by omega) mx (fun p => ?_)
      rw [hx]
      constructor
      · rintro ⟨i, a, q, b, e⟩
        obtain ⟨c1, c2, -⟩ := q72 i a.1 (by omega)
        exact ⟨_, q, c1, c2, (hr q).mp b, e⟩
      · rintro ⟨w, q, a1, a2, b, e⟩
        obtain ⟨i, c, e2⟩ := hv.all (by rw [k14]; exact kr.1) (by rw [k14]; exact kr.2) a1.1 a1.2 a2
        have qr := reachL.rng hd b
        exact ⟨i, by omega, q.toNat, (hr _).mpr (by rw [show ((q.toNat : Nat) : Int) = q by omega]; exact b), by rw [e2]; omega⟩
    | succ dj ihj =>
      intro j x j0 hj mx hx
      obtain ⟨c1, c2, -⟩ := q72 j j0 (by omega)
      obtain ⟨⟨w8, -⟩, wl, -⟩ := wordD (h := h) (by rw [hD]; exact hd) c1.1 (by rw [← e02]; exact c1.2)
      obtain ⟨s1, s2⟩ := shl16 mr (l := h (h 55 0 + 11) (h 72 (D 14 ((f : Int) * 3 + k) * 8 + j))) (by omega) (fun i hi => by
        have := reachL.rng hd ((hr i).mp hi)
        omega)
      obtain ⟨o1, o2⟩ := or16 mx s1
      refine bX10_measureForm_53 (r1 := by rw [k14]; exact kr) (r3 := by rw [q71]; omega) (kt := fun q => by rw [q71] at q; omega) (kf := fun _ => ?_)
      refine bX10_measureForm_65 (r1 := by omega) (r2 := by omega) (r3 := by omega) (kk := ihj (j + 1) _ (by omega) (by omega) o1 (fun p => ?_))
      rw [o2, Bool.or_eq_true, hx, s2]
      constructor
      · rintro (⟨i, a, b⟩ | ⟨q, b, e⟩)
        · exact ⟨i, by omega, b⟩
        · exact ⟨j, by omega, q, b, by rw [eD 11]; exact e⟩
      · rintro ⟨i, a, q, b, e⟩
        by_cases c : i = j
        · rw [c, eD 11] at e
          exact Or.inr ⟨q, b, e⟩
        · exact Or.inl ⟨i, by omega, q, b, e⟩
/-- all that stands of the lines -/
def vts (h : AH) (D : DT) : Prop := vtab h D ∧ (∀ f : Nat, (f : Int) < D 0 3 → h 73 f = linesD D f) ∧ h 55 1 = allD D ∧ h 55 2 = begD D ∧ lensM D (h 55 3) ∧ (0 ≤ h 55 4 ∧ h 55 4 ≤ 12) ∧ ∀ j : Nat, bt (h 55 3) j = true → (j : Int) ≤ h 55 4
theorem c_adopt {fr : Nat} {g : Int} {h : AH} (hf : 1 ≤ fr) (hg : isG g) (hd : okD (dC h g)) :
    Sp mX10_adopt true fr 0 0 [zR 55, zR g] 137 h (rV (fun h' => ((∀ c, (c < 71 ∨ 74 < c) → c ≠ 55 → h' c = h c) ∧ (∀ j, 5 ≤ j → h' 55 j = h 55 j)) ∧ h' 55 0 = g ∧ vts h' (dC h g) ∧ ∀ i, 0 ≤ i → i < 144 → h' 74 i = -2)) := by
  refine Sp.mk yX10_adopt_ok rfl rfl ?_
  have cg := hg.cel
  have gs : ∀ k, 0 ≤ k → k ≤ 14 → (g + k < 47 ∨ (55 < g + k ∧ g + k < 71)) := by unfold isG at hg; exact fun k a b => by omega
  have gs0 := gs 0 (by decide) (by decide)
  rw [Int.add_zero] at gs0
  have nW := hd.2.2.1
  have nF := hd.2.2.2.1
  generalize hD : dC h g = D at *
  have e02 : D 0 2 = h g 2 := by rw [← hD]; exact dC0 h g 2
  have e03 : D 0 3 = h g 3 := by rw [← hD]; exact dC0 h g 3
  rw [e02] at nW
  rw [e03] at nF
  generalize hQ : (rV (fun h' : AH => ((∀ c, (c < 71 ∨ 74 < c) → c ≠ 55 → h' c = h c) ∧ (∀ j, 5 ≤ j → h' 55 j = h 55 j)) ∧ h' 55 0 = g ∧ vts h' D ∧ ∀ i, 0 ≤ i → i < 144 → h' 74 i = -2)) = Q
  refine bX10_adopt_0 (hS := c_fill e74) (kk := ?_)
  rintro h0 rfl
  refine bX10_adopt_14 (hS := c_fill e71) (kk := ?_)
  rintro h0 rfl
  refine bX10_adopt_22 (kk := ?_)
  generalize hh0 : fil (fil (up h 55 0 g) 74 (-2) 144) 71 0 4 = h0
  have k0 : ∀ c, (c < 71 ∨ 74 < c) → c ≠ 55 → h0 c = h c := fun c a b => by rw [← hh0]; unfold fil; rw [if_neg (by omega), if_neg (by omega), up_n b]
  have j0 : ∀ j, j ≠ 0 → h0 55 j = h 55 j := fun j hj => by rw [← hh0]; unfold fil; rw [if_neg (by decide), if_neg (by decide), up_cn hj]
  have g0 : h0 55 0 = g := by rw [← hh0]; unfold fil; rw [if_neg (by decide), if_neg (by decide), up_ci]
  have z71 : ∀ k, 0 ≤ k → k < 4 → h0 71 k = 0 := fun k a b => by rw [← hh0]; unfold fil; rw [if_pos rfl, if_pos (by omega)]
  have z74 : ∀ i, 0 ≤ i → i < 144 → h0 74 i = -2 := fun i a b => by rw [← hh0]; unfold fil; rw [if_neg (by decide), if_pos rfl, if_pos (by omega)]
  clear hh0
  -- the words
  suffices W : ∀ (d w : Nat) (h1 : AH) (x1 x3 : AV), (w : Int) + d = h g 2 → (∀ c, c ≠ 71 → c ≠ 72 → h1 c = h0 c) → (∀ k, 0 ≤ k → k < 4 → h1 71 k = cnt (kp_ D k) w ∧ ∀ j, 0 ≤ j → j < cnt (kp_ D k) w → (0 ≤ h1 72 (k * 8 + j) ∧ h1 72 (k * 8 + j) < w) ∧ D 10 (h1 72 (k * 8 + j)) = k ∧ cnt (kp_ D k) (h1 72 (k * 8 + j)).toNat = j) → Wp mX10_adopt (kR fr 0 0) Q (0, 0) 24 [zR 55, x1, zI w, x3] [] 137 h1 by
    exact W (h g 2).toNat 0 h0 _ _ (by omega) (fun _ _ _ => rfl) (fun k a b => ⟨by rw [z71 k a b]; rfl, fun j p q => by have : cnt (kp_ D k) 0 = 0 := rfl; omega⟩)
  intro d
  induction d with
  | succ d ih =>
    intro w h1 x1 x3 hw k1 tb1
    have e55 : h1 55 = h0 55 := k1 55 (by decide) (by decide)
    have eg : h1 g = h g := by rw [k1 g (by omega) (by omega), k0 g (by omega) (by omega)]
    have e10 : h1 (g + 10) = D 10 := by have := gs 10 (by decide) (by decide); rw [k1 _ (by omega) (by omega), k0 _ (by omega) (by omega), ← hD]
    have kr := (hd.2.2.2.2.2.2.2.2.2.2.2.2.2.1 w (by omega) (by rw [e02]; omega)).1
    obtain ⟨t1, t2⟩ := tb1 (D 10 w) kr.1 (by omega)
    have cw := cnt_rng (kp_ D (D 10 w)) w
    refine bX10_adopt_24 (c1 := by rw [e55, g0]; exact cg) (r2 := by rw [e55, g0, eg]; omega) (kt := fun q => by rw [e55, g0, eg] at q; omega) (kf := fun _ => ?_)
    refine bX10_adopt_35 (c1 := by rw [e55, g0]; exact cg) (r2 := by rw [e55, g0, e10]; omega) (r3 := by rw [e55, g0, e10, t1]; omega) (kk := ?_)
    rw [e55, g0, e10, t1]
    rw [show (w : Int) + 1 = ((w + 1 : Nat) : Int) by omega]
    refine ih (w + 1) _ _ _ (by omega) (fun c a b => by rw [up_n a, up_n b, k1 c a b]) (fun k a b => ?_)
    have cs := cnt_s (kp_ D k) w
    by_cases e : k = D 10 w
    · have pt : kp_ D k w = true := decide_eq_true e.symm
      rw [pt, if_pos rfl] at cs
      rw [e] at cs ⊢
      refine ⟨by rw [up_ci, cs], fun j p q => ?_⟩
      rw [up_n (by decide)]
      by_cases e2 : j = cnt (kp_ D (D 10 w)) w
      · rw [e2, up_ci]
        exact ⟨by omega, rfl, by rw [Int.toNat_natCast]⟩
      · rw [up_cn (by omega)]
        have := t2 j p (by omega)
        exact ⟨by omega, this.2⟩
    · have pf : kp_ D k w = false := decide_eq_false (fun z => e z.symm)
      rw [pf, if_neg (by decide), Int.add_zero] at cs
      have tk := tb1 k a b
      have ck := cnt_rng (kp_ D k) w
      rw [cs]
      refine ⟨by rw [up_cn e]; exact tk.1, fun j p q => ?_⟩
      rw [up_n (by decide), up_cn (by omega)]
      have := tk.2 j p q
      exact ⟨by omega, this.2⟩
  | zero =>
    intro w h1 x1 x3 hw k1 tb1
    have e55 : h1 55 = h0 55 := k1 55 (by decide) (by decide)
    have eg : h1 g = h g := by rw [k1 g (by omega) (by omega), k0 g (by omega) (by omega)]
    have ew : w = (D 0 2).toNat := by rw [e02]; omega
    have vt1 : vtab h1 D := fun k a b => by
      have := tb1 k a b
      have ek : cnt (kp_ D k) w = kindsD D k := by rw [ew]; rfl
      rw [ek] at this
      exact ⟨this.1, fun j p q => by have z := this.2 j p q; exact ⟨by omega, z.2⟩⟩
    refine bX10_adopt_24 (c1 := by rw [e55, g0]; exact cg) (r2 := by rw [e55, g0, eg]; omega) (kt := fun _ => ?_) (kf := fun q => by rw [e55, g0, eg] at q; omega)
    refine bX10_adopt_78 (kk := ?_)
    -- the forms
    suffices F : ∀ (d f : Nat) (h2 : AH) (x1 x3 : AV), (f : Int) + d = h g 3 → (∀ c, c ≠ 55 → c ≠ 73 → h2 c = h1 c) → (∀ j, j ≠ 1 → j ≠ 2 → j ≠ 3 → h2 55 j = h1 55 j) → (∀ i : Nat, i < f → h2 73 i = linesD D i) → h2 55 1 = sg (linesD D) f → h2 55 2 = sg (begF D) f → m16 (h2 55 3) → (∀ j : Nat, bt (h2 55 3) j = true ↔ ∃ v, (0 ≤ v ∧ v < (f : Int)) ∧ reachL D v (D 13 v).toNat j) → Wp mX10_adopt (kR fr 0 0) Q (0, 0) 95 [zR 55, x1, zI f, x3] [] 137 h2 by
      refine F (h g 3).toNat 0 _ _ _ (by omega) (fun c a _ => by rw [up_n a, up_n a, up_n a]) (fun j a b c => by rw [up_cn c, up_cn b, up_cn a]) (fun i hi => by omega) (by rw [up_cn (by decide), up_cn (by decide), up_ci]; rfl) (by rw [up_cn (by decide), up_ci]; rfl) (by rw [up_ci]; constructor <;> decide) (fun j => ?_)
      rw [up_ci, bt_zero]
      refine ⟨fun z => absurd z (by decide), fun z => ?_⟩
      obtain ⟨v, a, -⟩ := z
      omega
    intro d2
    induction d2 with
    | succ d2 ih2 =>
      intro f h2 x1 x3 hff k2 f2 r73 s1 s2 m3 b3
      have g2 : h2 55 0 = g := by rw [f2 0 (by decide) (by decide) (by decide), e55, g0]
      have eg2 : h2 g = h g := by rw [k2 g (by omega) (by omega), eg]
      have eDk : ∀ k, 0 ≤ k → k ≤ 14 → dC h2 g k = D k := fun k a b => by
        have := gs k a b
        rw [← hD]
        show h2 (g + k) = h (g + k)
        rw [k2 _ (by omega) (by omega), k1 _ (by omega) (by omega), k0 _ (by omega) (by omega)]
      have hd2 : okD (dV h2) := by show okD (dC h2 (h2 55 0)); rw [g2]; exact okD_cong eDk hd
      have eV : ∀ k, 0 ≤ k → k ≤ 14 → dV h2 k = D k := fun k a b => by show dC h2 (h2 55 0) k = _; rw [g2]; exact eDk k a b
      have kD : ∀ κ, kindsD (dV h2) κ = kindsD D κ := fun κ => by unfold kindsD; rw [eV 10 (by decide) (by decide), eV 0 (by decide) (by decide)]
      have lD : linesD (dV h2) f = linesD D f := by unfold linesD; simp only [kD, eV 14 (by decide) (by decide), eV 13 (by decide) (by decide)]
      have bD : begF (dV h2) f = begF D f := by unfold begF; rw [lD, kD, eV 14 (by decide) (by decide)]
      have rD : ∀ (k : Nat) (p : Int), reachL (dV h2) f k p ↔ reachL D f k p := fun k => by
        induction k with
        | zero => exact fun p => Iff.rfl
        | succ k ihk =>
          intro p
          unfold reachL
          rw [eV 0 (by decide) (by decide), eV 10 (by decide) (by decide), eV 14 (by decide) (by decide), eV 11 (by decide) (by decide)]
          exact ⟨fun ⟨w, q, a, b, c, e⟩ => ⟨w, q, a, b, (ihk q).mp c, e⟩, fun ⟨w, q, a, b, c, e⟩ => ⟨w, q, a, b, (ihk q).mpr c, e⟩⟩
      have vt2 : vtab h2 (dV h2) := fun κ a b => by
        rw [kD, k2 71 (by decide) (by decide), k2 72 (by decide) (by decide), eV 0 (by decide) (by decide), eV 10 (by decide) (by decide)]
        have := vt1 κ a b
        unfold kp_ at this ⊢
        rw [eV 10 (by decide) (by decide)]
        exact this
      have sr1 := sg_rng (f := linesD D) (B := 512) (n := f) (fun i hi => linesD_512 hd (by rw [e03]; omega))
      have sr2 := sg_rng (f := begF D) (B := 8) (n := f) (fun i hi => begF_rng hd i)
      refine bX10_adopt_95 (c1 := by rw [g2]; exact cg) (r2 := by rw [g2, eg2]; omega) (kt := fun q => by rw [g2, eg2] at q; omega) (kf := fun _ => ?_)
      refine bX10_adopt_106 (hS := c_measureForm (by rw [g2]; exact hg) hd2 vt2 (by rw [g2, eg2]; omega) (by rw [s1]; omega) (by rw [s2]; omega) m3) (kk := ?_)
      rintro h3 ⟨⟨k3, f3, r3⟩, q1, q2, q3, q4, q5⟩
      rw [lD] at q1 q2
      rw [bD] at q3
      refine bX10_adopt_111 (kk := ?_)
      rw [show (f : Int) + 1 = ((f + 1 : Nat) : Int) by omega]
      refine ih2 (f + 1) h3 _ _ (by omega) (fun c a b => by rw [k3 c a b, k2 c a b]) (fun j a b c => by rw [f3 j a b c, f2 j a b c]) (fun i hi => ?_) (by rw [q2, s1]; rfl) (by rw [q3, s2]; rfl) q4 (fun j => ?_)
      · by_cases e : i = f
        · rw [e]; exact q1
        · rw [r3 i (by omega)]; exact r73 i (by omega)
      · rw [q5, b3, rD, eV 13 (by decide) (by decide)]
        constructor
        · rintro (⟨v, a, b⟩ | b)
          · exact ⟨v, by omega, b⟩
          · exact ⟨f, by omega, b⟩
        · rintro ⟨v, a, b⟩
          by_cases e : v = f
          · rw [e] at b; exact Or.inr b
          · exact Or.inl ⟨v, by omega, b⟩
    | zero =>
      intro f h2 x1 x3 hff k2 f2 r73 s1 s2 m3 b3
      have g2 : h2 55 0 = g := by rw [f2 0 (by decide) (by decide) (by decide), e55, g0]
      have eg2 : h2 g = h g := by rw [k2 g (by omega) (by omega), eg]
      refine bX10_adopt_95 (c1 := by rw [g2]; exact cg) (r2 := by rw [g2, eg2]; omega) (kt := fun _ => ?_) (kf := fun q => by rw [g2, eg2] at q; omega)
      refine bX10_adopt_117 (kk := ?_)
      have lm : lensM D (h2 55 3) := ⟨m3, fun j => by rw [b3, e03]; constructor <;> (rintro ⟨v, a, b⟩; exact ⟨v, by omega, b⟩)⟩
      have top : ∀ j : Nat, bt (h2 55 3) j = true → 1 ≤ j ∧ j ≤ 12 := fun j hj => by
        obtain ⟨v, a, b⟩ := (lm.2 j).mp hj
        have r := reachL.rng hd b
        have L := (hd.2.2.2.2.2.2.2.2.2.2.2.2.2.2 v a.1 a.2).1
        omega
      have l1 := m3.1
      have l2 := m3.2
      suffices G : ∀ (d : Nat) (s lo : Int) (x1 x3 : AV), 1 ≤ s → s + d = 13 → (0 ≤ lo ∧ lo ≤ 12) → (∀ j : Nat, bt (h2 55 3) j = true → (j : Int) < s → (j : Int) ≤ lo) → Wp mX10_adopt (kR fr 0 0) Q (0, 0) 124 [zR 55, x1, zI s, x3] [] 137 (up h2 55 4 lo) by
        exact G 12 1 0 _ _ (by decide) (by decide) (by decide) (fun j a b => by have := top j a; omega)
      intro d3
      induction d3 with
      | zero =>
        intro s lo x1 x3 s1' hs lr hb
        refine bX10_adopt_124 (kt := fun _ => ?_) (kf := fun q => by omega)
        refine bX10_adopt_152 (hq := ?_)
        rw [← hQ]
        refine ⟨rfl, rfl, ⟨fun c a b => by rw [up_n b, k2 c b (by omega), k1 c (by omega) (by omega), k0 c a b], fun j hj => by rw [up_cn (by omega), f2 j (by omega) (by omega) (by omega), e55, j0 j (by omega)]⟩, by rw [up_cn (by decide)]; exact g2, ⟨?_, ?_, ?_, ?_, ?_, ?_, ?_⟩, fun i a b => by rw [up_n (by decide), k2 74 (by decide) (by decide), k1 74 (by decide) (by decide)]; exact z74 i a b⟩
        · intro k a b
          rw [up_n (by decide), up_n (by decide), k2 71 (by decide) (by decide), k2 72 (by decide) (by decide)]
          exact vt1 k a b
        · intro i hi
          rw [up_n (by decide)]
          rw [e03] at hi
          exact r73 i (by omega)
        · rw [up_cn (by decide), s1]; unfold allD; rw [e03, show (h g 3).toNat = f by omega]
        · rw [up_cn (by decide), s2]; unfold begD; rw [e03, show (h g 3).toNat = f by omega]
        · rw [up_cn (by decide)]; exact lm
        · rw [up_ci]; exact lr
        · intro j hj
          rw [up_cn (by decide)] at hj
          rw [up_ci]
          exact hb j hj (by have := top j hj; omega)
      | succ d3 ih3 =>
        intro s lo x1 x3 s1' hs lr hb
        have e3 : up h2 55 4 lo 55 3 = h2 55 3 := up_cn (by decide)
        have el := bit_look (x := h2 55 3) (s := s) l1 (by omega)
        have er : -2147483648 ≤ bAnd (h2 55 3 / 2 ^ s.toNat) 1 ∧ bAnd (h2 55 3 / 2 ^ s.toNat) 1 < 2147483648 := by rw [el]; split <;> decide
        refine bX10_adopt_124 (kt := fun q => by omega) (kf := fun _ => ?_)
        refine bX10_adopt_130 (r2 := by rw [e3]; omega) (r3 := by rw [e3]; exact er) (kt := fun q => ?_) (kf := fun q => ?_)
        · rw [e3, el] at q
          have nb : ¬ bt (h2 55 3) s.toNat = true := fun z => by rw [if_pos z] at q; omega
          refine bX10_adopt_146 (kk := ih3 (s + 1) lo _ _ (by omega) (by omega) lr (fun j a b => ?_))
          by_cases e : (j : Int) = s
          · rw [show s.toNat = j by omega] at nb; exact absurd a nb
          · exact hb j a (by omega)
        · refine bX10_adopt_141 (kk := bX10_adopt_146 (kk := ?_))
          have eu : up (up h2 55 4 lo) 55 4 s = up h2 55 4 s := by
            funext c i
            by_cases e : c = 55
            · rw [e]
              by_cases e2 : i = 4
              · rw [e2, up_ci, up_ci]
              · rw [up_cn e2, up_cn e2, up_cn e2]
            · rw [up_n e, up_n e, up_n e]
          rw [eu]
          exact ih3 (s + 1) s _ _ (by omega) (by omega) (by omega) (fun j a b => by omega)
