/-! ===== the class: spell ===== -/
def cK (D : DT) (f k : Int) : Int := max 1 (kindsD D (D 14 (f * 3 + k)))
def rsD (D : DT) (f i : Int) : Nat → Int
  | 0 => i
  | m + 1 => rsD D f i m / cK D f (D 13 f - 1 - m)
def digD (D : DT) (f i k : Int) : Int := rsD D f i (D 13 f - 1 - k).toNat % cK D f k
def lineW (D : DT) (f i : Int) (W : Int → Int) : Prop := ∀ k, 0 ≤ k → k < D 13 f → (0 ≤ W k ∧ W k < D 0 2) ∧ D 10 (W k) = D 14 (f * 3 + k) ∧ cnt (kp_ D (D 14 (f * 3 + k))) (W k).toNat = digD D f i k
def preW (D : DT) (W : Int → Int) (k : Nat) : Int := sg (fun i : Nat => D 11 (W i)) k
def isSay (D : DT) (W : Int → Int) (L : Nat) (S : Int → Int) : Prop := ∀ k : Nat, k < L → ∀ j, 0 ≤ j → j < D 11 (W k) → S (preW D W k + j) = D 12 (W k * 4 + j)
theorem cK_pos (D : DT) (f k : Int) : 1 ≤ cK D f k := by unfold cK; omega
theorem rsD_rng {D : DT} {f i : Int} (i0 : 0 ≤ i) : ∀ m, 0 ≤ rsD D f i m ∧ rsD D f i m ≤ i
  | 0 => ⟨i0, Int.le_refl _⟩
  | m + 1 => by
    have a := rsD_rng (D := D) (f := f) i0 m
    have c := cK_pos D f (D 13 f - 1 - m)
    rw [rsD]
    exact ⟨Int.ediv_nonneg a.1 (by omega), Int.le_trans (Int.ediv_le_self _ a.1) a.2⟩
theorem preW_cong {D : DT} {W V : Int → Int} {k : Nat} (e : ∀ i : Nat, i < k → W i = V i) : preW D W k = preW D V k := sg_cong (fun i hi => by rw [e i hi])
theorem preW_rng {D : DT} {W : Int → Int} (hd : okD D) {L : Nat} (hW : ∀ k : Nat, k < L → 0 ≤ W k ∧ W k < D 0 2) : ∀ k : Nat, k ≤ L → k ≤ preW D W k ∧ preW D W k ≤ 4 * k
  | 0, _ => by show (0 : Int) ≤ 0 ∧ (0 : Int) ≤ 4 * 0; decide
  | k + 1, h => by
    have a := preW_rng hd hW k (by omega)
    have b := hW k (by omega)
    have c := (hd.2.2.2.2.2.2.2.2.2.2.2.2.2.1 _ b.1 b.2).2.1
    have e : preW D W (k + 1) = preW D W k + D 11 (W k) := rfl
    rw [e]
    omega
theorem preW_mono {D : DT} {W : Int → Int} (hd : okD D) {L : Nat} (hW : ∀ k : Nat, k < L → 0 ≤ W k ∧ W k < D 0 2) {a : Nat} : ∀ {b : Nat}, a ≤ b → b ≤ L → preW D W a ≤ preW D W b
  | 0, h, _ => by rw [show a = 0 by omega]; exact Int.le_refl _
  | b + 1, h, hb => by
    by_cases e : a = b + 1
    · rw [e]; exact Int.le_refl _
    · have := preW_mono hd hW (a := a) (b := b) (by omega) (by omega)
      have q := hW b (by omega)
      have c := (hd.2.2.2.2.2.2.2.2.2.2.2.2.2.1 _ q.1 q.2).2.1
      have e2 : preW D W (b + 1) = preW D W b + D 11 (W b) := rfl
      omega
theorem c_spell {fr : Nat} {f i : Int} {h : AH} (hf : 1 ≤ fr) (hg : isG (h 55 0)) (hd : okD (dV h)) (hv : vtab h (dV h)) (f0 : 0 ≤ f) (f1 : f < h (h 55 0) 3) (i0 : 0 ≤ i) (i1 : i < 2147483648) (hne : ∀ k, 0 ≤ k → k < dV h 13 f → 1 ≤ kindsD (dV h) (dV h 14 (f * 3 + k))) :
    Sp mX10_spell true fr 0 0 [zR 55, zI f, zI i] 137 h (rV (fun h' => ((∀ c, c ≠ 55 → c ≠ 76 → c ≠ 77 → h' c = h c) ∧ ∀ j, j ≠ 12 → h' 55 j = h 55 j) ∧ lineW (dV h) f i (h' 76) ∧ h' 55 12 = preW (dV h) (h' 76) (dV h 13 f).toNat ∧ ∃ S, isSay (dV h) (h' 76) (dV h 13 f).toNat S ∧ ∀ u, 0 ≤ u → u < h' 55 12 → h' 77 u = 1 * 2 ^ (S u).toNat ∧ 0 ≤ S u ∧ S u < dV h 0 0)) := by
  refine Sp.mk yX10_spell_ok rfl rfl ?_
  have cg := hg.cel
  obtain ⟨⟨f6, L1⟩, fk⟩ := formD hd f0 f1
  have gs : h 55 0 ≠ 55 ∧ h 55 0 ≠ 76 ∧ h 55 0 ≠ 77 ∧ ∀ k, 0 ≤ k → k ≤ 14 → h 55 0 + k ≠ 55 ∧ h 55 0 + k ≠ 76 ∧ h 55 0 + k ≠ 77 := by unfold isG at hg; exact ⟨by omega, by omega, by omega, fun k a b => by omega⟩
  generalize hD : dV h = D at *
  have eD : ∀ k x, D k x = h (h 55 0 + k) x := fun k x => by rw [← hD]
  have e02 : D 0 2 = h (h 55 0) 2 := by rw [← hD]; exact dV0 h 2
  have e00 : D 0 0 = h (h 55 0) 0 := by rw [← hD]; exact dV0 h 0
  have d13 : D 13 f = h (h 55 0 + 13) f := eD 13 f
  generalize hQ : (rV (fun h' : AH => ((∀ c, c ≠ 55 → c ≠ 76 → c ≠ 77 → h' c = h c) ∧ ∀ j, j ≠ 12 → h' 55 j = h 55 j) ∧ lineW D f i (h' 76) ∧ h' 55 12 = preW D (h' 76) (D 13 f).toNat ∧ ∃ S, isSay D (h' 76) (D 13 f).toNat S ∧ ∀ u, 0 ≤ u → u < h' 55 12 → h' 77 u = 1 * 2 ^ (S u).toNat ∧ 0 ≤ S u ∧ S u < D 0 0)) = Q
  -- the sounds
  have part2 : ∀ (h1 : AH) (x1 x2 x3 x5 x6 x7 : AV), (∀ c, c ≠ 55 → c ≠ 76 → c ≠ 77 → h1 c = h c) → (∀ j, j ≠ 12 → h1 55 j = h 55 j) → lineW D f i (h1 76) → Wp mX10_spell (kR fr 0 0) Q (0, 0) 86 [zR 55, x1, x2, x3, zI (D 13 f), x5, x6, x7] [] 137 h1 := by
    intro h1 x1 x2 x3 x5 x6 x7 k1 f55 hl
    have hW : ∀ k : Nat, k < (D 13 f).toNat → 0 ≤ h1 76 k ∧ h1 76 k < D 0 2 := fun k hk => (hl k (by omega) (by omega)).1
    have e0 : h1 55 0 = h 55 0 := f55 0 (by decide)
    refine bX10_spell_86 (kk := ?_)
    suffices O : ∀ (d k : Nat) (h2 : AH) (S : Int → Int) (x1 x2 x3 x6 x7 : AV), k + d = (D 13 f).toNat → (∀ c, c ≠ 55 → c ≠ 77 → h2 c = h1 c) → (∀ j, j ≠ 12 → h2 55 j = h 55 j) → h2 55 12 = preW D (h1 76) k → isSay D (h1 76) k S → (∀ u, 0 ≤ u → u < h2 55 12 → h2 77 u = 1 * 2 ^ (S u).toNat ∧ 0 ≤ S u ∧ S u < D 0 0) → Wp mX10_spell (kR fr 0 0) Q (0, 0) 94 [zR 55, x1, x2, x3, zI (D 13 f), zI k, x6, x7] [] 137 h2 by
      exact O (D 13 f).toNat 0 _ (fun _ => 0) _ _ _ _ _ (by omega) (fun c a _ => up_n a) (fun j hj => by rw [up_cn hj]; exact f55 j hj) (by rw [up_ci]; rfl) (fun k hk => by omega) (fun u a b => by rw [up_ci] at b; omega)
    intro d
    induction d with
    | zero =>
      intro k h2 S x1 x2 x3 x6 x7 hk k2 g55 n2 hs hm
      refine bX10_spell_94 (kt := fun _ => ?_) (kf := fun q => by omega)
      refine bX10_spell_176 (hq := ?_)
      have e76 : h2 76 = h1 76 := k2 76 (by decide) (by decide)
      have ek : k = (D 13 f).toNat := by omega
      rw [← hQ]
      refine ⟨rfl, rfl, ⟨fun c a b e => by rw [k2 c a e, k1 c a b e], g55⟩, by rw [e76]; exact hl, by rw [e76, ← ek]; exact n2, S, by rw [e76, ← ek]; exact hs, hm⟩
    | succ d ih =>
      intro k h2 S x1 x2 x3 x6 x7 hk k2 g55 n2 hs hm
      have e76 : h2 76 = h1 76 := k2 76 (by decide) (by decide)
      have wk := hW k (by omega)
      obtain ⟨⟨w8, -⟩, wl, ws⟩ := wordD (h := h) (by rw [hD]; exact hd) wk.1 (by rw [← e02]; exact wk.2)
      have pr := preW_rng hd hW k (by omega)
      refine bX10_spell_94 (kt := fun q => by omega) (kf := fun _ => ?_)
      refine bX10_spell_101 (kk := ?_)
      rw [e76]
      suffices I : ∀ (dj : Nat) (j : Int) (h2 : AH) (S : Int → Int) (x1 x2 x3 : AV), 0 ≤ j → j + dj = D 11 (h1 76 k) → (∀ c, c ≠ 55 → c ≠ 77 → h2 c = h1 c) → (∀ j, j ≠ 12 → h2 55 j = h 55 j) → h2 55 12 = preW D (h1 76) k + j → isSay D (h1 76) k S → (∀ x, 0 ≤ x → x < j → S (preW D (h1 76) k + x) = D 12 (h1 76 k * 4 + x)) → (∀ u, 0 ≤ u → u < h2 55 12 → h2 77 u = 1 * 2 ^ (S u).toNat ∧ 0 ≤ S u ∧ S u < D 0 0) → Wp mX10_spell (kR fr 0 0) Q (0, 0) 113 [zR 55, x1, x2, x3, zI (D 13 f), zI k, zI (h1 76 k), zI j] [] 137 h2 by
        refine I (D 11 (h1 76 k)).toNat 0 h2 S _ _ _ (by decide) (by rw [eD 11]; omega) k2 g55 (by rw [Int.add_zero]; exact n2) hs (fun x a b => by omega) hm
      intro dj
      induction dj with
      | zero =>
        intro j h2 S x1 x2 x3 j0 hj k2 g55 n2 hs hx hm
        have g0 : h2 55 0 = h 55 0 := g55 0 (by decide)
        have e11 : h2 (h 55 0 + 11) = h (h 55 0 + 11) := by
          have := gs.2.2.2 11 (by decide) (by decide)
          rw [k2 _ this.1 this.2.2, k1 _ this.1 this.2.1 this.2.2]
        rw [eD 11] at hj
        refine bX10_spell_113 (c1 := by rw [g0]; exact cg) (r3 := by rw [g0, e11]; omega) (kt := fun _ => ?_) (kf := fun q => by rw [g0, e11] at q; omega)
        refine bX10_spell_170 (kk := ?_)
        rw [show (k : Int) + 1 = ((k + 1 : Nat) : Int) by omega]
        refine ih (k + 1) h2 S _ _ _ _ _ (by omega) k2 g55 ?_ (fun a ha x p q => ?_) hm
        · have e2 : preW D (h1 76) (k + 1) = preW D (h1 76) k + D 11 (h1 76 k) := rfl
          rw [e2, eD 11, n2]; omega
        · by_cases e : a = k
          · rw [e] at q ⊢
            rw [eD 11] at q
            exact hx x p (by omega)
          · exact hs a (by omega) x p q
      | succ dj ihj =>
        intro j h2 S x1 x2 x3 j0 hj k2 g55 n2 hs hx hm
        have g0 : h2 55 0 = h 55 0 := g55 0 (by decide)
        have e11 : h2 (h 55 0 + 11) = h (h 55 0 + 11) := by
          have := gs.2.2.2 11 (by decide) (by decide)
          rw [k2 _ this.1 this.2.2, k1 _ this.1 this.2.1 this.2.2]
        have e12 : h2 (h 55 0 + 12) = h (h 55 0 + 12) := by
          have := gs.2.2.2 12 (by decide) (by decide)
          rw [k2 _ this.1 this.2.2, k1 _ this.1 this.2.1 this.2.2]
        rw [eD 11] at hj
        have v := ws j j0 (by omega)
        have vS : D 12 (h1 76 k * 4 + j) < D 0 0 := ((hd.2.2.2.2.2.2.2.2.2.2.2.2.2.1 _ wk.1 wk.2).2.2 j j0 (by rw [eD 11]; omega)).2
        have vE : D 12 (h1 76 k * 4 + j) = h (h 55 0 + 12) (h1 76 k * 4 + j) := eD 12 _
        refine bX10_spell_113 (c1 := by rw [g0]; exact cg) (r3 := by rw [g0, e11]; omega) (kt := fun q => by rw [g0, e11] at q; omega) (kf := fun _ => ?_)
        refine bX10_spell_128 (c1 := by rw [g0]; exact cg) (r2 := by rw [g0, e12]; omega) (r3 := by omega) (kk := ?_)
        rw [g0, e12]
        refine ihj (j + 1) _ (fun u => if u = preW D (h1 76) k + j then D 12 (h1 76 k * 4 + j) else S u) _ _ _ (by omega) (by rw [eD 11]; omega) (fun c a b => by rw [up_n a, up_n b, k2 c a b]) (fun x hx => by rw [up_cn hx, up_n (by decide)]; exact g55 x hx) (by rw [up_ci, n2]; omega) (fun a ha x p q => ?_) (fun x p q => ?_) (fun u p q => ?_)
        · have m1 := preW_mono hd hW (a := a + 1) (b := k) (by omega) (by omega)
          have e2 : preW D (h1 76) (a + 1) = preW D (h1 76) a + D 11 (h1 76 a) := rfl
          dsimp only
          rw [if_neg (by omega)]
          exact hs a ha x p q
        · by_cases e : x = j
          · rw [e, if_pos rfl]
          · rw [if_neg (by omega)]; exact hx x p (by omega)
        · rw [up_ci] at q
          rw [up_n (by decide)]
          by_cases e : u = preW D (h1 76) k + j
          · rw [if_pos e, e, ← n2, up_ci, vE]
            exact ⟨rfl, by omega, by rw [← vE]; exact vS⟩
          · rw [if_neg e, up_cn (by omega)]
            exact hm u p (by omega)
  refine bX10_spell_0 (kk := ?_)
  suffices O : ∀ (d m : Nat) (h1 : AH) (x2 x6 x7 : AV), m + d = (D 13 f).toNat → (∀ c, c ≠ 76 → h1 c = h c) → (∀ k, D 13 f - m ≤ k → 0 ≤ k → k < D 13 f → (0 ≤ h1 76 k ∧ h1 76 k < D 0 2) ∧ D 10 (h1 76 k) = D 14 (f * 3 + k) ∧ cnt (kp_ D (D 14 (f * 3 + k))) (h1 76 k).toNat = digD D f i k) → Wp mX10_spell (kR fr 0 0) Q (0, 0) 19 [zR 55, zI f, x2, zI (rsD D f i m), zI (D 13 f), zI (D 13 f - 1 - m), x6, x7] [] 137 h1 by
    have := O (D 13 f).toNat 0 h (zI i) none none (by omega) (fun _ _ => rfl) (fun k a b c => by omega)
    rw [show D 13 f - 1 - ((0 : Nat) : Int) = h (h 55 0 + 13) f - 1 by rw [d13]; omega, d13] at this
    exact this
  intro d
  induction d with
  | zero =>
    intro m h1 x2 x6 x7 hm k1 hr
    refine bX10_spell_19 (kt := fun _ => ?_) (kf := fun q => by omega)
    exact part2 h1 _ _ _ _ _ _ (fun c a b e => k1 c b) (fun j _ => by rw [k1 55 (by decide)]) (fun k a b => hr k (by omega) a b)
  | succ d ih =>
    intro m h1 x2 x6 x7 hm k1 hr
    have e55 : h1 55 = h 55 := k1 55 (by decide)
    have e71 : h1 71 = h 71 := k1 71 (by decide)
    have e72 : h1 72 = h 72 := k1 72 (by decide)
    have e14 : h1 (h 55 0 + 14) = h (h 55 0 + 14) := k1 _ (gs.2.2.2 14 (by decide) (by decide)).2.1
    generalize hkk : D 13 f - 1 - (m : Int) = kk
    have kk0 : 0 ≤ kk ∧ kk < D 13 f := by omega
    have kr := fk kk kk0.1 (by omega)
    have k14 : D 14 (f * 3 + kk) = h (h 55 0 + 14) (f * 3 + kk) := eD 14 _
    obtain ⟨q71, q72⟩ := hv (D 14 (f * 3 + kk)) (by rw [k14]; exact kr.1) (by rw [k14]; exact kr.2)
    have q1 := hne kk kk0.1 kk0.2
    have q8 := kindsD_rng hd (D 14 (f * 3 + kk))
    have rr := rsD_rng (D := D) (f := f) i0 m
    have cE : cK D f kk = kindsD D (D 14 (f * 3 + kk)) := by unfold cK; omega
    have h71' : h 71 (h (h 55 0 + 14) (f * 3 + kk)) = kindsD D (D 14 (f * 3 + kk)) := by rw [← k14]; exact q71
    have mx : max 1 (h 71 (h (h 55 0 + 14) (f * 3 + kk))) = cK D f kk := by rw [h71', cE]; omega
    have dg : digD D f i kk = rsD D f i m % cK D f kk := by unfold digD; rw [show (D 13 f - 1 - kk).toNat = m by omega]
    have d0 := Int.emod_nonneg (rsD D f i m) (show cK D f kk ≠ 0 by omega)
    have d1 := Int.emod_lt_of_pos (rsD D f i m) (show 0 < cK D f kk by omega)
    refine bX10_spell_19 (kt := fun q => by omega) (kf := fun _ => ?_)
    refine bX10_spell_24 (c1 := by rw [e55]; exact cg) (r1 := by omega) (r2 := by rw [e55, e14]; exact kr) (r4 := by rw [e55, e14, e71, h71']; omega) (r5 := by omega) (r6 := by rw [e55, e14, e71, mx]; omega) (r7 := by rw [e55, e14, e71, mx]; omega) (r8 := by omega) (kk := ?_)
    rw [e55, e14, e71, e72, mx]
    have rsE : rsD D f i m / cK D f kk = rsD D f i (m + 1) := by rw [rsD, hkk]
    rw [rsE, show kk + -1 = D 13 f - 1 - ((m + 1 : Nat) : Int) by omega]
    refine ih (m + 1) _ _ _ _ (by omega) (fun c hc => by rw [up_n hc, k1 c hc]) (fun k a b c => ?_)
    by_cases e : k = kk
    · rw [e, up_ci, ← k14]
      have := q72 (rsD D f i m % cK D f kk) d0 (by rw [← cE]; exact d1)
      exact ⟨this.1, this.2.1, by rw [dg]; exact this.2.2⟩
    · rw [up_cn e]
      exact hr k (by omega) b c
