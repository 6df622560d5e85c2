/-! ===== the model: from line to line ===== -/
theorem carry_y {r c : Int} (hc : 1 ≤ c) (e : r % c = c - 1) : (r + 1) / c = r / c + 1 ∧ (r + 1) % c = 0 := by
  have q := Int.emod_add_mul_ediv r c
  have e1 : r + 1 = 0 + c * (r / c + 1) := by rw [Int.mul_add, Int.mul_one]; omega
  rw [e1]
  refine ⟨?_, ?_⟩
  · rw [Int.add_mul_ediv_left _ _ (by omega), Int.zero_ediv, Int.zero_add]
  · rw [Int.add_mul_emod_self_left]; rfl
theorem carry_n {r c : Int} (hc : 1 ≤ c) (e : r % c < c - 1) : (r + 1) / c = r / c ∧ (r + 1) % c = r % c + 1 := by
  have q := Int.emod_add_mul_ediv r c
  have p := Int.emod_nonneg r (show c ≠ 0 by omega)
  have e1 : r + 1 = (r % c + 1) + c * (r / c) := by omega
  have z1 : (r % c + 1) / c = 0 := Int.ediv_eq_zero_of_lt (by omega) (by omega)
  have z2 : (r % c + 1) % c = r % c + 1 := Int.emod_eq_of_lt (by omega) (by omega)
  constructor
  · conv => lhs; rw [e1]
    rw [Int.add_mul_ediv_left _ _ (by omega), z1, Int.zero_add]
  · conv => lhs; rw [e1]
    rw [Int.add_mul_emod_self_left, z2]
theorem dig_at (D : DT) (f i : Int) (j : Nat) : digD D f i (D 13 f - 1 - j) = rsD D f i j % cK D f (D 13 f - 1 - j) := by
  unfold digD
  rw [show (D 13 f - 1 - (D 13 f - 1 - (j : Int))).toNat = j by omega]
theorem rs_carry {D : DT} {f i : Int} : ∀ m : Nat, (∀ j : Nat, j < m → digD D f i (D 13 f - 1 - j) = cK D f (D 13 f - 1 - j) - 1) → rsD D f (i + 1) m = rsD D f i m + 1 ∧ ∀ j : Nat, j < m → digD D f (i + 1) (D 13 f - 1 - j) = 0
  | 0, _ => ⟨rfl, fun j hj => by omega⟩
  | m + 1, h => by
    obtain ⟨a, b⟩ := rs_carry m (fun j hj => h j (by omega))
    have q := h m (by omega)
    rw [dig_at] at q
    have c := carry_y (cK_pos D f (D 13 f - 1 - m)) q
    refine ⟨?_, fun j hj => ?_⟩
    · show rsD D f (i + 1) m / _ = rsD D f i m / _ + 1
      rw [a]; exact c.1
    · by_cases e : j = m
      · rw [e, dig_at, a]; exact c.2
      · exact b j (by omega)
theorem rs_stop {D : DT} {f i : Int} {m : Nat} (h : ∀ j : Nat, j < m → digD D f i (D 13 f - 1 - j) = cK D f (D 13 f - 1 - j) - 1) (hm : digD D f i (D 13 f - 1 - m) < cK D f (D 13 f - 1 - m) - 1) : digD D f (i + 1) (D 13 f - 1 - m) = digD D f i (D 13 f - 1 - m) + 1 ∧ ∀ n : Nat, m < n → rsD D f (i + 1) n = rsD D f i n := by
  obtain ⟨a, b⟩ := rs_carry m h
  rw [dig_at] at hm
  have c := carry_n (cK_pos D f (D 13 f - 1 - m)) hm
  refine ⟨by rw [dig_at, dig_at, a]; exact c.2, fun n => ?_⟩
  induction n with
  | zero => intro z; omega
  | succ n ih =>
    intro z
    by_cases e : n = m
    · rw [e]
      show rsD D f (i + 1) m / _ = rsD D f i m / _
      rw [a]; exact c.1
    · show rsD D f (i + 1) n / _ = rsD D f i n / _
      rw [ih (by omega)]
theorem rs_lt {D : DT} {f : Nat} {i : Int} (hk : ∀ k, 0 ≤ k → k < D 13 f → 1 ≤ kindsD D (D 14 ((f : Int) * 3 + k))) : ∀ m : Nat, m ≤ (D 13 f).toNat → (rsD D f i (D 13 f).toNat < 1 ↔ rsD D f i ((D 13 f).toNat - m) < pr (fun i => kindsD D (D 14 ((f : Int) * 3 + i))) m)
  | 0, _ => Iff.rfl
  | m + 1, h => by
    rw [rs_lt hk m (by omega), show (D 13 f).toNat - m = ((D 13 f).toNat - (m + 1)) + 1 by omega]
    have e : D 13 f - 1 - (((D 13 f).toNat - (m + 1) : Nat) : Int) = m := by omega
    show rsD D f i ((D 13 f).toNat - (m + 1)) / cK D f (D 13 f - 1 - (((D 13 f).toNat - (m + 1) : Nat) : Int)) < _ ↔ _
    rw [e]
    have q := hk m (by omega) (by omega)
    have ec : cK D f m = kindsD D (D 14 ((f : Int) * 3 + m)) := by unfold cK; omega
    rw [ec, Int.ediv_lt_iff_lt_mul (by omega)]
    exact Iff.rfl
theorem rs_lines {D : DT} {f : Nat} {i : Int} (hk : ∀ k, 0 ≤ k → k < D 13 f → 1 ≤ kindsD D (D 14 ((f : Int) * 3 + k))) : rsD D f i (D 13 f).toNat < 1 ↔ i < linesD D f := by
  rw [rs_lt hk (D 13 f).toNat (Nat.le_refl _), Nat.sub_self]
  exact Iff.rfl
/-- two places in the row of all lines with the same lines before them -/
def samP (D : DT) (f i g j : Nat) : Prop := (∀ F, psum D F f i = psum D F g j) ∧ (∀ a b, bef D f i a b ↔ bef D g j a b) ∧ preN D f + i = preN D g + j
theorem samP.rf (D : DT) (f i : Nat) : samP D f i f i := ⟨fun _ => rfl, fun _ _ => Iff.rfl, rfl⟩
theorem samP.tr {D : DT} {f i g j a b : Nat} (h1 : samP D f i g j) (h2 : samP D g j a b) : samP D f i a b := ⟨fun F => by rw [h1.1, h2.1], fun x y => by rw [h1.2.1, h2.2.1], by rw [h1.2.2, h2.2.2]⟩
theorem samP_n {D : DT} {f : Nat} (h : 0 ≤ linesD D f) : samP D f (linesD D f).toNat (f + 1) 0 := ⟨fun F => (psum_n F f).symm, fun a b => bef_n.symm, by have : preN D (f + 1) = preN D f + linesD D f := rfl; omega⟩
def WB (D : DT) (k w x : Int) : Prop := (x = -1 ∧ kindsD D k = cnt (kp_ D k) (w + 1).toNat) ∨ ((0 ≤ x ∧ x < D 0 2) ∧ D 10 x = k ∧ cnt (kp_ D k) x.toNat = cnt (kp_ D k) (w + 1).toNat)
theorem m_wordBehind {fr : Nat} {k w : Int} {h : AH} (hd : okD (dM h)) (rk : R32 k) (w0 : -1 ≤ w) (w1 : w < h 98 3) : Sp mX12_wordBehind true fr 0 0 [zR 98, zI k, zI w] 137 h (rI (fun x h' => h' = h ∧ WB (dM h) k w x)) := by
  refine Sp.mk yX12_wordBehind_ok rfl rfl ?_
  obtain ⟨rk1, rk2⟩ := rk
  have W : 0 ≤ h 98 3 ∧ h 98 3 ≤ 8 := hd.2.2.1
  have hk : ∀ w, 0 ≤ w → w < h 98 3 → 0 ≤ h 101 (6 * w) ∧ h 101 (6 * w) ≤ 3 := fun w a b => (hd.2.2.2.2.2.2.2.2.2.2.2.2.2.1 w a b).1
  refine bX12_wordBehind_0 (kk := ?_)
  suffices H : ∀ (d v : Nat) (x2 : AV), (v : Int) + d = h 98 3 → cnt (kp_ (dM h) k) v = cnt (kp_ (dM h) k) (w + 1).toNat → Wp mX12_wordBehind (kR fr 0 0) (rI (fun x h' => h' = h ∧ WB (dM h) k w x)) (0, 0) 4 [zR 98, zI k, x2, zI v] [] 137 h by
    have := H (h 98 3 - (w + 1)).toNat (w + 1).toNat (zI w) (by omega) rfl
    rw [show (((w + 1).toNat : Nat) : Int) = w + 1 by omega] at this
    exact this
  intro d
  induction d with
  | zero =>
    intro v x2 hv hc
    refine bX12_wordBehind_4 (kt := fun _ => ?_) (kf := fun z => by omega)
    refine bX12_wordBehind_33 (hq := ⟨_, rfl, rfl, rfl, Or.inl ⟨rfl, ?_⟩⟩)
    rw [← hc]
    show cnt (kp_ (dM h) k) (h 98 3).toNat = _
    rw [show (h 98 3).toNat = v by omega]
  | succ d ih =>
    intro v x2 hv hc
    have q := hk v (by omega) (by omega)
    refine bX12_wordBehind_4 (kt := fun z => by omega) (kf := fun _ => ?_)
    refine bX12_wordBehind_12 (kt := fun z => ?_) (kf := fun z => ?_)
    · refine bX12_wordBehind_27 (kk := ?_)
      rw [show (v : Int) + 1 = ((v + 1 : Nat) : Int) by omega]
      refine ih (v + 1) _ (by omega) ?_
      rw [← hc, cnt_s, if_neg]
      · omega
      · show ¬ decide (h 101 (6 * (v : Int)) = k) = true
        rw [decide_eq_false z]; decide
    · refine bX12_wordBehind_25 (hq := ⟨_, rfl, rfl, rfl, Or.inr ⟨⟨by omega, show (v : Int) < h 98 3 by omega⟩, z, ?_⟩⟩)
      rw [Int.toNat_natCast]; exact hc
def kW (h h' : AH) : Prop := (∀ c, c ≠ 98 → c ≠ 118 → h' c = h c) ∧ ∀ j, j ≠ 53 → h' 98 j = h 98 j
theorem kW.rf (h : AH) : kW h h := ⟨fun _ _ _ => rfl, fun _ _ => rfl⟩
theorem kW.tr {a b c : AH} (h1 : kW a b) (h2 : kW b c) : kW a c := ⟨fun x p q => by rw [h2.1 x p q, h1.1 x p q], fun j p => by rw [h2.2 j p, h1.2 j p]⟩
theorem kW.dM {h h' : AH} (k : kW h h') : dM h' = dM h := dM_eq (fun i a b => k.2 i (by omega)) (fun c a b => k.1 c (by omega) (by omega))
theorem kW.up53 (h : AH) (v : Int) : kW h (up h 98 53 v) := ⟨fun c a _ => up_n a, fun j a => up_cn a⟩
theorem kW.up118 (h : AH) (i v : Int) : kW h (up h 118 i v) := ⟨fun c _ a => up_n a, fun j _ => by rw [up_n (by decide)]⟩
/-- the model stands at line i of form f -/
def atL (D : DT) (h : AH) (f i : Nat) : Prop := ((f : Int) < D 0 3 ∧ (i : Int) < linesD D f) ∧ h 98 53 = f ∧ lineW D f i (h 118) ∧ ∀ k, D 13 f ≤ k → k < 3 → h 118 k = -1
theorem rs_zero (D : DT) (f : Int) (m : Nat) : rsD D f 0 m = 0 := by
  have := rsD_rng (D := D) (f := f) (i := 0) (by decide) m
  omega
theorem m_nextForm {fr : Nat} {F : Nat} {h : AH} (hfr : 2 ≤ fr) (hd : okD (dM h)) (h53 : h 98 53 + 1 = F) (hF : (F : Int) ≤ h 98 4) :
    Sp mX12_nextForm true fr 0 0 [zR 98] 137 h (rI (fun x h' => kW h h' ∧ ((x = 1 ∧ ∃ g j : Nat, atL (dM h) h' g j ∧ samP (dM h) F 0 g j) ∨ (x = 0 ∧ samP (dM h) F 0 (dM h 0 3).toNat 0)))) := by
  refine Sp.mk yX12_nextForm_ok rfl rfl ?_
  have e03 : dM h 0 3 = h 98 4 := rfl
  have nF : 0 ≤ h 98 4 ∧ h 98 4 ≤ 6 := hd.2.2.2.1
  generalize hD : dM h = D at *
  generalize hQ : (rI (fun x h' => kW h h' ∧ ((x = 1 ∧ ∃ g j : Nat, atL D h' g j ∧ samP D F 0 g j) ∨ (x = 0 ∧ samP D F 0 (D 0 3).toNat 0)))) = Q
  refine bX12_nextForm_0 (kk := ?_)
  rw [h53]
  have fin : ∀ (g : Nat) (h1 : AH) (x1 : AV), (g : Int) ≤ h 98 4 → kW h h1 → h1 98 53 = g → samP D F 0 g 0 → ((g : Int) < h 98 4 → 0 < linesD D g) → Wp mX12_nextForm (kR fr 0 0) Q (0, 0) 45 [zR 98, x1] [] 137 h1 := by
    intro g h1 x1 hg k1 e53 sm pos
    have e4 : h1 98 4 = h 98 4 := k1.2 4 (by decide)
    refine bX12_nextForm_45 (kk := ?_)
    by_cases c : (g : Int) < h 98 4
    rotate_left
    · refine bX12_nextForm_47 (kt := fun w => by omega) (kf := fun _ => ?_)
      refine bX12_nextForm_52 (kt := fun _ => ?_) (kf := fun w => by omega)
      refine bX12_nextForm_108 (kt := fun _ => ?_) (kf := fun w => by omega)
      refine bX12_nextForm_123 (kk := bX12_nextForm_124 (hq := ?_))
      rw [← hQ]
      refine ⟨_, rfl, rfl, k1, Or.inr ⟨rfl, ?_⟩⟩
      rw [show (D 0 3).toNat = g by omega]; exact sm
    have g1 : (g : Int) < D 0 3 := by omega
    obtain ⟨L, hk⟩ := hd.2.2.2.2.2.2.2.2.2.2.2.2.2.2 g (by omega) g1
    have kp := linesD_pos (pos c) hd
    have eL : D 13 g = h 102 (4 * (g : Int)) := by rw [← hD]; rfl
    suffices K : ∀ (d k : Nat) (h2 : AH), k + d = 3 → kW h h2 → h2 98 53 = g → (∀ m : Int, 0 ≤ m → m < k → m < D 13 g → (0 ≤ h2 118 m ∧ h2 118 m < D 0 2) ∧ D 10 (h2 118 m) = D 14 ((g : Int) * 3 + m) ∧ cnt (kp_ D (D 14 ((g : Int) * 3 + m))) (h2 118 m).toNat = 0) → (∀ m : Int, D 13 g ≤ m → m < k → h2 118 m = -1) → Wp mX12_nextForm (kR fr 0 0) Q (0, 0) 47 [zR 98, zI k] [] 137 h2 by
      exact K 3 0 h1 (by omega) k1 e53 (fun m a b => by omega) (fun m a b => by omega)
    intro d
    induction d with
    | zero =>
      intro k h2 hk3 k2 f53 hw hn
      have e4 : h2 98 4 = h 98 4 := k2.2 4 (by decide)
      refine bX12_nextForm_47 (kt := fun _ => ?_) (kf := fun w => by omega)
      refine bX12_nextForm_108 (kt := fun w => by omega) (kf := fun _ => ?_)
      refine bX12_nextForm_119 (kk := bX12_nextForm_124 (hq := ?_))
      rw [← hQ]
      refine ⟨_, rfl, rfl, k2, Or.inl ⟨rfl, g, 0, ⟨⟨g1, by have := pos c; omega⟩, f53, fun m a b => ?_, fun m a b => hn m a (by omega)⟩, sm⟩⟩
      obtain ⟨p, q, r⟩ := hw m a (by omega) b
      refine ⟨p, q, ?_⟩
      rw [r]
      show 0 = rsD D g 0 _ % _
      rw [rs_zero, Int.zero_emod]
    | succ d ih =>
      intro k h2 hk3 k2 f53 hw hn
      have e4 : h2 98 4 = h 98 4 := k2.2 4 (by decide)
      have e3 : h2 98 3 = h 98 3 := k2.2 3 (by decide)
      have e102 : h2 102 = h 102 := k2.1 102 (by decide) (by decide)
      have D2 : dM h2 = D := by rw [k2.dM, hD]
      have next : ∀ (y : Int), ((k : Int) < D 13 g → (0 ≤ y ∧ y < D 0 2) ∧ D 10 y = D 14 ((g : Int) * 3 + k) ∧ cnt (kp_ D (D 14 ((g : Int) * 3 + k))) y.toNat = 0) → (D 13 g ≤ k → y = -1) → Wp mX12_nextForm (kR fr 0 0) Q (0, 0) 101 [zR 98, zI k] [zI y, zI k, zR 118] 137 h2 := fun y y1 y2 => by
        refine bX12_nextForm_101 (c1 := e118) (kk := ?_)
        rw [show (k : Int) + 1 = ((k + 1 : Nat) : Int) by omega]
        refine ih (k + 1) _ (by omega) (k2.tr (kW.up118 _ _ _)) (by rw [up_n (by decide)]; exact f53) (fun m a b c => ?_) (fun m a b => ?_)
        · by_cases e : m = k
          · rw [e, up_ci]; exact y1 (by omega)
          · rw [up_cn e]; exact hw m a (by omega) c
        · by_cases e : m = k
          · rw [e, up_ci]; exact y2 (by omega)
          · rw [up_cn e]; exact hn m a (by omega)
      refine bX12_nextForm_47 (kt := fun w => by omega) (kf := fun _ => ?_)
      refine bX12_nextForm_52 (kt := fun w => by omega) (kf := fun _ => ?_)
      refine bX12_nextForm_63 (r3 := by rw [e102, f53, ← eL]; omega) (kt := fun w => ?_) (kf := fun w => ?_)
      · rw [e102, f53, ← eL] at w
        exact bX12_nextForm_100 (kk := next (-1) (fun z => by omega) (fun _ => rfl))
      · rw [e102, f53, ← eL] at w
        have hkk := hk k (by omega) w
        have e02 : D 0 2 = h 98 3 := by rw [← hD]; rfl
        have n02 := hd.2.2.1
        refine bX12_nextForm_83 (hS := by rw [f53]; exact m_kindOf (by omega) (by omega)) (kk := ?_)
        rintro x h3 ⟨e, hx⟩
        rw [e]; clear e h3
        rw [D2] at hx
        refine bX12_nextForm_93 (hS := m_wordBehind (by rw [D2]; exact hd) (by rw [hx]; constructor <;> omega) (by decide) (by omega)) (kk := ?_)
        rintro y h3 ⟨e, hy⟩
        rw [e]; clear e h3
        rw [D2, hx] at hy
        refine bX12_nextForm_97 (kk := next y (fun _ => ?_) (fun z => by omega))
        rcases hy with ⟨-, z⟩ | z
        · have := kp k (by omega) w
          have z0 : cnt (kp_ D (D 14 ((g : Int) * 3 + k))) (-1 + 1 : Int).toNat = 0 := rfl
          omega
        · exact z
  suffices O : ∀ (d g : Nat) (h1 : AH) (x1 : AV), (g : Int) + d = h 98 4 → kW h h1 → h1 98 53 = g → samP D F 0 g 0 → Wp mX12_nextForm (kR fr 0 0) Q (0, 0) 10 [zR 98, x1] [] 137 h1 by
    exact O (h 98 4 - F).toNat F _ _ (by omega) (kW.up53 h _) (up_ci _ _ _ _) (samP.rf D F 0)
  intro d
  induction d with
  | zero =>
    intro g h1 x1 hg k1 e53 sm
    have e4 : h1 98 4 = h 98 4 := k1.2 4 (by decide)
    refine bX12_nextForm_10 (kt := fun _ => ?_) (kf := fun w => by omega)
    exact fin g h1 _ (by omega) k1 e53 sm (fun w => by omega)
  | succ d ih =>
    intro g h1 x1 hg k1 e53 sm
    have e4 : h1 98 4 = h 98 4 := k1.2 4 (by decide)
    have D1 : dM h1 = D := by rw [k1.dM, hD]
    have ln := linesD_512 hd (f := g) (by omega)
    refine bX12_nextForm_10 (kt := fun w => by omega) (kf := fun _ => ?_)
    refine bX12_nextForm_21 (hS := by rw [e53]; exact m_linesOf (by omega) (by rw [D1]; exact hd) (by omega)) (kk := ?_)
    rintro x h2 ⟨e, hx⟩
    rw [e]; clear e h2
    rw [D1] at hx
    refine bX12_nextForm_29 (kt := fun w => ?_) (kf := fun w => ?_)
    · exact fin g h1 _ (by omega) k1 e53 sm (fun _ => by omega)
    · refine bX12_nextForm_32 (kk := ?_)
      rw [e53, show (g : Int) + 1 = ((g + 1 : Nat) : Int) by omega]
      refine ih (g + 1) _ _ (by omega) (k1.tr (kW.up53 _ _)) (up_ci _ _ _ _) (sm.tr ?_)
      have := samP_n (D := D) (f := g) ln.1
      rw [show (linesD D g).toNat = 0 by omega] at this
      exact this
theorem m_firstLine {fr : Nat} {h : AH} (hfr : 3 ≤ fr) (hd : okD (dM h)) :
    Sp mX12_firstLine true fr 0 0 [zR 98] 137 h (rI (fun x h' => kW h h' ∧ ((x = 1 ∧ ∃ g j : Nat, atL (dM h) h' g j ∧ samP (dM h) 0 0 g j) ∨ (x = 0 ∧ samP (dM h) 0 0 (dM h 0 3).toNat 0)))) := by
  refine Sp.mk yX12_firstLine_ok rfl rfl ?_
  have nF : 0 ≤ h 98 4 ∧ h 98 4 ≤ 6 := hd.2.2.2.1
  have k0 := kW.up53 h (-1)
  refine bX12_firstLine_0 (hS := m_nextForm (F := 0) (by omega) (by rw [k0.dM]; exact hd) (by rw [up_ci]; rfl) (by rw [k0.2 4 (by decide)]; omega)) (kk := ?_)
  rintro x h1 ⟨k1, hx⟩
  rw [k0.dM] at hx
  exact bX12_firstLine_9 (r1 := by rcases hx with ⟨z, -⟩ | ⟨z, -⟩ <;> omega) (hq := ⟨_, rfl, rfl, k0.tr k1, hx⟩)
theorem m_nextLine {fr : Nat} {f i : Nat} {D : DT} {h : AH} (hfr : 3 ≤ fr) (hD : dM h = D) (hd : okD D) (hp : atL D h f i) :
    Sp mX12_nextLine true fr 0 0 [zR 98] 137 h (rI (fun x h' => kW h h' ∧ ((x = 1 ∧ ∃ g j : Nat, atL D h' g j ∧ samP D f (i + 1) g j) ∨ (x = 0 ∧ samP D f (i + 1) (D 0 3).toNat 0)))) := by
  refine Sp.mk yX12_nextLine_ok rfl rfl ?_
  obtain ⟨⟨f1, i1⟩, h53, hW, hN⟩ := id hp
  have e03 : D 0 3 = h 98 4 := by rw [← hD]; rfl
  have e02 : D 0 2 = h 98 3 := by rw [← hD]; rfl
  have n02 := hd.2.2.1
  have nF := hd.2.2.2.1
  obtain ⟨L, hk⟩ := hd.2.2.2.2.2.2.2.2.2.2.2.2.2.2 f (by omega) f1
  have kp := linesD_pos (show 0 < linesD D f by omega) hd
  have eL : h 102 (4 * (f : Int)) = D 13 f := by rw [← hD]; rfl
  have ec : ∀ k, 0 ≤ k → k < D 13 f → cK D f k = kindsD D (D 14 ((f : Int) * 3 + k)) := fun k a b => by have := kp k a b; unfold cK; omega
  generalize hQ : (rI (fun x h' => kW h h' ∧ ((x = 1 ∧ ∃ g j : Nat, atL D h' g j ∧ samP D f (i + 1) g j) ∨ (x = 0 ∧ samP D f (i + 1) (D 0 3).toNat 0)))) = Q
  refine bX12_nextLine_0 (kk := ?_)
  rw [h53, eL]
  suffices K : ∀ (d m : Nat), (m : Int) + d = D 13 f → (∀ j : Nat, j < m → digD D f i (D 13 f - 1 - j) = cK D f (D 13 f - 1 - j) - 1) → Wp mX12_nextLine (kR fr 0 0) Q (0, 0) 14 [zR 98, zI (D 13 f - 1 - m), none, none] [] 137 h by
    have := K (D 13 f).toNat 0 (by omega) (fun j hj => by omega)
    rw [show D 13 f - 1 - ((0 : Nat) : Int) = D 13 f - 1 by omega] at this
    exact this
  intro d
  induction d with
  | zero =>
    intro m hm ha
    refine bX12_nextLine_14 (kt := fun _ => ?_) (kf := fun w => by omega)
    have el : (i : Int) + 1 = linesD D f := by
      have a := (rs_carry m ha).1
      have b := (rs_lines (i := i) kp).mpr i1
      have c := rs_lines (i := (i : Int) + 1) kp
      rw [show (D 13 f).toNat = m by omega] at b c
      have r0 := (rsD_rng (D := D) (f := f) (i := i) (by omega) m).1
      have : ¬ ((i : Int) + 1 < linesD D f) := fun z => by have := c.mpr z; omega
      omega
    refine bX12_nextLine_106 (hS := m_nextForm (F := f + 1) (by omega) (by rw [hD]; exact hd) (by rw [h53]; omega) (by omega)) (kk := ?_)
    rintro x h1 ⟨k1, hx⟩
    rw [hD] at hx
    have sm : samP D f (i + 1) (f + 1) 0 := by
      have := samP_n (D := D) (f := f) (by omega)
      rw [show (linesD D f).toNat = i + 1 by omega] at this
      exact this
    refine bX12_nextLine_110 (r1 := by rcases hx with ⟨z, -⟩ | ⟨z, -⟩ <;> omega) (hq := ?_)
    rw [← hQ]
    refine ⟨_, rfl, rfl, k1, ?_⟩
    rcases hx with ⟨z, g, j, a, b⟩ | ⟨z, b⟩
    · exact Or.inl ⟨z, g, j, a, sm.tr b⟩
    · exact Or.inr ⟨z, sm.tr b⟩
  | succ d ih =>
    intro m hm ha
    generalize hkk : D 13 f - 1 - (m : Int) = k
    have k0 : 0 ≤ k := by omega
    have k1 : k < D 13 f := by omega
    obtain ⟨wr, wk, wc⟩ := hW k k0 k1
    have kk := hk k k0 k1
    have dr : 0 ≤ digD D f i k ∧ digD D f i k < cK D f k := by
      have := cK_pos D f k
      unfold digD
      exact ⟨Int.emod_nonneg _ (by omega), Int.emod_lt_of_pos _ (by omega)⟩
    have cs : cnt (kp_ D (D 14 ((f : Int) * 3 + k))) (h 118 k + 1).toNat = digD D f i k + 1 := by
      rw [show (h 118 k + 1).toNat = (h 118 k).toNat + 1 by omega, cnt_s, wc, if_pos]
      exact decide_eq_true (by rw [show (((h 118 k).toNat : Nat) : Int) = h 118 k by omega]; exact wk)
    refine bX12_nextLine_14 (kt := fun w => by omega) (kf := fun _ => ?_)
    refine bX12_nextLine_18 (hS := by rw [h53]; exact m_kindOf (by omega) (by omega)) (kk := ?_)
    rintro x h1 ⟨e, hx⟩
    rw [e]; clear e h1
    rw [hD] at hx
    refine bX12_nextLine_28 (hS := m_wordBehind (by rw [hD]; exact hd) (by rw [hx]; constructor <;> omega) (by omega) (by omega)) (kk := ?_)
    rintro y h1 ⟨e, hy⟩
    rw [e]; clear e h1
    rw [hD, hx] at hy
    refine bX12_nextLine_37 (r1 := by rcases hy with ⟨z, -⟩ | ⟨z, -⟩ <;> omega) (kt := fun q => ?_) (kf := fun q => ?_)
    rotate_left
    · -- the last of its kind: the one before it
      rcases hy with ⟨-, z⟩ | ⟨z, -⟩
      rotate_left
      · omega
      refine bX12_nextLine_43 (kk := bX12_nextLine_100 (kk := ?_))
      rw [show k + (-1) = D 13 f - 1 - ((m + 1 : Nat) : Int) by omega]
      refine ih (m + 1) (by omega) (fun j hj => ?_)
      by_cases e : j = m
      · rw [e, hkk, ec k k0 k1]; omega
      · exact ha j (by omega)
    rcases hy with ⟨z, -⟩ | ⟨yr, yk, yc⟩
    · exact absurd z q
    rw [cs] at yc
    have less : digD D f i k < cK D f k - 1 := by
      have pY : kp_ D (D 14 ((f : Int) * 3 + k)) y.toNat = true := decide_eq_true (by rw [show ((y.toNat : Nat) : Int) = y by omega]; exact yk)
      have : cnt (kp_ D (D 14 ((f : Int) * 3 + k))) y.toNat < kindsD D (D 14 ((f : Int) * 3 + k)) := cnt_lt (show y.toNat < (D 0 2).toNat by omega) pY
      rw [ec k k0 k1]; omega
    obtain ⟨s1, s2⟩ := rs_stop ha (by rw [hkk]; exact less)
    rw [hkk] at s1
    have more : (i : Int) + 1 < linesD D f := by
      rw [← rs_lines (i := (i : Int) + 1) kp, s2 _ (by omega), rs_lines kp]
      exact i1
    refine bX12_nextLine_46 (kk := ?_)
    suffices J : ∀ (e n : Nat) (h1 : AH) (x1 x2 : AV), (n : Int) + e = D 13 f → k < n → kW h h1 → h1 98 53 = f → (∀ j, D 13 f ≤ j → j < 3 → h1 118 j = -1) → (∀ j : Int, 0 ≤ j → j < n → (0 ≤ h1 118 j ∧ h1 118 j < D 0 2) ∧ D 10 (h1 118 j) = D 14 ((f : Int) * 3 + j) ∧ cnt (kp_ D (D 14 ((f : Int) * 3 + j))) (h1 118 j).toNat = digD D f ((i : Int) + 1) j) → Wp mX12_nextLine (kR fr 0 0) Q (0, 0) 57 [zR 98, x1, x2, zI n] [] 137 h1 by
      have := J (D 13 f - (k + 1)).toNat (k + 1).toNat _ (zI k) (zI y) (by omega) (by omega) (kW.up118 h k y) (by rw [up_n (by decide)]; exact h53) (fun j a b => by rw [up_cn (by omega)]; exact hN j a b) (fun j a b => ?_)
      · rw [show (((k + 1).toNat : Nat) : Int) = k + 1 by omega] at this
        exact this
      · by_cases c : j = k
        · rw [c, up_ci, s1]
          exact ⟨yr, yk, yc⟩
        · rw [up_cn c]
          obtain ⟨p, q, r⟩ := hW j a (by omega)
          refine ⟨p, q, ?_⟩
          rw [r]
          unfold digD
          rw [s2 _ (by omega)]
    intro e
    induction e with
    | zero =>
      intro n h1 x1 x2 hn kn k1' f53 h1n hw
      have e102 : h1 102 = h 102 := k1'.1 102 (by decide) (by decide)
      refine bX12_nextLine_57 (r3 := by rw [e102, f53, eL]; omega) (kt := fun _ => ?_) (kf := fun w => by rw [e102, f53, eL] at w; omega)
      refine bX12_nextLine_98 (hq := ?_)
      rw [← hQ]
      refine ⟨_, rfl, rfl, k1', Or.inl ⟨rfl, f, i + 1, ⟨⟨f1, by omega⟩, f53, fun j a b => ?_, h1n⟩, samP.rf D f (i + 1)⟩⟩
      rw [show ((i + 1 : Nat) : Int) = (i : Int) + 1 by omega]
      exact hw j a (by omega)
    | succ e ihe =>
      intro n h1 x1 x2 hn kn k1' f53 h1n hw
      have e102 : h1 102 = h 102 := k1'.1 102 (by decide) (by decide)
      have e3 : h1 98 3 = h 98 3 := k1'.2 3 (by decide)
      have D1 : dM h1 = D := by rw [k1'.dM, hD]
      have kkn := hk n (by omega) (by omega)
      refine bX12_nextLine_57 (r3 := by rw [e102, f53, eL]; omega) (kt := fun w => by rw [e102, f53, eL] at w; omega) (kf := fun _ => ?_)
      refine bX12_nextLine_72 (hS := by rw [f53]; exact m_kindOf (by omega) (by omega)) (kk := ?_)
      rintro x h2 ⟨e2, hx2⟩
      rw [e2]; clear e2 h2
      rw [D1] at hx2
      refine bX12_nextLine_87 (hS := m_wordBehind (by rw [D1]; exact hd) (by rw [hx2]; constructor <;> omega) (by decide) (by omega)) (kk := ?_)
      rintro z h2 ⟨e2, hz⟩
      rw [e2]; clear e2 h2
      rw [D1, hx2] at hz
      refine bX12_nextLine_91 (c1 := e118) (kk := ?_)
      rw [show (n : Int) + 1 = ((n + 1 : Nat) : Int) by omega]
      refine ihe (n + 1) _ _ _ (by omega) (by omega) (k1'.tr (kW.up118 _ _ _)) (by rw [up_n (by decide)]; exact f53) (fun j a b => by rw [up_cn (by omega)]; exact h1n j a b) (fun j a b => ?_)
      by_cases c : j = n
      · rw [c, up_ci]
        have z0 : cnt (kp_ D (D 14 ((f : Int) * 3 + n))) (-1 + 1 : Int).toNat = 0 := rfl
        rcases hz with ⟨-, z⟩ | ⟨z1, z2, z3⟩
        · have := kp n (by omega) (by omega)
          omega
        · refine ⟨z1, z2, ?_⟩
          rw [z3, z0]
          have := (rs_carry m ha).2 (D 13 f - 1 - n).toNat (by omega)
          rw [show D 13 f - 1 - (((D 13 f - 1 - (n : Int)).toNat : Nat) : Int) = n by omega] at this
          rw [this]
      · rw [up_cn c]; exact hw j a (by omega)
