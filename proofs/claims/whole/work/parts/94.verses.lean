/-! ===== lines: words; the class lays words on what was heard ===== -/
def fitW (D : DT) (B : Int → Int) (w p : Int) : Prop := ∀ i, 0 ≤ i → i < D 11 w → B (p + i) = D 12 (w * 4 + i)
def reach (D : DT) (B : Int → Int) (n f : Int) : Nat → Int → Prop
  | 0, p => p = 0
  | k + 1, p => ∃ w q, (0 ≤ w ∧ w < D 0 2) ∧ D 10 w = D 14 (f * 3 + k) ∧ reach D B n f k q ∧ fitW D B w q ∧ p = q + D 11 w ∧ p ≤ n
def isLineB (D : DT) (B : Int → Int) (n : Int) : Prop := ∃ f, (0 ≤ f ∧ f < D 0 3) ∧ reach D B n f (D 13 f).toNat n
def reachL (D : DT) (f : Int) : Nat → Int → Prop
  | 0, p => p = 0
  | k + 1, p => ∃ w q, (0 ≤ w ∧ w < D 0 2) ∧ D 10 w = D 14 (f * 3 + k) ∧ reachL D f k q ∧ p = q + D 11 w
theorem reach.len {D : DT} {B : Int → Int} {n f : Int} : ∀ {k : Nat} {p : Int}, reach D B n f k p → reachL D f k p
  | 0, _, h => h
  | k + 1, _, h => by
    obtain ⟨w, q, a, b, c, -, e, -⟩ := h
    exact ⟨w, q, a, b, reach.len c, e⟩
theorem reachL.rng {D : DT} {f : Int} (hd : okD D) : ∀ {k : Nat} {p : Int}, reachL D f k p → k ≤ p ∧ p ≤ 4 * k
  | 0, _, h => by have : _ = (0 : Int) := h; omega
  | k + 1, _, h => by
    obtain ⟨w, q, a, b, c, e⟩ := h
    have := reachL.rng hd c
    have := (hd.2.2.2.2.2.2.2.2.2.2.2.2.2.1 w a.1 a.2).2.1
    omega
theorem reach.rng {D : DT} {B : Int → Int} {n f : Int} (hd : okD D) (n0 : 0 ≤ n) {k : Nat} {p : Int} (h : reach D B n f k p) : 0 ≤ p ∧ p ≤ n := by
  have a := reachL.rng hd h.len
  cases k with
  | zero => have : p = 0 := h; omega
  | succ k =>
    obtain ⟨w, q, -, -, -, -, -, e⟩ := h
    omega
theorem reach.none {D : DT} {B : Int → Int} {n f : Int} {k : Nat} (h : ∀ q, ¬ reach D B n f k q) : ∀ {m : Nat}, k ≤ m → ∀ q, ¬ reach D B n f m q
  | 0, hm, q => by have : k = 0 := by omega
                   subst this; exact h q
  | m + 1, hm, q => by
    by_cases e : k = m + 1
    · rw [← e]; exact h q
    · rintro ⟨w, q', -, -, c, -⟩
      exact reach.none h (m := m) (by omega) q' c
theorem fitW.cong {D : DT} {B C : Int → Int} {w p n : Int} (e : ∀ i, 0 ≤ i → i < n → B i = C i) (p0 : 0 ≤ p) (hp : p + D 11 w ≤ n) (h : fitW D B w p) : fitW D C w p := fun i a b => by rw [← e (p + i) (by omega) (by omega)]; exact h i a b
theorem reach.cong {D : DT} {B C : Int → Int} {n f : Int} (hd : okD D) (n0 : 0 ≤ n) (e : ∀ i, 0 ≤ i → i < n → B i = C i) : ∀ {k : Nat} {p : Int}, reach D B n f k p → reach D C n f k p
  | 0, _, h => h
  | k + 1, _, h => by
    obtain ⟨w, q, a, b, c, d, g, i⟩ := h
    exact ⟨w, q, a, b, reach.cong hd n0 e c, d.cong e (c.rng hd n0).1 (by omega), g, i⟩
theorem isLineB.cong {D : DT} {B C : Int → Int} {n : Int} (hd : okD D) (n0 : 0 ≤ n) (e : ∀ i, 0 ≤ i → i < n → B i = C i) (h : isLineB D B n) : isLineB D C n := by
  obtain ⟨f, a, b⟩ := h
  exact ⟨f, a, b.cong hd n0 e⟩
def lensM (D : DT) (L : Int) : Prop := m16 L ∧ ∀ j : Nat, bt L j = true ↔ ∃ f, (0 ≤ f ∧ f < D 0 3) ∧ reachL D f (D 13 f).toNat j
abbrev kp_ (D : DT) (k : Int) : Nat → Bool := fun w => decide (D 10 w = k)
def vtab (h : AH) (D : DT) : Prop := ∀ k, 0 ≤ k → k < 4 → h 71 k = kindsD D k ∧ ∀ j, 0 ≤ j → j < kindsD D k → (0 ≤ h 72 (k * 8 + j) ∧ h 72 (k * 8 + j) < D 0 2) ∧ D 10 (h 72 (k * 8 + j)) = k ∧ cnt (kp_ D k) (h 72 (k * 8 + j)).toNat = j
theorem nth_one {p : Nat → Bool} {a b : Nat} (ha : p a = true) (hb : p b = true) (e : cnt p a = cnt p b) : a = b := by
  rcases Nat.lt_trichotomy a b with c | c | c
  · have := cnt_lt c ha; omega
  · exact c
  · have := cnt_lt c hb; omega
theorem kindsD_rng {D : DT} (hd : okD D) (k : Int) : 0 ≤ kindsD D k ∧ kindsD D k ≤ 8 := by
  have q := cnt_rng (kp_ D k) (D 0 2).toNat
  have := hd.2.2.1
  exact ⟨q.1, Int.le_trans q.2 (by omega)⟩
theorem vtab.all {h : AH} {D : DT} (hv : vtab h D) {k w : Int} (k0 : 0 ≤ k) (k4 : k < 4) (w0 : 0 ≤ w) (w1 : w < D 0 2) (hw : D 10 w = k) : ∃ j, (0 ≤ j ∧ j < kindsD D k) ∧ h 72 (k * 8 + j) = w := by
  have pw : kp_ D k w.toNat = true := decide_eq_true (by rw [show ((w.toNat : Nat) : Int) = w by omega]; exact hw)
  have j0 := cnt_rng (kp_ D k) w.toNat
  have j1 : cnt (kp_ D k) w.toNat < kindsD D k := cnt_lt (show w.toNat < (D 0 2).toNat by omega) pw
  refine ⟨cnt (kp_ D k) w.toNat, ⟨j0.1, j1⟩, ?_⟩
  obtain ⟨a, b, c⟩ := (hv k k0 k4).2 _ j0.1 j1
  have q : kp_ D k (h 72 (k * 8 + cnt (kp_ D k) w.toNat)).toNat = true := decide_eq_true (by rw [show (((h 72 (k * 8 + cnt (kp_ D k) w.toNat)).toNat : Nat) : Int) = h 72 (k * 8 + cnt (kp_ D k) w.toNat) by omega]; exact b)
  have := nth_one q pw c
  omega
theorem shl16 {y : Int} {l : Int} (hy : m16 y) (l0 : 0 ≤ l) (hb : ∀ j : Nat, bt y j = true → (j : Int) + l ≤ 12) : m16 (y * 2 ^ l.toNat) ∧ ∀ p : Nat, bt (y * 2 ^ l.toNat) p = true ↔ ∃ q : Nat, bt y q = true ∧ (p : Int) = q + l := by
  obtain ⟨m, hm, rfl⟩ := m16_nat hy
  obtain ⟨k, rfl⟩ : ∃ k : Nat, l = k := ⟨l.toNat, by omega⟩
  have e : (m : Int) * 2 ^ ((k : Int)).toNat = ((m * 2 ^ k : Nat) : Int) := by rw [Int.toNat_natCast, pow_nat]; push_cast; rfl
  rw [e]
  have bits : ∀ p : Nat, bt ((m * 2 ^ k : Nat) : Int) p = true ↔ ∃ q : Nat, bt (m : Int) q = true ∧ (p : Int) = q + k := fun p => by
    unfold bt
    rw [Int.toNat_natCast, Int.toNat_natCast, Nat.testBit_mul_two_pow]
    constructor
    · intro z
      have z' : p ≥ k ∧ m.testBit (p - k) = true := by simpa using z
      exact ⟨p - k, z'.2, by omega⟩
    · rintro ⟨q, a, b⟩
      have : p - k = q := by omega
      rw [this, a]
      simp
      omega
  refine ⟨⟨by omega, ?_⟩, bits⟩
  have : m * 2 ^ k < 2 ^ 13 := Nat.lt_pow_two_of_testBit _ (fun j hj => by
    cases e : (m * 2 ^ k).testBit j with
    | false => rfl
    | true =>
      obtain ⟨q, a, b⟩ := (bits j).mp (by unfold bt; rw [Int.toNat_natCast]; exact e)
      have := hb q a
      omega)
  omega
abbrev dV (h : AH) : DT := dC h (h 55 0)
theorem dV0 (h : AH) (i : Int) : dV h 0 i = h (h 55 0) i := dC0 h (h 55 0) i
theorem wordD {h : AH} (hd : okD (dV h)) {w : Int} (w0 : 0 ≤ w) (w1 : w < h (h 55 0) 2) : (w < 8 ∧ 0 ≤ h (h 55 0 + 10) w ∧ h (h 55 0 + 10) w ≤ 3) ∧ (1 ≤ h (h 55 0 + 11) w ∧ h (h 55 0 + 11) w ≤ 4) ∧ ∀ i, 0 ≤ i → i < h (h 55 0 + 11) w → 0 ≤ h (h 55 0 + 12) (w * 4 + i) ∧ h (h 55 0 + 12) (w * 4 + i) < 8 := by
  have a := hd.2.2.2.2.2.2.2.2.2.2.2.2.2.1 w w0 (by rw [dV0]; exact w1)
  have b := hd.2.2.1
  have c := hd.1
  rw [dV0] at b c
  refine ⟨⟨by omega, a.1⟩, a.2.1, fun i p q => ?_⟩
  have := a.2.2 i p q
  rw [dV0] at this
  exact ⟨this.1, Int.lt_of_lt_of_le this.2 c.2⟩
theorem c_fitsAt {fr : Nat} {w p : Int} {h : AH} (hg : isG (h 55 0)) (hd : okD (dV h)) (w0 : 0 ≤ w) (w1 : w < h (h 55 0) 2) (p0 : 0 ≤ p) (p1 : p + h (h 55 0 + 11) w ≤ 12) (r78 : ∀ i, 0 ≤ i → i < 12 → 0 ≤ h 78 i ∧ h 78 i < 8) :
    Sp mX10_fitsAt true fr 0 0 [zR 55, zI w, zI p] 137 h (rI (fun x h' => h' = h ∧ ((x = 1 ∧ fitW (dV h) (h 78) w p) ∨ (x = 0 ∧ ¬ fitW (dV h) (h 78) w p)))) := by
  refine Sp.mk yX10_fitsAt_ok rfl rfl ?_
  have cg := hg.cel
  obtain ⟨⟨w8, -⟩, hl, hs⟩ := wordD hd w0 w1
  refine bX10_fitsAt_0 (kk := ?_)
  suffices H : ∀ (d : Nat) (i : Int), 0 ≤ i → i + d = h (h 55 0 + 11) w → (∀ j, 0 ≤ j → j < i → h 78 (p + j) = h (h 55 0 + 12) (w * 4 + j)) → Wp mX10_fitsAt (kR fr 0 0) (rI (fun x h' => h' = h ∧ ((x = 1 ∧ fitW (dV h) (h 78) w p) ∨ (x = 0 ∧ ¬ fitW (dV h) (h 78) w p)))) (0, 0) 2 [zR 55, zI w, zI p, zI i] [] 137 h by
    exact H (h (h 55 0 + 11) w).toNat 0 (by decide) (by omega) (fun j a b => by omega)
  intro d
  induction d with
  | zero =>
    intro i i0 hi ha
    refine bX10_fitsAt_2 (kt := fun _ => ?_) (kf := fun q => by omega)
    exact bX10_fitsAt_47 (hq := ⟨_, rfl, rfl, rfl, Or.inl ⟨rfl, fun j a b => ha j a (by have : j < h (h 55 0 + 11) w := b; omega)⟩⟩)
  | succ d ih =>
    intro i i0 hi ha
    have v := r78 (p + i) (by omega) (by omega)
    have u := hs i i0 (by omega)
    refine bX10_fitsAt_2 (kt := fun q => by omega) (kf := fun _ => ?_)
    refine bX10_fitsAt_15 (kt := fun q => ?_) (kf := fun q => ?_)
    · refine bX10_fitsAt_41 (kk := ih (i + 1) (by omega) (by omega) (fun j a b => ?_))
      by_cases e : j = i
      · rw [e]; exact q
      · exact ha j a (by omega)
    · exact bX10_fitsAt_39 (hq := ⟨_, rfl, rfl, rfl, Or.inr ⟨rfl, fun z => q (z i i0 (show i < h (h 55 0 + 11) w by omega))⟩⟩)
def fitsM (D : DT) (B : Int → Int) (n w x : Int) : Prop := m16 x ∧ ∀ j : Nat, bt x j = true ↔ ((j : Int) + D 11 w ≤ n ∧ fitW D B w j)
theorem c_fittingPlaces {fr : Nat} {w : Int} {h : AH} (hf : 1 ≤ fr) (hg : isG (h 55 0)) (hd : okD (dV h)) (w0 : 0 ≤ w) (w1 : w < h (h 55 0) 2) (hn : 0 ≤ h 55 14 ∧ h 55 14 ≤ 12) (r78 : ∀ i, 0 ≤ i → i < 12 → 0 ≤ h 78 i ∧ h 78 i < 8) :
    Sp mX10_fittingPlaces true fr 0 0 [zR 55, zI w] 137 h (rI (fun x h' => h' = h ∧ fitsM (dV h) (h 78) (h 55 14) w x)) := by
  refine Sp.mk yX10_fittingPlaces_ok rfl rfl ?_
  have cg := hg.cel
  obtain ⟨⟨w8, -⟩, hl, hs⟩ := wordD hd w0 w1
  refine bX10_fittingPlaces_0 (kk := ?_)
  suffices H : ∀ (d p : Nat) (x : Int), (p : Int) + d = 13 → m16 x → (∀ j : Nat, bt x j = true ↔ (j < p ∧ (j : Int) + h (h 55 0 + 11) w ≤ h 55 14 ∧ fitW (dV h) (h 78) w j)) → Wp mX10_fittingPlaces (kR fr 0 0) (rI (fun x h' => h' = h ∧ fitsM (dV h) (h 78) (h 55 14) w x)) (0, 0) 4 [zR 55, zI w, zI x, zI p] [] 137 h by
    exact H 13 0 0 (by decide) (by constructor <;> decide) (fun j => by rw [bt_zero]; exact ⟨fun z => absurd z (by decide), fun z => by omega⟩)
  intro d
  induction d with
  | zero =>
    intro p x hp mx hb
    refine bX10_fittingPlaces_4 (kt := fun _ => ?_) (kf := fun q => by omega)
    refine bX10_fittingPlaces_43 (hq := ⟨_, rfl, rfl, rfl, mx, fun j => ?_⟩)
    rw [hb]
    exact ⟨fun z => z.2, fun z => ⟨by have : (j : Int) + h (h 55 0 + 11) w ≤ h 55 14 := z.1; omega, z⟩⟩
  | succ d ih =>
    intro p x hp mx hb
    refine bX10_fittingPlaces_4 (kt := fun q => ?_) (kf := fun q => ?_)
    · refine bX10_fittingPlaces_43 (hq := ⟨_, rfl, rfl, rfl, mx, fun j => ?_⟩)
      rw [hb]
      exact ⟨fun z => z.2, fun z => ⟨by have : (j : Int) + h (h 55 0 + 11) w ≤ h 55 14 := z.1; omega, z⟩⟩
    refine bX10_fittingPlaces_22 (hS := c_fitsAt hg hd w0 w1 (by omega) (by omega) r78) (kk := ?_)
    rintro r h1 ⟨e1, hr⟩
    rw [e1]; clear e1 h1
    refine bX10_fittingPlaces_28 (r1 := by rcases hr with z | z <;> omega) (kt := fun c => ?_) (kf := fun c => ?_)
    · rcases hr with ⟨c', -⟩ | ⟨-, no⟩
      · omega
      refine bX10_fittingPlaces_37 (kk := ?_)
      refine ih (p + 1) x (by omega) mx (fun j => ?_)
      rw [hb]
      constructor
      · exact fun z => ⟨by omega, z.2⟩
      · intro z
        refine ⟨?_, z.2⟩
        by_cases e : j = p
        · rw [e] at z; exact absurd z.2.2 no
        · omega
    · rcases hr with ⟨-, yes⟩ | ⟨c', -⟩
      rotate_left
      · exact absurd c' c
      obtain ⟨o1, o2⟩ := one16 (s := (p : Int)) (by omega) (by omega)
      obtain ⟨q1, q2⟩ := or16 mx o1
      refine bX10_fittingPlaces_31 (kk := bX10_fittingPlaces_37 (kk := ?_))
      refine ih (p + 1) _ (by omega) q1 (fun j => ?_)
      rw [q2, o2, Bool.or_eq_true, hb, decide_eq_true_eq]
      constructor
      · rintro (z | z)
        · exact ⟨by omega, z.2⟩
        · have : j = p := by omega
          rw [this]; exact ⟨by omega, q, yes⟩
      · intro z
        by_cases e : j = p
        · exact Or.inr (by omega)
        · exact Or.inl ⟨by omega, z.2⟩
theorem c_layKind {fr : Nat} {k r : Int} {h : AH} (hg : isG (h 55 0)) (hd : okD (dV h)) (hv : vtab h (dV h)) (k0 : 0 ≤ k) (k4 : k < 4) (hr : m16 r) (hn : 0 ≤ h 55 14 ∧ h 55 14 ≤ 12) (hfit : ∀ w, 0 ≤ w → w < h (h 55 0) 2 → fitsM (dV h) (h 78) (h 55 14) w (h 79 w)) :
    Sp mX10_layKind true fr 0 0 [zR 55, zI k, zI r] 137 h (rI (fun x h' => h' = h ∧ m16 x ∧ ∀ p : Nat, bt x p = true ↔ ∃ w, ((0 ≤ w ∧ w < dV h 0 2) ∧ dV h 10 w = k) ∧ ∃ q : Nat, bt r q = true ∧ fitW (dV h) (h 78) w q ∧ (p : Int) = q + dV h 11 w ∧ (p : Int) ≤ h 55 14)) := by
  refine Sp.mk yX10_layKind_ok rfl rfl ?_
  have cg := hg.cel
  have kr := kindsD_rng hd k
  obtain ⟨e71, e72⟩ := hv k k0 k4
  refine bX10_layKind_0 (kk := ?_)
  suffices H : ∀ (d : Nat) (j x : Int) (x5 : AV), 0 ≤ j → j + d = kindsD (dV h) k → m16 x → (∀ p : Nat, bt x p = true ↔ ∃ i, (0 ≤ i ∧ i < j) ∧ ∃ q : Nat, bt r q = true ∧ fitW (dV h) (h 78) (h 72 (k * 8 + i)) q ∧ (p : Int) = q + dV h 11 (h 72 (k * 8 + i)) ∧ (p : Int) ≤ h 55 14) → Wp mX10_layKind (kR fr 0 0) (rI (fun x h' => h' = h ∧ m16 x ∧ ∀ p : Nat, bt x p = true ↔ ∃ w, ((0 ≤ w ∧ w < dV h 0 2) ∧ dV h 10 w = k) ∧ ∃ q : Nat, bt r q = true ∧ fitW (dV h) (h 78) w q ∧ (p : Int) = q + dV h 11 w ∧ (p : Int) ≤ h 55 14)) (0, 0) 5 [zR 55, zI k, zI r, zI x, zI j, x5] [] 137 h by
    refine H (kindsD (dV h) k).toNat 0 0 _ (by decide) (by omega) (by constructor <;> decide) (fun p => ?_)
    rw [bt_zero]
    refine ⟨fun z => absurd z (by decide), fun z => ?_⟩
    obtain ⟨i, a, -⟩ := z
    omega
  intro d
  induction d with
  | zero =>
    intro j x x5 j0 hj mx hb
    refine bX10_layKind_5 (r3 := by rw [e71]; omega) (kt := fun _ => ?_) (kf := fun q => by rw [e71] at q; omega)
    refine bX10_layKind_59 (hq := ⟨_, rfl, rfl, rfl, mx, fun p => ?_⟩)
    rw [hb]
    constructor
    · rintro ⟨i, a, q, b⟩
      obtain ⟨c1, c2, -⟩ := e72 i a.1 (by omega)
      exact ⟨_, ⟨c1, c2⟩, q, b⟩
    · rintro ⟨w, ⟨a1, a2⟩, q, b⟩
      obtain ⟨i, c, e⟩ := hv.all k0 k4 a1.1 a1.2 a2
      exact ⟨i, by omega, q, by rw [e]; exact b⟩
  | succ d ih =>
    intro j x x5 j0 hj mx hb
    obtain ⟨c1, c2, -⟩ := e72 j j0 (by omega)
    rw [dV0] at c1
    obtain ⟨⟨w8, -⟩, hl, hs⟩ := wordD hd c1.1 c1.2
    obtain ⟨f1, f2⟩ := hfit _ c1.1 c1.2
    obtain ⟨a1, a2⟩ := and16 hr f1
    obtain ⟨s1, s2⟩ := shl16 a1 (l := h (h 55 0 + 11) (h 72 (k * 8 + j))) (by omega) (fun i hi => by
      rw [a2, Bool.and_eq_true, f2] at hi
      have : (i : Int) + h (h 55 0 + 11) (h 72 (k * 8 + j)) ≤ h 55 14 := hi.2.1
      omega)
    obtain ⟨o1, o2⟩ := or16 mx s1
    refine bX10_layKind_5 (r3 := by rw [e71]; omega) (kt := fun q => by rw [e71] at q; omega) (kf := fun _ => ?_)
    refine bX10_layKind_16 (kk := ih (j + 1) _ _ (by omega) (by omega) o1 (fun p => ?_))
    rw [o2, Bool.or_eq_true, hb, s2]
    constructor
    · rintro (⟨i, a, b⟩ | ⟨q, b, e⟩)
      · exact ⟨i, by omega, b⟩
      · rw [a2, Bool.and_eq_true, f2] at b
        refine ⟨j, by omega, q, b.1, b.2.2, e, ?_⟩
        have : (q : Int) + h (h 55 0 + 11) (h 72 (k * 8 + j)) ≤ h 55 14 := b.2.1
        omega
    · rintro ⟨i, a, q, b1, b2, b3, b4⟩
      by_cases e : i = j
      · rw [e] at b2 b3
        refine Or.inr ⟨q, ?_, b3⟩
        rw [a2, Bool.and_eq_true, f2]
        exact ⟨b1, by rw [← b3]; exact b4, b2⟩
      · exact Or.inl ⟨i, by omega, q, b1, b2, b3, b4⟩
