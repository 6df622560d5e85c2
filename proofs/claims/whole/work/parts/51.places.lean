/-! ===== where a clap may have been: the words of both sides, and the class's Places ===== -/
def rootN : Nat → Nat
  | 0 => 0
  | n + 1 => if (rootN n + 1) * (rootN n + 1) ≤ n + 1 then rootN n + 1 else rootN n
theorem rootN_ok : ∀ n, rootN n * rootN n ≤ n ∧ n < (rootN n + 1) * (rootN n + 1)
  | 0 => by decide
  | n + 1 => by
    have h := rootN_ok n
    rw [rootN]
    by_cases c : (rootN n + 1) * (rootN n + 1) ≤ n + 1
    · rw [if_pos c]
      refine ⟨c, ?_⟩
      have : (rootN n + 1 + 1) * (rootN n + 1 + 1) = (rootN n + 1) * (rootN n + 1) + 2 * (rootN n + 1) + 1 := by
        rw [Nat.mul_add, Nat.add_mul]; omega
      omega
    · rw [if_neg c]
      omega
theorem rootN_one {n r : Nat} (h1 : r * r ≤ n) (h2 : n < (r + 1) * (r + 1)) : r = rootN n := by
  have ⟨h3, h4⟩ := rootN_ok n
  by_cases c : r < rootN n
  · have := Nat.mul_le_mul (show r + 1 ≤ rootN n from c) (show r + 1 ≤ rootN n from c)
    omega
  · by_cases c2 : rootN n < r
    · have := Nat.mul_le_mul (show rootN n + 1 ≤ r from c2) (show rootN n + 1 ≤ r from c2)
      omega
    · omega
theorem rootN_le {n : Nat} (h : n ≤ 1800) : rootN n ≤ 42 := by
  have ⟨h3, _⟩ := rootN_ok n
  by_cases c : 43 ≤ rootN n
  · have := Nat.mul_le_mul c c
    omega
  · omega
/-- how long a clap takes to an ear -/
def tick (X Y : Int → Int) (e x y : Int) : Int := rootN ((x - X e) * (x - X e) + (y - Y e) * (y - Y e)).toNat
def mat (X Y : Int → Int) (a b x y : Int) : Bool := decide (tick X Y 1 x y - tick X Y 0 x y = a ∧ tick X Y 2 x y - tick X Y 0 x y = b)
def cnt (p : Nat → Bool) (n : Nat) : Int := sg (fun i => if p i = true then 1 else 0) n
theorem cnt_rng (p : Nat → Bool) (n : Nat) : 0 ≤ cnt p n ∧ cnt p n ≤ n := by
  have := sg_rng (f := fun i => if p i = true then 1 else 0) (B := 1) (n := n) (fun i _ => by split <;> decide)
  unfold cnt
  omega
/-- place p has it, and i of those ahead of it; or none -/
def nth (p : Nat → Bool) (n : Nat) (i x : Int) : Prop := (0 ≤ i ∧ 0 ≤ x ∧ x < n ∧ p x.toNat = true ∧ cnt p x.toNat = i) ∨ (x = -1 ∧ (i < 0 ∨ cnt p n ≤ i))
def plc (X Y : Int → Int) (a b : Int) : Nat → Bool := fun k => mat X Y a b ((k : Int) % 31) ((k : Int) / 31)
def rootsC (h : AH) : Prop := ∀ y x, 0 ≤ y → y ≤ 30 → 0 ≤ x → x ≤ 30 → h 93 (y * 31 + x) = rootN (x * x + y * y).toNat
def earsIn (h : AH) (l : Int) : Prop := ∀ e, 0 ≤ e → e < 3 → (0 ≤ h (l + 4) e ∧ h (l + 4) e ≤ 30) ∧ 0 ≤ h (l + 5) e ∧ h (l + 5) e ≤ 30
theorem abs_sq (d : Int) : (if 0 ≤ d then d else 0 - d) * (if 0 ≤ d then d else 0 - d) = d * d := by
  split
  · rfl
  · rw [Int.zero_sub, Int.neg_mul_neg]
theorem sq_rng {d : Int} (h0 : -30 ≤ d) (h1 : d ≤ 30) : 0 ≤ d * d ∧ d * d ≤ 900 := by
  by_cases c : 0 ≤ d
  · have := mul_rng (a := d) (b := d) c h1 c h1
    omega
  · have := mul_rng (a := -d) (A := 30) (b := -d) (B := 30) (by omega) (by omega) (by omega) (by omega)
    rw [Int.neg_mul_neg] at this
    omega
theorem tick_rng {X Y : Int → Int} {e x y : Int} (hx : 0 ≤ X e ∧ X e ≤ 30) (hy : 0 ≤ Y e ∧ Y e ≤ 30) (x0 : 0 ≤ x ∧ x ≤ 30) (y0 : 0 ≤ y ∧ y ≤ 30) : 0 ≤ tick X Y e x y ∧ tick X Y e x y ≤ 42 := by
  have a := sq_rng (d := x - X e) (by omega) (by omega)
  have b := sq_rng (d := y - Y e) (by omega) (by omega)
  have := rootN_le (n := ((x - X e) * (x - X e) + (y - Y e) * (y - Y e)).toNat) (by omega)
  unfold tick
  omega
theorem c_ticksTo {fr : Nat} {l e x y : Int} {h : AH} (hf : 1 ≤ fr) (hc : cel 137 l (8, 8)) (hr : rootsC h) (hi : earsIn h l) (he : 0 ≤ e ∧ e < 3) (hx : 0 ≤ x ∧ x ≤ 30) (hy : 0 ≤ y ∧ y ≤ 30) : Sp mX5_ticksTo true fr 0 0 [zR 92, zR l, zI e, zI x, zI y] 137 h (rI (fun r h' => h' = h ∧ r = tick (fun e => h (l + 4) e) (fun e => h (l + 5) e) e x y)) := by
  refine Sp.mk yX5_ticksTo_ok rfl rfl ?_
  obtain ⟨i4, i5⟩ := hi e he.1 he.2
  refine bX5_ticksTo_0 (r5 := by constructor <;> split <;> split <;> omega) (hq := ⟨_, rfl, rfl, rfl, ?_⟩)
  rw [hr _ _ (by split <;> omega) (by split <;> omega) (by split <;> omega) (by split <;> omega), abs_sq, abs_sq]
  rfl
theorem c_matches {fr : Nat} {l a b x y : Int} {h : AH} (hf : 2 ≤ fr) (hc : cel 137 l (8, 8)) (hr : rootsC h) (hi : earsIn h l) (ra : R32 a) (rb : R32 b) (hx : 0 ≤ x ∧ x ≤ 30) (hy : 0 ≤ y ∧ y ≤ 30) : Sp mX5_matches true fr 0 0 [zR 92, zR l, zI a, zI b, zI x, zI y] 137 h (rI (fun r h' => h' = h ∧ r = if mat (fun e => h (l + 4) e) (fun e => h (l + 5) e) a b x y = true then 1 else 0)) := by
  refine Sp.mk yX5_matches_ok rfl rfl ?_
  have g0 := tick_rng (X := fun e => h (l + 4) e) (Y := fun e => h (l + 5) e) (e := 0) (hi 0 (by decide) (by decide)).1 (hi 0 (by decide) (by decide)).2 hx hy
  have g1 := tick_rng (X := fun e => h (l + 4) e) (Y := fun e => h (l + 5) e) (e := 1) (hi 1 (by decide) (by decide)).1 (hi 1 (by decide) (by decide)).2 hx hy
  have g2 := tick_rng (X := fun e => h (l + 4) e) (Y := fun e => h (l + 5) e) (e := 2) (hi 2 (by decide) (by decide)).1 (hi 2 (by decide) (by decide)).2 hx hy
  obtain ⟨ra1, ra2⟩ := ra
  obtain ⟨rb1, rb2⟩ := rb
  refine bX5_matches_0 (hS := c_ticksTo (by omega) hc hr hi (by decide) hx hy) (kk := ?_)
  rintro t0 h1 ⟨e1, h0⟩
  rw [e1]; clear e1 h1
  refine bX5_matches_10 (hS := c_ticksTo (by omega) hc hr hi (by decide) hx hy) (kk := ?_)
  rintro t1 h1 ⟨e1, h11⟩
  rw [e1]; clear e1 h1
  refine bX5_matches_22 (kt := fun q => ?_) (kf := fun q => ?_)
  · refine bX5_matches_50 (kk := bX5_matches_51 (hq := ⟨_, rfl, rfl, rfl, ?_⟩))
    rw [if_neg (fun z => by unfold mat at z; have := of_decide_eq_true z; omega)]
  refine bX5_matches_29 (hS := c_ticksTo (by omega) hc hr hi (by decide) hx hy) (kk := ?_)
  rintro t2 h1 ⟨e1, h2⟩
  rw [e1]; clear e1 h1
  refine bX5_matches_39 (kt := fun q2 => ?_) (kf := fun q2 => ?_)
  · refine bX5_matches_50 (kk := bX5_matches_51 (hq := ⟨_, rfl, rfl, rfl, ?_⟩))
    rw [if_neg (fun z => by unfold mat at z; have := of_decide_eq_true z; omega)]
  · refine bX5_matches_46 (kk := bX5_matches_51 (hq := ⟨_, rfl, rfl, rfl, ?_⟩))
    rw [if_pos (by unfold mat; exact decide_eq_true ⟨by omega, by omega⟩)]
theorem c_countMatching {fr : Nat} {l a b : Int} {h : AH} (hf : 3 ≤ fr) (hc : cel 137 l (8, 8)) (hr : rootsC h) (hi : earsIn h l) (ra : R32 a) (rb : R32 b) : Sp mX5_countMatching true fr 0 0 [zR 92, zR l, zI a, zI b] 137 h (rI (fun r h' => h' = h ∧ r = cnt (plc (fun e => h (l + 4) e) (fun e => h (l + 5) e) a b) 961)) := by
  refine Sp.mk yX5_countMatching_ok rfl rfl ?_
  refine bX5_countMatching_0 (kk := ?_)
  suffices H : ∀ (d k : Nat), k + d = 961 → Wp mX5_countMatching (kR fr 0 0) (rI (fun r h' => h' = h ∧ r = cnt (plc (fun e => h (l + 4) e) (fun e => h (l + 5) e) a b) 961)) (0, 0) 6 [zR 92, zR l, zI a, zI b, zI (cnt (plc (fun e => h (l + 4) e) (fun e => h (l + 5) e) a b) k), zI k] [] 137 h by
    exact H 961 0 (by omega)
  intro d
  induction d with
  | zero =>
    intro k hk
    refine bX5_countMatching_6 (kt := fun q => ?_) (kf := fun q => by omega)
    exact bX5_countMatching_43 (hq := ⟨_, rfl, rfl, rfl, by rw [show k = 961 by omega]⟩)
  | succ d ih =>
    intro k hk
    refine bX5_countMatching_6 (kt := fun q => by omega) (kf := fun q => ?_)
    refine bX5_countMatching_14 (hS := c_matches (by omega) hc hr hi ra rb (by omega) (by omega)) (kk := ?_)
    rintro r h1 ⟨e1, hr1⟩
    rw [e1]; clear e1 h1
    have := ih (k + 1) (by omega)
    have st : cnt (plc (fun e => h (l + 4) e) (fun e => h (l + 5) e) a b) (k + 1) = cnt (plc (fun e => h (l + 4) e) (fun e => h (l + 5) e) a b) k + r := by
      rw [hr1]; rfl
    rw [st] at this
    refine bX5_countMatching_31 (r1 := by rw [hr1]; split <;> decide) (kt := fun q2 => ?_) (kf := fun q2 => ?_)
    · rw [q2, Int.add_zero] at this
      exact bX5_countMatching_37 (kk := this)
    · have r1 : r = 1 := by
        by_cases c : mat (fun e => h (l + 4) e) (fun e => h (l + 5) e) a b ((k : Int) % 31) ((k : Int) / 31) = true
        · rw [if_pos c] at hr1; exact hr1
        · rw [if_neg c] at hr1; exact absurd hr1 q2
      rw [r1] at this
      exact bX5_countMatching_34 (kk := bX5_countMatching_37 (kk := this))
theorem c_findMatching {fr : Nat} {l a b i : Int} {h : AH} (hf : 3 ≤ fr) (hc : cel 137 l (8, 8)) (hr : rootsC h) (hi : earsIn h l) (ra : R32 a) (rb : R32 b) (ri : R32 i) : Sp mX5_findMatching true fr 0 0 [zR 92, zR l, zI a, zI b, zI i] 137 h (rI (fun r h' => h' = h ∧ nth (plc (fun e => h (l + 4) e) (fun e => h (l + 5) e) a b) 961 i r)) := by
  refine Sp.mk yX5_findMatching_ok rfl rfl ?_
  obtain ⟨ri1, ri2⟩ := ri
  refine bX5_findMatching_0 (kt := fun q => ?_) (kf := fun q => bX5_findMatching_5 (hq := ⟨_, rfl, rfl, rfl, Or.inr ⟨rfl, Or.inl q⟩⟩))
  refine bX5_findMatching_7 (kk := ?_)
  suffices H : ∀ (d k : Nat) (j : Int) (x4 : AV), k + d = 961 → j = i - cnt (plc (fun e => h (l + 4) e) (fun e => h (l + 5) e) a b) k → 0 ≤ j → Wp mX5_findMatching (kR fr 0 0) (rI (fun r h' => h' = h ∧ nth (plc (fun e => h (l + 4) e) (fun e => h (l + 5) e) a b) 961 i r)) (0, 0) 14 [zR 92, zR l, zI a, zI b, x4, zI j, zI k] [] 137 h by
    exact H 961 0 i _ (by omega) (show i = i - 0 by omega) q
  intro d
  induction d with
  | zero =>
    intro k j x4 hk hj j0
    refine bX5_findMatching_14 (kt := fun q => ?_) (kf := fun q => by omega)
    exact bX5_findMatching_59 (hq := ⟨_, rfl, rfl, rfl, Or.inr ⟨rfl, Or.inr (by rw [show 961 = k by omega]; omega)⟩⟩)
  | succ d ih =>
    intro k j x4 hk hj j0
    have hcr := cnt_rng (plc (fun e => h (l + 4) e) (fun e => h (l + 5) e) a b) k
    refine bX5_findMatching_14 (kt := fun q => by omega) (kf := fun q => ?_)
    refine bX5_findMatching_22 (hS := c_matches (by omega) hc hr hi ra rb (by omega) (by omega)) (kk := ?_)
    rintro r h1 ⟨e1, hr1⟩
    rw [e1]; clear e1 h1
    have st : cnt (plc (fun e => h (l + 4) e) (fun e => h (l + 5) e) a b) (k + 1) = cnt (plc (fun e => h (l + 4) e) (fun e => h (l + 5) e) a b) k + r := by
      rw [hr1]; rfl
    refine bX5_findMatching_39 (r1 := by rw [hr1]; split <;> decide) (kt := fun q2 => ?_) (kf := fun q2 => ?_)
    · exact bX5_findMatching_53 (kk := ih (k + 1) j _ (by omega) (by omega) j0)
    · have r1 : r = 1 := by
        by_cases c : mat (fun e => h (l + 4) e) (fun e => h (l + 5) e) a b ((k : Int) % 31) ((k : Int) / 31) = true
        · rw [if_pos c] at hr1; exact hr1
        · rw [if_neg c] at hr1; exact absurd hr1 q2
      have hm : plc (fun e => h (l + 4) e) (fun e => h (l + 5) e) a b k = true := by
        by_cases c : mat (fun e => h (l + 4) e) (fun e => h (l + 5) e) a b ((k : Int) % 31) ((k : Int) / 31) = true
        · exact c
        · rw [if_neg c] at hr1; omega
      refine bX5_findMatching_42 (kt := fun q3 => ?_) (kf := fun q3 => ?_)
      · exact bX5_findMatching_50 (kk := bX5_findMatching_53 (kk := ih (k + 1) (j + (-1)) _ (by omega) (by omega) (by omega)))
      · exact bX5_findMatching_47 (hq := ⟨_, rfl, rfl, rfl, Or.inl ⟨by omega, by omega, by omega, hm, by show cnt _ k = i; omega⟩⟩)
