/-! ===== rivals: words; the class's take ===== -/
theorem cntN_ex (R : Int → Prop) : ∃ n : Int, n = cnt (fun y => cl (R y)) 1048576 := ⟨_, rfl⟩
noncomputable def cntN (R : Int → Prop) : Int := Classical.choose (cntN_ex R)
theorem cntN_eq (R : Int → Prop) : cntN R = cnt (fun y => cl (R y)) 1048576 := Classical.choose_spec (cntN_ex R)
theorem cntN_cong {S T : Int → Prop} (e : ∀ y, m20 y → (S y ↔ T y)) : cntN S = cntN T := by
  rw [cntN_eq, cntN_eq]
  refine cnt_cong (fun y hy => ?_)
  have := e y ⟨by omega, by omega⟩
  by_cases c : S y
  · rw [cl_pos c, cl_pos (this.mp c)]
  · rw [cl_neg c, cl_neg (fun z => c (this.mpr z))]
theorem cntN_or {S : Int → Prop} {y : Int} (hy : m20 y) (hn : ¬ S y) : cntN (fun z => S z ∨ z = y) = cntN S + 1 := by
  obtain ⟨y0, y1⟩ := hy
  have h1 : (1 : Int) = sg (fun z => if z = y.toNat then 1 else 0) 1048576 := by rw [sg_one, if_pos (by omega)]
  rw [h1, cntN_eq, cntN_eq]
  unfold cnt
  rw [← sg_add]
  refine sg_cong (fun z _ => ?_)
  by_cases e : (z : Int) = y
  · rw [if_pos (c := z = y.toNat) (by omega)]
    simp only [e]
    rw [cl_pos (Or.inr trivial), cl_neg hn]
    rfl
  · rw [if_neg (c := z = y.toNat) (by omega)]
    by_cases c : S z
    · rw [if_pos (cl_pos (Or.inl c)), if_pos (cl_pos c)]; rfl
    · have q : cl (S z ∨ (z : Int) = y) = false := cl_neg (fun w => w.elim c e)
      have q' : cl (S z) = false := cl_neg c
      rw [if_neg (by show ¬ cl (S z ∨ (z : Int) = y) = true; rw [q]; decide), if_neg (by show ¬ cl (S z) = true; rw [q']; decide)]; rfl
theorem cntN_pos {S : Int → Prop} {y : Int} (hy : m20 y) (h : S y) : 0 < cntN S := by
  obtain ⟨y0, y1⟩ := hy
  rw [cntN_eq]
  exact cnt_pos (p := fun y : Nat => cl (S y)) (n := 1048576) (y := y.toNat) (by omega) (by rw [show ((y.toNat : Nat) : Int) = y by omega]; exact cl_pos h)
theorem cntN_none {S : Int → Prop} (h : ∀ y, m20 y → ¬ S y) : cntN S = 0 := by
  rw [cntN_eq]
  exact sg_zero (fun i hi => by rw [if_neg (by show ¬ cl (S i) = true; rw [cl_neg (h i ⟨by omega, by omega⟩)]; decide)])
theorem cntN_rng (S : Int → Prop) : 0 ≤ cntN S ∧ cntN S ≤ 1048576 := by rw [cntN_eq]; exact cnt_rng _ _
def andR (R : Int → Prop) (x : Int) : Prop := m20 x ∧ ∀ j, bt x j = true ↔ ∀ y, R y → bt y j = true
def orR (R : Int → Prop) (x : Int) : Prop := m20 x ∧ ∀ j, bt x j = true ↔ ∃ y, R y ∧ bt y j = true
def fstR (R : Int → Prop) (x : Int) : Prop := R x ∧ ∀ y, R y → pop x 31 < pop y 31 ∨ (pop x 31 = pop y 31 ∧ x ≤ y)
noncomputable def keyN (R : Int → Prop) (w : Nat) (y : Int) : Int := cntN (fun q => R q ∧ q / 2 ^ w = y / 2 ^ w)
/-- what stands of the rivals R -/
def tkR (R : Int → Prop) (w : Nat) (h : AH) : Prop := (h 83 0 = cntN R ∧ orR R (h 83 2) ∧ ∀ y, R y → m20 y) ∧
  (((∀ y, ¬ R y) ∧ h 83 1 = -1 ∧ h 83 3 = -1 ∧ h 82 5 = 0) ∨
   ∃ y0, R y0 ∧ (∀ y, R y → y ≤ y0) ∧ andR R (h 83 1) ∧ (fstR R (h 83 3) ∧ h 82 4 = pop (h 83 3) 31) ∧ h 82 7 = y0 / 2 ^ w ∧ h 82 6 = keyN R w y0 ∧ (∃ y, R y ∧ h 82 5 = keyN R w y) ∧ ∀ y, R y → keyN R w y ≤ h 82 5)
theorem tkR.cong {R S : Int → Prop} {w : Nat} {h : AH} (e : ∀ y, R y ↔ S y) (ht : tkR R w h) : tkR S w h := by
  rw [show S = R from funext fun y => propext (e y).symm]; exact ht
theorem andR.add {R : Int → Prop} {x y : Int} (hy : m20 y) (h : andR R x) : andR (fun z => R z ∨ z = y) (bAnd x y) := by
  obtain ⟨a, b⟩ := and20 h.1 hy
  refine ⟨a, fun j => ?_⟩
  rw [b, Bool.and_eq_true, h.2 j]
  constructor
  · rintro ⟨p, q⟩ z (w | w)
    · exact p z w
    · rw [w]; exact q
  · exact fun p => ⟨fun z w => p z (Or.inl w), p y (Or.inr rfl)⟩
theorem orR.add {R : Int → Prop} {x y : Int} (hy : m20 y) (h : orR R x) : orR (fun z => R z ∨ z = y) (bOr x y) := by
  obtain ⟨a, b⟩ := or20 h.1 hy
  refine ⟨a, fun j => ?_⟩
  rw [b, Bool.or_eq_true, h.2 j]
  constructor
  · rintro (⟨z, p, q⟩ | p)
    · exact ⟨z, Or.inl p, q⟩
    · exact ⟨y, Or.inr rfl, p⟩
  · rintro ⟨z, p | p, q⟩
    · exact Or.inl ⟨z, p, q⟩
    · rw [p] at q; exact Or.inr q
theorem div_mono {a b : Int} {w : Nat} (h : a ≤ b) : a / 2 ^ w ≤ b / 2 ^ w := Int.ediv_le_ediv (by rw [pow_nat]; have := Nat.pow_pos (n := w) (show 0 < 2 by decide); omega) h
theorem pop31_rng (x : Int) : 0 ≤ pop x 31 ∧ pop x 31 ≤ 31 := cnt_rng _ _
theorem keyN_rng (R : Int → Prop) (w : Nat) (y : Int) : 0 ≤ keyN R w y ∧ keyN R w y ≤ 1048576 := cntN_rng _
theorem div_rng {y : Int} (w : Nat) (hy : m20 y) : 0 ≤ y / 2 ^ w ∧ y / 2 ^ w < 1048576 := by
  have p : (0 : Int) < 2 ^ w := by rw [pow_nat]; have := Nat.pow_pos (n := w) (show 0 < 2 by decide); omega
  have h1 := Int.ediv_nonneg hy.1 (show (0 : Int) ≤ 2 ^ w by omega)
  have h2 : y / 2 ^ w ≤ y := Int.ediv_le_self _ hy.1
  have := hy.2
  omega
/-- one key more -/
theorem keyN_new {R : Int → Prop} {w : Nat} {y : Int} (hy : m20 y) (hn : ¬ R y) : keyN (fun z => R z ∨ z = y) w y = keyN R w y + 1 := by
  unfold keyN
  rw [← cntN_or (S := fun q => R q ∧ q / 2 ^ w = y / 2 ^ w) hy (fun z => hn z.1)]
  refine cntN_cong (fun q _ => ?_)
  constructor
  · rintro ⟨p | p, r⟩
    · exact Or.inl ⟨p, r⟩
    · exact Or.inr p
  · rintro (⟨p, r⟩ | p)
    · exact ⟨Or.inl p, r⟩
    · exact ⟨Or.inr p, by rw [p]⟩
theorem keyN_old {R : Int → Prop} {w : Nat} {y z : Int} (hy : m20 y) (hn : ¬ R y) : keyN (fun z => R z ∨ z = y) w z = if z / 2 ^ w = y / 2 ^ w then keyN R w y + 1 else keyN R w z := by
  by_cases e : z / 2 ^ w = y / 2 ^ w
  · rw [if_pos e, ← keyN_new hy hn]
    unfold keyN
    rw [e]
  · rw [if_neg e]
    refine cntN_cong (fun q _ => ?_)
    constructor
    · rintro ⟨p | p, r⟩
      · exact ⟨p, r⟩
      · rw [p] at r; exact absurd r.symm e
    · exact fun p => ⟨Or.inl p.1, p.2⟩
theorem c_take3 {fr : Nat} {y w : Int} {R : Int → Prop} {h : AH} (hf : 1 ≤ fr) (hy : m20 y) (hw : 0 ≤ w ∧ w ≤ 9) (hnew : ∀ z, R z → z < y) (ht : tkR R w.toNat h) :
    Sp mX3_take true fr 0 0 [zR 82, zI y, zI w] 137 h (rV (fun h' => (∀ c, c ≠ 82 → c ≠ 83 → h' c = h c) ∧ (∀ i, i ≤ 3 → h' 82 i = h 82 i) ∧ tkR (fun z => R z ∨ z = y) w.toNat h')) := by
  refine Sp.mk yX3_take_ok rfl rfl ?_
  have y0 := hy.1
  have y1 := hy.2
  obtain ⟨⟨t0, t2, t20⟩, tt⟩ := ht
  have cr := cntN_rng R
  have hn : ¬ R y := fun z => by have := hnew y z; omega
  have py := pop31_rng y
  have dy := div_rng w.toNat hy
  generalize hQ : (rV (fun h' : AH => (∀ c, c ≠ 82 → c ≠ 83 → h' c = h c) ∧ (∀ i, i ≤ 3 → h' 82 i = h 82 i) ∧ tkR (fun z => R z ∨ z = y) w.toNat h')) = Q
  refine bX3_take_0 (hS := c_bits y0 y1) (kk := ?_)
  rintro x h1 ⟨e1, hx⟩
  rw [e1, hx]; clear e1 h1 hx x
  have fin : ∀ (h1 : AH) (x3 x4 : AV), (∀ c, c ≠ 82 → c ≠ 83 → h1 c = h c) → (∀ i, i ≠ 4 → h1 82 i = h 82 i) → (∀ i, i ≠ 3 → h1 83 i = h 83 i) → fstR (fun z => R z ∨ z = y) (h1 83 3) → h1 82 4 = pop (h1 83 3) 31 → Wp mX3_take (kR fr 0 0) Q (0, 0) 34 [zR 82, zI y, zI w, x3, x4] [] 137 h1 := by
    intro h1 x3 x4 k1 k2 k3 hf1 hf4
    have a0 : h1 83 0 = cntN R := by rw [k3 0 (by decide)]; exact t0
    have a5 : h1 82 5 = h 82 5 := k2 5 (by decide)
    -- the end, with so long a run
    have last : ∀ s : Int, (0 ≤ h 82 5 ∧ h 82 5 ≤ 1048576) → (0 ≤ s ∧ s ≤ 1048577) → andR (fun z => R z ∨ z = y) (bAnd (h 83 1) y) → s = keyN R w.toNat y + 1 → (∀ z, R z → z / 2 ^ w.toNat = y / 2 ^ w.toNat → keyN R w.toNat z < s) → ((∀ z, ¬ R z) ∧ h 82 5 = 0 ∨ ((∃ z, R z ∧ h 82 5 = keyN R w.toNat z) ∧ ∀ z, R z → keyN R w.toNat z ≤ h 82 5)) → ∀ x2 x3 : AV, Wp mX3_take (kR fr 0 0) Q (0, 0) 68 [zR 82, zI y, x2, x3, zI (y / 2 ^ w.toNat)] [zI s, zR 82] 137 h1 := by
      intro s r5 rs ha hs hlt hmx x2 x3
      refine bX3_take_68 (r2 := by rw [a5]; omega) (hq := ?_)
      rw [← hQ]
      refine ⟨rfl, rfl, fun c a b => by rw [up_n b, up_n b, up_n b, up_n a, up_n a, up_n a]; exact k1 c a b, fun i hi => by rw [up_n (by decide), up_n (by decide), up_n (by decide), up_cn (by omega), up_cn (by omega), up_cn (by omega)]; exact k2 i (by omega), ⟨?_, ?_, ?_⟩, Or.inr ⟨y, Or.inr rfl, ?_, ?_, ⟨?_, ?_⟩, ?_, ?_, ?_, ?_⟩⟩
      · show h1 83 0 + 1 = _
        rw [a0]; exact (cntN_or hy hn).symm
      · show orR _ (bOr (h1 83 2) y)
        rw [k3 2 (by decide)]; exact t2.add hy
      · rintro z (p | p)
        · exact t20 z p
        · rw [p]; exact hy
      · rintro z (p | p)
        · have := hnew z p; omega
        · rw [p]; exact Int.le_refl _
      · show andR _ (bAnd (h1 83 1) y)
        rw [k3 1 (by decide)]; exact ha
      · exact hf1
      · exact hf4
      · rfl
      · show s = _
        rw [keyN_new hy hn]; exact hs
      · show ∃ z, (R z ∨ z = y) ∧ max (h1 82 5) s = _
        rw [a5]
        by_cases c : h 82 5 ≤ s
        · exact ⟨y, Or.inr rfl, by rw [keyN_new hy hn, ← hs]; omega⟩
        · rcases hmx with ⟨p, q⟩ | ⟨⟨z, p, q⟩, r⟩
          · omega
          · refine ⟨z, Or.inl p, ?_⟩
            rw [keyN_old hy hn]
            by_cases e : z / 2 ^ w.toNat = y / 2 ^ w.toNat
            · have := hlt z p e; omega
            · rw [if_neg e]; omega
      · show ∀ z, (R z ∨ z = y) → _ ≤ max (h1 82 5) s
        rw [a5]
        rintro z (p | p)
        · rw [keyN_old hy hn]
          by_cases e : z / 2 ^ w.toNat = y / 2 ^ w.toNat
          · rw [if_pos e]; omega
          · rw [if_neg e]
            rcases hmx with ⟨q, -⟩ | ⟨-, r⟩
            · exact absurd p (q z)
            · have := r z p; omega
        · rw [p, keyN_new hy hn]; omega
    rcases tt with ⟨n1, n2, n3, n5⟩ | ⟨z0, s1, s2, s3, s4, s7, s6, s5, s8⟩
    · have c0 : cntN R = 0 := cntN_none (fun z _ => n1 z)
      refine bX3_take_34 (kt := fun _ => ?_) (kf := fun q => by omega)
      refine bX3_take_67 (kk := last 1 (by omega) (by omega) ?_ ?_ (fun z p => absurd p (n1 z)) (Or.inl ⟨n1, n5⟩) _ _)
      · rw [n2, and_m1 hy]
        refine ⟨hy, fun j => ⟨fun p z q => ?_, fun p => p y (Or.inr rfl)⟩⟩
        rcases q with q | q
        · exact absurd q (n1 z)
        · rw [q]; exact p
      · have : keyN R w.toNat y = 0 := cntN_none (fun z _ p => n1 z p.1)
        omega
    · have cp := cntN_pos (t20 z0 s1) s1
      have m0 := t20 z0 s1
      have z0y := hnew z0 s1
      have dz := div_rng w.toNat m0
      have kr := keyN_rng R w.toNat z0
      have r5 : 0 ≤ h 82 5 ∧ h 82 5 ≤ 1048576 := by
        obtain ⟨z, -, e⟩ := s5
        rw [e]; exact keyN_rng _ _ _
      have e7 : h1 82 7 = z0 / 2 ^ w.toNat := by rw [k2 7 (by decide)]; exact s7
      have e6 : h1 82 6 = keyN R w.toNat z0 := by rw [k2 6 (by decide)]; exact s6
      refine bX3_take_34 (kt := fun q => by omega) (kf := fun _ => ?_)
      refine bX3_take_49 (kt := fun q => ?_) (kf := fun q => ?_)
      · rw [e7] at q
        have hh : ∀ z, R z → ¬ z / 2 ^ w.toNat = y / 2 ^ w.toNat := fun z p e => by
          have a1 := div_mono (w := w.toNat) (s2 z p)
          have a2 := div_mono (a := z0) (b := y) (w := w.toNat) (by omega)
          omega
        refine bX3_take_67 (kk := last 1 r5 (by omega) (s3.add hy) ?_ (fun z p e => absurd e (hh z p)) (Or.inr ⟨s5, s8⟩) _ _)
        have : keyN R w.toNat y = 0 := cntN_none (fun z _ p => hh z p.1 p.2)
        omega
      · rw [e7] at q
        have ek : keyN R w.toNat z0 = keyN R w.toNat y := by unfold keyN; rw [q]
        refine bX3_take_58 (kk := ?_)
        rw [e6]
        refine last _ r5 (by omega) (s3.add hy) (by rw [ek]) (fun z p e => ?_) (Or.inr ⟨s5, s8⟩) _ _
        have : keyN R w.toNat z = keyN R w.toNat y := by unfold keyN; rw [e]
        omega
  have newF : ∀ x3 x4 : AV, (∀ z, R z → pop y 31 < pop z 31) → Wp mX3_take (kR fr 0 0) Q (0, 0) 22 [zR 82, zI y, zI w, zI (pop y 31), x4] [] 137 h := fun x3 x4 hb => by
    refine bX3_take_22 (kk := fin _ _ _ (fun c a b => by rw [up_n a, up_n b]) (fun i hi => by rw [up_cn hi, up_n (by decide)]) (fun i hi => by rw [up_n (by decide), up_cn hi]) ⟨Or.inr rfl, fun z p => ?_⟩ rfl)
    rcases p with p | p
    · exact Or.inl (hb z p)
    · rw [p]; exact Or.inr ⟨rfl, Int.le_refl _⟩
  rcases id tt with ⟨n1, n2, n3, n5⟩ | ⟨z0, s1, s2, s3, s4, s7, s6, s5, s8⟩
  · have c0 : cntN R = 0 := cntN_none (fun z _ => n1 z)
    refine bX3_take_4 (kt := fun _ => newF none _ (fun z p => absurd p (n1 z))) (kf := fun q => by omega)
  · have cp := cntN_pos (t20 z0 s1) s1
    have pf := pop31_rng (h 83 3)
    refine bX3_take_4 (kt := fun q => by omega) (kf := fun _ => ?_)
    refine bX3_take_14 (r2 := by rw [s4.2]; omega) (kt := fun q => ?_) (kf := fun q => ?_)
    · rw [s4.2] at q
      refine fin h _ _ (fun _ _ _ => rfl) (fun _ _ => rfl) (fun _ _ => rfl) ⟨Or.inl s4.1.1, fun z p => ?_⟩ s4.2
      rcases p with p | p
      · exact s4.1.2 z p
      · rw [p]
        have := hnew _ s4.1.1
        omega
    · rw [s4.2] at q
      refine newF none _ (fun z p => ?_)
      have := s4.1.2 z p
      omega
