/-! ===== rivals: groups; the class's findNext, find, rivals ===== -/
def lamA (L T : Int → Int) (y s : Int) : Int → Int → Int := fun t s' => if s' = s then ampY L T y s t else 0
def hdA (L T : Int → Int) (nS l w m y s t : Int) : Prop := heardAs (lamA L T y s) nS l w m t s
def eqA (L T : Int → Int) (nS l w m s y q : Int) : Prop := ∀ t, 0 ≤ t → t < 60 → (hdA L T nS l w m y s t ↔ hdA L T nS l w m q s t)
def grpR (R : Int → Prop) (E : Int → Int → Prop) (g : Int) : Prop := (∃ y, R y ∧ g = cntN (fun q => R q ∧ E y q)) ∧ ∀ y, R y → cntN (fun q => R q ∧ E y q) ≤ g
theorem grpR.cong {R : Int → Prop} {E F : Int → Int → Prop} {g : Int} (e : ∀ y q, R y → R q → (E y q ↔ F y q)) (h : grpR R E g) : grpR R F g := by
  have c : ∀ y, R y → cntN (fun q => R q ∧ E y q) = cntN (fun q => R q ∧ F y q) := fun y hy => cntN_cong (fun q _ => ⟨fun z => ⟨z.1, (e y q hy z.1).mp z.2⟩, fun z => ⟨z.1, (e y q hy z.1).mpr z.2⟩⟩)
  obtain ⟨⟨y, hy, hg⟩, h2⟩ := h
  exact ⟨⟨y, hy, by rw [← c y hy]; exact hg⟩, fun z hz => by rw [← c z hz]; exact h2 z hz⟩
theorem grpR.one {R : Int → Prop} {E : Int → Int → Prop} {g f : Int} (h1 : grpR R E g) (h2 : grpR R E f) : g = f := by
  obtain ⟨⟨y, hy, e⟩, a⟩ := h1
  obtain ⟨⟨z, hz, e'⟩, b⟩ := h2
  have := a z hz
  have := b y hy
  omega
def nextR (R : Int → Prop) (E : Int → Int → Int → Prop) (n b f : Int) : Prop := (b = -1 ∧ f = 0 ∧ (n ≤ 0 ∨ ∀ y, ¬ R y)) ∨ ((0 ≤ b ∧ b < n) ∧ grpR R (E b) f ∧ (∀ s g, 0 ≤ s → s < n → grpR R (E s) g → f ≤ g) ∧ ∀ s g, 0 ≤ s → s < b → grpR R (E s) g → f < g)
theorem nextR.one {R : Int → Prop} {E : Int → Int → Int → Prop} {n b f b' f' : Int} (h1 : nextR R E n b f) (h2 : nextR R E n b' f') : b = b' ∧ f = f' := by
  rcases h1 with ⟨a1, a2, a3⟩ | ⟨a1, a2, a3, a4⟩ <;> rcases h2 with ⟨c1, c2, c3⟩ | ⟨c1, c2, c3, c4⟩
  · omega
  · rcases a3 with a3 | a3
    · omega
    · obtain ⟨⟨y, hy, -⟩, -⟩ := c2; exact absurd hy (a3 y)
  · rcases c3 with c3 | c3
    · omega
    · obtain ⟨⟨y, hy, -⟩, -⟩ := a2; exact absurd hy (c3 y)
  · have p := a3 b' f' c1.1 c1.2 c2
    have q := c3 b f a1.1 a1.2 a2
    rcases Int.lt_trichotomy b b' with w | w | w
    · have := c4 b f a1.1 w a2; omega
    · exact ⟨w, by omega⟩
    · have := a4 b' f' c1.1 w c2; omega
def rivalsR (R : Int → Prop) (E : Int → Int → Int → Prop) (n k x : Int) : Prop := (k = 0 ∧ x = cntN R) ∨ (k = 1 ∧ (((∀ y, ¬ R y) ∧ x = 0) ∨ ((∃ y, R y) ∧ andR R x))) ∨ (k = 2 ∧ orR R x) ∨ (k = 3 ∧ (((∀ y, ¬ R y) ∧ x = -1) ∨ fstR R x)) ∨ (k = 4 ∧ ∃ f, nextR R E n x f) ∨ (k = 5 ∧ ∃ b, nextR R E n b x)
theorem bit_same {x y : Int} (hx : m20 x) (hy : m20 y) (h : ∀ j, bt x j = true ↔ bt y j = true) : x = y := by
  refine bt_ext hx.1 hy.1 (fun j => ?_)
  have := h j
  cases e1 : bt x j <;> cases e2 : bt y j <;> simp [e1, e2] at this <;> rfl
theorem rivalsR.one {R : Int → Prop} {E : Int → Int → Int → Prop} {n k x y : Int} (h1 : rivalsR R E n k x) (h2 : rivalsR R E n k y) : x = y := by
  rcases h1 with ⟨a, b⟩ | ⟨a, b⟩ | ⟨a, b⟩ | ⟨a, b⟩ | ⟨a, f, b⟩ | ⟨a, f, b⟩ <;> rcases h2 with ⟨c, d⟩ | ⟨c, d⟩ | ⟨c, d⟩ | ⟨c, d⟩ | ⟨c, f', d⟩ | ⟨c, f', d⟩ <;> first | omega | skip
  · rcases b with ⟨p, q⟩ | ⟨⟨z, p⟩, q⟩ <;> rcases d with ⟨p', q'⟩ | ⟨⟨z', p'⟩, q'⟩
    · omega
    · exact absurd p' (p z')
    · exact absurd p (p' z)
    · exact bit_same q.1 q'.1 (fun j => by rw [q.2, q'.2])
  · exact bit_same b.1 d.1 (fun j => by rw [b.2, d.2])
  · rcases b with ⟨p, q⟩ | q <;> rcases d with ⟨p', q'⟩ | q'
    · omega
    · exact absurd q'.1 (p _)
    · exact absurd q.1 (p' _)
    · have := q.2 y q'.1
      have := q'.2 x q.1
      omega
  · exact (nextR.one b d).1
  · exact (nextR.one b d).2
theorem ampY_0 (L T : Int → Int) (y s : Int) : ampY L T y s 0 = L s := by
  unfold ampY
  rw [if_pos rfl, if_neg (by omega)]; omega
theorem ampY_p {L T : Int → Int} {y s t : Int} (t1 : 1 ≤ t) : ampY L T y s t = if bt y (t - 1).toNat = true then T s else 0 := by
  unfold ampY
  rw [if_neg (by omega)]
  by_cases b : bt y (t - 1).toNat = true
  · rw [if_pos ⟨t1, b⟩, if_pos b]; omega
  · rw [if_neg (fun z => b z.2), if_neg b]; rfl
theorem hdA_iff {L T : Int → Int} {nS l w m y s t : Int} (hl : 1 ≤ l) (hw : 0 ≤ w) (hm : 0 ≤ m) (s0 : 0 ≤ s) (s1 : s < nS) (hT : 0 ≤ T s) (t0 : 0 ≤ t) : hdA L T nS l w m y s t ↔ ((t = 0 ∧ l ≤ L s) ∨ (1 ≤ t ∧ bt y (t - 1).toNat = true ∧ l ≤ T s ∧ (t ≤ w → L s ≤ T s + m))) := by
  have own : ∀ u, lamA L T y s u s = ampY L T y s u := fun u => if_pos rfl
  have oth : ∀ u s', ¬ s' = s → lamA L T y s u s' = 0 := fun u s' e => if_neg e
  unfold hdA
  constructor
  · rintro ⟨-, h2, h3⟩
    rw [own] at h2
    by_cases e : t = 0
    · rw [e, ampY_0] at h2
      exact Or.inl ⟨e, h2⟩
    · rw [ampY_p (by omega)] at h2
      by_cases b : bt y (t - 1).toNat = true
      · rw [if_pos b] at h2
        refine Or.inr ⟨by omega, b, h2, fun q => ?_⟩
        have := h3 0 (by decide) (by omega) (by omega) s s0 s1
        rw [own, own, ampY_0, ampY_p (by omega), if_pos b] at this
        exact this
      · rw [if_neg b] at h2; omega
  · intro h
    have big : l ≤ ampY L T y s t := by
      rcases h with ⟨e, q⟩ | ⟨p, q, r, -⟩
      · rw [e, ampY_0]; exact q
      · rw [ampY_p p, if_pos q]; exact r
    refine ⟨⟨⟨s0, s1⟩, fun s' p q => ?_, fun s' p q => ?_⟩, by rw [own]; exact big, fun t' a b c s' p q => ?_⟩
    · by_cases e : s' = s
      · rw [e]; exact Int.le_refl _
      · rw [oth t s' e, own]; omega
    · rw [oth t s' (by omega), own]; omega
    · rw [own]
      by_cases e : s' = s
      · rw [e, own]
        rcases h with ⟨e2, -⟩ | ⟨h1, h2, h3, h4⟩
        · omega
        · rw [ampY_p h1, if_pos h2]
          by_cases e3 : t' = 0
          · rw [e3, ampY_0]; exact h4 (by omega)
          · rw [ampY_p (by omega)]
            split <;> omega
      · rw [oth t' s' e]; omega
theorem div_bits {y q : Int} {w : Nat} (hy : m20 y) (hq : m20 q) : y / 2 ^ w = q / 2 ^ w ↔ ∀ j, w ≤ j → bt y j = bt q j := by
  obtain ⟨a, -, rfl⟩ := m20_nat hy
  obtain ⟨b, -, rfl⟩ := m20_nat hq
  have e : ∀ c : Nat, (c : Int) / 2 ^ w = ((c / 2 ^ w : Nat) : Int) := fun c => by push_cast; rfl
  rw [e, e]
  constructor
  · intro h j hj
    have h' : a / 2 ^ w = b / 2 ^ w := by omega
    have := congrArg (fun x => x.testBit (j - w)) h'
    simp only [Nat.testBit_div_two_pow] at this
    unfold bt
    rw [Int.toNat_natCast, Int.toNat_natCast]
    rw [show j - w + w = j by omega] at this
    exact this
  · intro h
    have : a / 2 ^ w = b / 2 ^ w := Nat.eq_of_testBit_eq (fun j => by
      rw [Nat.testBit_div_two_pow, Nat.testBit_div_two_pow]
      have := h (j + w) (by omega)
      unfold bt at this
      rw [Int.toNat_natCast, Int.toNat_natCast] at this
      exact this)
    omega
theorem eqA_iff {L T : Int → Int} {nS l w m s y q : Int} (hl : 1 ≤ l) (hw : 0 ≤ w) (w9 : w ≤ 9) (hm : 0 ≤ m) (s0 : 0 ≤ s) (s1 : s < nS) (hT : 0 ≤ T s) (hy : m20 y) (hq : m20 q) : eqA L T nS l w m s y q ↔ (T s < l ∨ (L s ≤ T s + m ∧ y = q) ∨ (T s + m < L s ∧ y / 2 ^ w.toNat = q / 2 ^ w.toNat)) := by
  have I := fun (z t : Int) (t0 : 0 ≤ t) => hdA_iff (L := L) (y := z) hl hw hm s0 s1 hT t0
  rw [div_bits hy hq]
  constructor
  · intro h
    by_cases c : T s < l
    · exact Or.inl c
    have at_ : ∀ j : Nat, j < 20 → ((j : Int) + 1 ≤ w → L s ≤ T s + m) → (bt y j = true ↔ bt q j = true) := fun j hj c2 => by
      have := h ((j : Int) + 1) (by omega) (by omega)
      rw [I y _ (by omega), I q _ (by omega)] at this
      rw [show ((j : Int) + 1 - 1).toNat = j by omega] at this
      constructor
      · intro b
        rcases this.mp (Or.inr ⟨by omega, b, by omega, c2⟩) with z | z
        · omega
        · exact z.2.1
      · intro b
        rcases this.mpr (Or.inr ⟨by omega, b, by omega, c2⟩) with z | z
        · omega
        · exact z.2.1
    by_cases c3 : L s ≤ T s + m
    · refine Or.inr (Or.inl ⟨c3, bit_same hy hq (fun j => ?_)⟩)
      by_cases hj : j < 20
      · exact at_ j hj (fun _ => c3)
      · rw [bt_hi20 hy (by omega), bt_hi20 hq (by omega)]
    · refine Or.inr (Or.inr ⟨by omega, fun j hj => ?_⟩)
      by_cases h20 : j < 20
      · have := at_ j h20 (fun z => by omega)
        cases e1 : bt y j <;> cases e2 : bt q j <;> simp [e1, e2] at this <;> rfl
      · rw [bt_hi20 hy (by omega), bt_hi20 hq (by omega)]
  · intro h t t0 t6
    rw [I y t t0, I q t t0]
    rcases h with h | ⟨-, h⟩ | ⟨h1, h2⟩
    · exact ⟨fun z => z.elim Or.inl (fun v => by omega), fun z => z.elim Or.inl (fun v => by omega)⟩
    · rw [h]
    · constructor
      · rintro (z | ⟨z1, z2, z3, z4⟩)
        · exact Or.inl z
        · by_cases c : t ≤ w
          · have := z4 c; omega
          · exact Or.inr ⟨z1, by rw [← h2 _ (by omega)]; exact z2, z3, z4⟩
      · rintro (z | ⟨z1, z2, z3, z4⟩)
        · exact Or.inl z
        · by_cases c : t ≤ w
          · have := z4 c; omega
          · exact Or.inr ⟨z1, by rw [h2 _ (by omega)]; exact z2, z3, z4⟩
theorem c_greatestGroup {fr : Nat} {g s : Int} {L T : Int → Int} {R : Int → Prop} {h : AH} (hg : isG g) (hd : okD (dC h g)) (s0 : 0 ≤ s) (s1 : s < h g 0) (hL : h (g + 1) s = L s) (h86 : h 86 (8 + s) = T s) (hT : 0 ≤ T s ∧ T s ≤ 99) (ht : tkR R (h g 5).toNat h) (hne : ∃ y, R y) (hc0 : h 83 0 = cntN R) :
    Sp mX3_greatestGroup true fr 0 0 [zR 82, zR g, zI s] 137 h (rI (fun x h' => h' = h ∧ grpR R (eqA L T (h g 0) (h g 4) (h g 5) (h g 6) s) x ∧ (0 ≤ x ∧ x ≤ 1048576))) := by
  refine Sp.mk yX3_greatestGroup_ok rfl rfl ?_
  have cg := hg.cel
  have d0 := hd.1
  have d4 := hd.2.2.2.2.1
  have d5 := hd.2.2.2.2.2.1
  have d6 := hd.2.2.2.2.2.2.1
  have ds := (hd.2.2.2.2.2.2.2.1 s s0 (by rw [dC0]; exact s1)).1
  rw [dC0] at d0 d4 d5 d6
  have ds' : 1 ≤ L s ∧ L s ≤ 99 := by rw [← hL]; exact ds
  obtain ⟨⟨-, -, t20⟩, tt⟩ := ht
  have cr := cntN_rng R
  have I := fun y q (hy : R y) (hq : R q) => eqA_iff (L := L) (T := T) (nS := h g 0) (l := h g 4) (w := h g 5) (m := h g 6) (s := s) d4.1 d5.1 d5.2 d6.1 s0 s1 hT.1 (t20 y hy) (t20 q hq)
  refine bX3_greatestGroup_0 (r2 := by rw [h86]; omega) (kt := fun q => ?_) (kf := fun q => ?_)
  rotate_left
  · rw [h86] at q
    refine bX3_greatestGroup_21 (hq := ⟨_, rfl, rfl, rfl, ?_, by rw [hc0]; exact cr⟩)
    have ev : ∀ y, R y → cntN (fun z => R z ∧ eqA L T (h g 0) (h g 4) (h g 5) (h g 6) s y z) = cntN R := fun y hy => cntN_cong (fun z _ => ⟨fun w => w.1, fun w => ⟨w, (I y z hy w).mpr (Or.inl q)⟩⟩)
    obtain ⟨y, hy⟩ := hne
    exact ⟨⟨y, hy, by rw [ev y hy, hc0]⟩, fun z hz => by rw [ev z hz, hc0]; exact Int.le_refl _⟩
  · rw [h86] at q ⊢
    refine bX3_greatestGroup_28 (r2 := by rw [hL]; omega) (kt := fun q2 => ?_) (kf := fun q2 => ?_)
    · rw [hL] at q2
      refine bX3_greatestGroup_50 (kk := bX3_greatestGroup_51 (hq := ⟨_, rfl, rfl, rfl, ?_, by decide⟩))
      have ev : ∀ y, R y → cntN (fun z => R z ∧ eqA L T (h g 0) (h g 4) (h g 5) (h g 6) s y z) = 1 := fun y hy => by
        have e1 : cntN (fun z => False ∨ z = y) = cntN (fun _ => False) + 1 := cntN_or (S := fun _ => False) (t20 y hy) (fun z => z)
        rw [cntN_none (S := fun _ => False) (fun _ _ z => z)] at e1
        rw [show (1 : Int) = 0 + 1 by rfl, ← e1]
        refine cntN_cong (fun z _ => ⟨fun w => ?_, fun w => ?_⟩)
        · have := (I y z hy w.1).mp w.2
          rcases this with v | ⟨-, v⟩ | ⟨v, -⟩
          · omega
          · exact Or.inr v.symm
          · omega
        · rcases w with w | w
          · exact w.elim
          · rw [w]; exact ⟨hy, (I y y hy hy).mpr (Or.inr (Or.inl ⟨q2, rfl⟩))⟩
      obtain ⟨y, hy⟩ := hne
      exact ⟨⟨y, hy, (ev y hy).symm⟩, fun z hz => by rw [ev z hz]; exact Int.le_refl _⟩
    · rw [hL] at q2
      rcases tt with ⟨n1, -⟩ | ⟨z0, a1, a2, a3, a4, a7, a6, a5, a8⟩
      · obtain ⟨y, hy⟩ := hne
        exact absurd hy (n1 y)
      have ev : ∀ y, R y → cntN (fun z => R z ∧ eqA L T (h g 0) (h g 4) (h g 5) (h g 6) s y z) = keyN R (h g 5).toNat y := fun y hy => by
        refine cntN_cong (fun z _ => ⟨fun w => ⟨w.1, ?_⟩, fun w => ⟨w.1, (I y z hy w.1).mpr (Or.inr (Or.inr ⟨q2, w.2.symm⟩))⟩⟩)
        rcases (I y z hy w.1).mp w.2 with v | ⟨v, -⟩ | ⟨-, v⟩
        · omega
        · omega
        · exact v.symm
      obtain ⟨y, hy, e5⟩ := a5
      refine bX3_greatestGroup_43 (kk := bX3_greatestGroup_51 (hq := ⟨_, rfl, rfl, rfl, ⟨⟨y, hy, by rw [ev y hy]; exact e5⟩, fun z hz => by rw [ev z hz]; exact a8 z hz⟩, by rw [e5]; exact keyN_rng _ _ _⟩))
