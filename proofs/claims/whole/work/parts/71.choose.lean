/-! ===== the class: Claps.weigh, extend, choose ===== -/
/-- the best so far stands in the fields -/
def bst (h : AH) : Prop := m16 (h 95 2) ∧ h 95 3 = pop16 (h 95 2) ∧ h 95 4 = sumM (h 95 2)
def only95 (h h' : AH) : Prop := (∀ c, c ≠ 95 → h' c = h c) ∧ bst h'
theorem c_weigh {fr : Nat} {y : Int} {h : AH} (hf : 2 ≤ fr) (hy : m16 y) (hb : bst h) : Sp mX1_weigh true fr 0 0 [zR 95, zI y] 137 h (rV (fun h' => only95 h h' ∧ ((h' 95 2 = h 95 2 ∧ leB y (h 95 2)) ∨ (h' 95 2 = y ∧ leB (h 95 2) y)))) := by
  refine Sp.mk yX1_weigh_ok rfl rfl ?_
  obtain ⟨b0, b3, b4⟩ := id hb
  have y0 := hy.1
  have y1 := hy.2
  have p1 := pop16_rng y
  have p2 := pop16_rng (h 95 2)
  have s1 := sumM_rng y
  have s2 := sumM_rng (h 95 2)
  have b01 := b0.1
  have b02 := b0.2
  refine bX1_weigh_0 (hS := c_bits hy.1 (by omega)) (kk := ?_)
  rintro x h1 ⟨e1, hx⟩
  rw [e1]; clear e1 h1
  rw [pop_16 hy] at hx
  refine bX1_weigh_4 (kk := ?_)
  -- the end
  have fin : ∀ (x4 : AV), Wp mX1_weigh (kR fr 0 0) (rV (fun h' => only95 h h' ∧ ((h' 95 2 = h 95 2 ∧ leB y (h 95 2)) ∨ (h' 95 2 = y ∧ leB (h 95 2) y)))) (0, 0) 37 [zR 95, zI y, zI x, zI (sumM y), x4] [] 137 h := by
    intro x4
    have keep : ∀ (l4 : AV), leB y (h 95 2) → Wp mX1_weigh (kR fr 0 0) (rV (fun h' => only95 h h' ∧ ((h' 95 2 = h 95 2 ∧ leB y (h 95 2)) ∨ (h' 95 2 = y ∧ leB (h 95 2) y)))) (0, 0) 104 [zR 95, zI y, zI x, zI (sumM y), l4] [] 137 h :=
      fun l4 z => bX1_weigh_104 (hq := ⟨rfl, rfl, ⟨fun _ _ => rfl, hb⟩, Or.inl ⟨rfl, z⟩⟩)
    have take : ∀ (l4 : AV), leB (h 95 2) y → Wp mX1_weigh (kR fr 0 0) (rV (fun h' => only95 h h' ∧ ((h' 95 2 = h 95 2 ∧ leB y (h 95 2)) ∨ (h' 95 2 = y ∧ leB (h 95 2) y)))) (0, 0) 89 [zR 95, zI y, zI x, zI (sumM y), l4] [] 137 h :=
      fun l4 z => bX1_weigh_89 (kk := bX1_weigh_104 (hq := ⟨rfl, rfl, ⟨fun c hc => by rw [up_n hc, up_n hc, up_n hc], hy, hx, rfl⟩, Or.inr ⟨rfl, z⟩⟩))
    refine bX1_weigh_37 (kt := fun q => ?_) (kf := fun q => ?_)
    · refine bX1_weigh_49 (kk := bX1_weigh_50 (kt := fun q2 => take _ (by unfold leB; omega)) (kf := fun q2 => ?_))
      exact bX1_weigh_60 (kt := fun _ => keep _ (by unfold leB; omega)) (kf := fun z => absurd rfl z)
    · refine bX1_weigh_45 (kk := bX1_weigh_50 (kt := fun q2 => take _ (by unfold leB; omega)) (kf := fun q2 => ?_))
      refine bX1_weigh_60 (kt := fun z => by omega) (kf := fun _ => ?_)
      refine bX1_weigh_65 (kt := fun q3 => take _ (by unfold leB; omega)) (kf := fun q3 => ?_)
      refine bX1_weigh_73 (kt := fun q4 => keep _ (by unfold leB; omega)) (kf := fun q4 => ?_)
      exact bX1_weigh_81 (kt := fun q5 => keep _ (by unfold leB; omega)) (kf := fun q5 => take _ (by unfold leB; omega))
  suffices H : ∀ (N : Nat) (b t : Int), b < N → m16 b → t + sumM b = sumM y → Wp mX1_weigh (kR fr 0 0) (rV (fun h' => only95 h h' ∧ ((h' 95 2 = h 95 2 ∧ leB y (h 95 2)) ∨ (h' 95 2 = y ∧ leB (h 95 2) y)))) (0, 0) 10 [zR 95, zI y, zI x, zI t, zI b] [] 137 h by
    exact H (y + 1).toNat y 0 (by omega) hy (by omega)
  intro N
  induction N with
  | zero => intro b t hb hm; have := hm.1; omega
  | succ N ih =>
    intro b t hbN hm ht
    have m0 := hm.1
    have m1 := hm.2
    refine bX1_weigh_10 (kt := fun z => ?_) (kf := fun z => ?_)
    · have : sumM b = 0 := by
        rw [z]
        exact sg_zero (fun j _ => by rw [bt_zero]; rfl)
      rw [show t = sumM y by omega]
      exact fin _
    · refine bX1_weigh_15 (hS := c_lowestBit (by omega) (by omega) (by omega)) (kk := ?_)
      rintro w h1 ⟨e1, hw⟩
      rw [e1]; clear e1 h1
      obtain ⟨d1, -, d3, d4⟩ := drop16 hm (by omega) hw
      exact bX1_weigh_21 (kk := ih _ _ (by omega) d1 (by omega))
/-- the best of the old one and of all that may still be made -/
def extR (T : Int → Int) (left taken b b' : Int) : Prop := leB b b' ∧ (∀ y, inIS T left taken y → leB y b') ∧ (b' = b ∨ inIS T left taken b')
theorem c_extend {T : Int → Int} (hT : symT T) : ∀ (d : Nat) {fr : Nat} {left taken : Int} {h : AH}, d + 3 ≤ fr → (∀ j, j < 16 - d → bt left j = false) → d ≤ 16 → canT T left taken → bst h → (∀ a, 0 ≤ a → a < 16 → h 96 a = T a) →
    Sp mX1_extend true fr 0 0 [zR 95, zI left, zI taken] 137 h (rV (fun h' => only95 h h' ∧ extR T left taken (h 95 2) (h' 95 2))) := by
  intro d
  induction d with
  | zero =>
    intro fr left taken h hf hlow hd hc hb h96
    refine Sp.mk yX1_extend_ok rfl rfl ?_
    obtain ⟨c1, c2, c3, c4, c5⟩ := id hc
    have z0 : left = 0 := (zero16 c1).mpr (fun j => by
      by_cases e : j < 16
      · exact hlow j (by omega)
      · exact bt_hi c1 (by omega))
    have a1 := c2.1
    have a2 := c2.2
    obtain ⟨b0, b3, b4⟩ := id hb
    have p1 := pop16_rng taken
    have p2 := pop16_rng left
    have p3 := pop16_rng (h 95 2)
    have iS : ∀ y, inIS T left taken y → y = taken := fun y hy => bt_ext hy.1.1 c2.1 (fun j => by
      have g1 := hy.2.2.1 j
      have g2 := hy.2.2.2 j
      rw [z0, bt_zero] at g2
      cases e1 : bt y j <;> cases e2 : bt taken j <;> simp_all)
    refine bX1_extend_0 (hS := c_bits c2.1 (by omega)) (kk := ?_)
    rintro x h1 ⟨e1, hx⟩
    rw [e1]; clear e1 h1
    rw [pop_16 c2] at hx
    refine bX1_extend_4 (hS := c_bits c1.1 (by omega)) (kk := ?_)
    rintro w h1 ⟨e1, hw⟩
    rw [e1]; clear e1 h1
    rw [pop_16 c1] at hw
    refine bX1_extend_8 (kt := fun q => ?_) (kf := fun q => ?_)
    · refine bX1_extend_17 (kt := fun z => absurd z0 z) (kf := fun _ => ?_)
      refine bX1_extend_21 (hS := c_weigh (by omega) c2 hb) (kk := ?_)
      rintro h1 ⟨o1, hw2⟩
      refine bX1_extend_26 (hq := ⟨rfl, rfl, o1, ?_⟩)
      have it : inIS T left taken taken := ⟨c2, c3, fun _ z => z, fun _ z => Or.inl z⟩
      rcases hw2 with ⟨e1, l1⟩ | ⟨e1, l1⟩
      · rw [e1]
        exact ⟨leB.rf _, fun y hy => by rw [iS y hy]; exact l1, Or.inl rfl⟩
      · rw [e1]
        exact ⟨l1, fun y hy => by rw [iS y hy]; exact leB.rf _, Or.inr it⟩
    · refine bX1_extend_16 (hq := ⟨rfl, rfl, ⟨fun _ _ => rfl, hb⟩, leB.rf _, fun y hy => ?_, Or.inl rfl⟩)
      have := pop16_le (x := y) (y := taken) (z := left) hy.2.2.2
      unfold leB
      omega
  | succ d ih =>
    intro fr left taken h hf hlow hd hc hb h96
    by_cases hz : bt left (16 - (d + 1)) = false
    · -- nothing at this place
      exact ih (by omega) (fun j hj => by
        by_cases e : j = 16 - (d + 1)
        · rw [e]; exact hz
        · exact hlow j (by omega)) (by omega) hc hb h96
    refine Sp.mk yX1_extend_ok rfl rfl ?_
    obtain ⟨c1, c2, c3, c4, c5⟩ := id hc
    have hz : bt left (16 - (d + 1)) = true := by
      cases e : bt left (16 - (d + 1)) with
      | true => rfl
      | false => exact absurd e hz
    have lpos : 0 < left := by
      have := c1.1
      rcases Int.lt_or_eq_of_le this with z | z
      · exact z
      · rw [← z, bt_zero] at hz; cases hz
    have l16 := c1.2
    have a1 := c2.1
    have a2 := c2.2
    obtain ⟨b0, b3, b4⟩ := id hb
    have p1 := pop16_rng taken
    have p2 := pop16_rng left
    have p3 := pop16_rng (h 95 2)
    refine bX1_extend_0 (hS := c_bits c2.1 (by omega)) (kk := ?_)
    rintro x h1 ⟨e1, hx⟩
    rw [e1]; clear e1 h1
    rw [pop_16 c2] at hx
    refine bX1_extend_4 (hS := c_bits c1.1 (by omega)) (kk := ?_)
    rintro w h1 ⟨e1, hw⟩
    rw [e1]; clear e1 h1
    rw [pop_16 c1] at hw
    refine bX1_extend_8 (kt := fun q => ?_) (kf := fun q => ?_)
    rotate_left
    · refine bX1_extend_16 (hq := ⟨rfl, rfl, ⟨fun _ _ => rfl, hb⟩, leB.rf _, fun y hy => ?_, Or.inl rfl⟩)
      have := pop16_le (x := y) (y := taken) (z := left) hy.2.2.2
      unfold leB
      omega
    refine bX1_extend_17 (kt := fun _ => ?_) (kf := fun z => by omega)
    refine bX1_extend_27 (hS := c_lowestBit (by omega) lpos (by omega)) (kk := ?_)
    rintro g h1 ⟨e1, hg⟩
    rw [e1]; clear e1 h1
    have g0 := hg.1
    have gd : g = ((16 - (d + 1) : Nat) : Int) := by
      rcases Int.lt_trichotomy g ((16 - (d + 1) : Nat) : Int) with z | z | z
      · have := hlow g.toNat (by omega)
        rw [hg.2.1] at this
        cases this
      · exact z
      · have := hg.2.2 (16 - (d + 1)) z
        rw [hz] at this
        cases this
    have g16 : g < 16 := by omega
    have gn : g.toNat = 16 - (d + 1) := by omega
    have ng : ((g.toNat : Nat) : Int) = g := by omega
    have eT : h 96 g = T g := h96 g g0 g16
    have mT : m16 (T g) := by have := hT.1 g.toNat (by omega); rw [ng] at this; exact this
    obtain ⟨d1, d2, -, -⟩ := drop16 c1 lpos hg
    obtain ⟨n1, n2⟩ := andNot16 d1 mT
    obtain ⟨o1, o2⟩ := one16 g0 g16
    obtain ⟨t1, t2⟩ := or16 c2 o1
    have gt : bt taken g.toNat = false := c4 _ hg.2.1
    have sy : ∀ a b : Nat, a < 16 → b < 16 → bt (T a) b = bt (T b) a := fun a b p q => (hT.2 a b p q).1
    have sf : bt (T g) g.toNat = false := by have := (hT.2 g.toNat g.toNat (by omega) (by omega)).2; rw [ng] at this; exact this
    have tg : ∀ a : Nat, bt taken a = true → bt (T a) g.toNat = false := fun a p => c5 a _ p hg.2.1
    have tg' : ∀ a : Nat, bt taken a = true → bt (T g) a = false := fun a p => by
      have := sy g.toNat a (by omega) (bit_lt c2 p)
      rw [ng] at this
      rw [this]; exact tg a p
    -- with the gap
    have can1 : canT T (bAnd (bAnd left (left - 1)) (bXor (T g) (-1))) (bOr taken (1 * 2 ^ g.toNat)) := by
      refine ⟨n1, t1, fun a b p r => ?_, fun j p => ?_, fun a j p r => ?_⟩
      · rw [t2, o2] at p r
        simp only [Bool.or_eq_true, decide_eq_true_eq] at p r
        rcases p with p | p <;> rcases r with r | r
        · exact c3 a b p r
        · rw [r]; exact tg a p
        · rw [p, ng]; exact tg' b r
        · rw [p, r, ng]; exact sf
      · rw [n2, d2] at p
        simp only [Bool.and_eq_true, decide_eq_true_eq] at p
        rw [t2, o2, c4 j p.1.1, decide_eq_false (by omega)]
        rfl
      · rw [n2, d2] at r
        simp only [Bool.and_eq_true, decide_eq_true_eq, Bool.not_eq_true'] at r
        rw [t2, o2] at p
        simp only [Bool.or_eq_true, decide_eq_true_eq] at p
        rcases p with p | p
        · exact c5 a j p r.1.1
        · rw [p, ng]; exact r.2
    have low1 : ∀ j, j < 16 - d → bt (bAnd (bAnd left (left - 1)) (bXor (T g) (-1))) j = false := fun j hj => by
      rw [n2, d2]
      by_cases e : j = 16 - (d + 1)
      · rw [decide_eq_false (by omega)]; simp
      · rw [hlow j (by omega)]; simp
    have sub1 : ∀ y, inIS T (bAnd (bAnd left (left - 1)) (bXor (T g) (-1))) (bOr taken (1 * 2 ^ g.toNat)) y → inIS T left taken y := fun y hy => by
      refine ⟨hy.1, hy.2.1, fun j p => hy.2.2.1 j (by rw [t2, p]; rfl), fun j p => ?_⟩
      rcases hy.2.2.2 j p with z | z
      · rw [t2, o2] at z
        simp only [Bool.or_eq_true, decide_eq_true_eq] at z
        rcases z with z | z
        · exact Or.inl z
        · rw [z]; exact Or.inr hg.2.1
      · rw [n2, d2] at z
        simp only [Bool.and_eq_true] at z
        exact Or.inr z.1.1
    have has : ∀ y, inIS T left taken y → bt y g.toNat = true → inIS T (bAnd (bAnd left (left - 1)) (bXor (T g) (-1))) (bOr taken (1 * 2 ^ g.toNat)) y := fun y hy yg => by
      refine ⟨hy.1, hy.2.1, fun j p => ?_, fun j p => ?_⟩
      · rw [t2, o2] at p
        simp only [Bool.or_eq_true, decide_eq_true_eq] at p
        rcases p with p | p
        · exact hy.2.2.1 j p
        · rw [p]; exact yg
      · rw [t2, o2, n2, d2]
        by_cases e : j = g.toNat
        · exact Or.inl (by simp [e])
        · rcases hy.2.2.2 j p with z | z
          · exact Or.inl (by simp [z])
          · have := hy.2.1 g.toNat j yg p
            rw [ng] at this
            exact Or.inr (by rw [z, this, decide_eq_true (by omega)]; rfl)
    rw [← eT] at can1 low1 sub1 has n2
    refine bX1_extend_31 (hS := ih (by omega) low1 (by omega) can1 hb h96) (kk := ?_)
    rintro h1 ⟨⟨k1, b1⟩, x1, x2, x3⟩
    have e96 : h1 96 = h 96 := k1 96 (by decide)
    obtain ⟨w1, w2⟩ := and16 d1 (show m16 (h 96 g) by rw [eT]; exact mT)
    refine bX1_extend_59 (r2 := bAnd_R _ _) (kt := fun z => ?_) (kf := fun z => ?_)
    · rw [e96] at z
      refine bX1_extend_78 (hq := ⟨rfl, rfl, ⟨k1, b1⟩, x1, fun y hy => ?_, ?_⟩)
      · by_cases yg : bt y g.toNat = true
        · exact x2 y (has y hy yg)
        · -- with the gap it is more
          have yg : bt y g.toNat = false := by
            cases e : bt y g.toNat with
            | false => rfl
            | true => exact absurd e yg
          obtain ⟨u1, u2⟩ := or16 hy.1 o1
          have free : ∀ j, bt y j = true → bt (T g) j = false := fun j p => by
            rcases hy.2.2.2 j p with r | r
            · exact tg' j r
            · have := (zero16 w1).mp z j
              rw [w2, d2, r, eT, decide_eq_true (by rintro e; rw [show j = g.toNat by omega, yg] at p; cases p)] at this
              simpa using this
          have iy : inIS T left taken (bOr y (1 * 2 ^ g.toNat)) := by
            refine ⟨u1, fun a b p r => ?_, fun j p => by rw [u2, hy.2.2.1 j p]; rfl, fun j p => ?_⟩
            · rw [u2, o2] at p r
              simp only [Bool.or_eq_true, decide_eq_true_eq] at p r
              rcases p with p | p <;> rcases r with r | r
              · exact hy.2.1 a b p r
              · rw [r]
                have := sy a g.toNat (bit_lt hy.1 p) (by omega)
                rw [ng] at this
                rw [this]; exact free a p
              · rw [p, ng]; exact free b r
              · rw [p, r, ng]; exact sf
            · rw [u2, o2] at p
              simp only [Bool.or_eq_true, decide_eq_true_eq] at p
              rcases p with p | p
              · exact hy.2.2.2 j p
              · rw [p]; exact Or.inr hg.2.1
          have := x2 _ (has _ iy (by rw [u2, o2]; simp))
          have ad := (add16 hy.1 g0 g16 yg).1
          exact leB.tr (Or.inl (by omega)) this
      · rcases x3 with e | e
        · exact Or.inl e
        · exact Or.inr (sub1 _ e)
    · -- without the gap
      have can2 : canT T (bAnd left (left - 1)) taken := ⟨d1, c2, c3, fun j p => by
        rw [d2] at p
        simp only [Bool.and_eq_true] at p
        exact c4 j p.1, fun a j p r => by
        rw [d2] at r
        simp only [Bool.and_eq_true] at r
        exact c5 a j p r.1⟩
      have low2 : ∀ j, j < 16 - d → bt (bAnd left (left - 1)) j = false := fun j hj => by
        rw [d2]
        by_cases e : j = 16 - (d + 1)
        · rw [decide_eq_false (by omega)]; simp
        · rw [hlow j (by omega)]; simp
      refine bX1_extend_71 (hS := ih (by omega) low2 (by omega) can2 b1 (by rw [e96]; exact h96)) (kk := ?_)
      rintro h2 ⟨⟨k2, b2⟩, v1, v2, v3⟩
      refine bX1_extend_78 (hq := ⟨rfl, rfl, ⟨fun c hc => by rw [k2 c hc, k1 c hc], b2⟩, leB.tr x1 v1, fun y hy => ?_, ?_⟩)
      · by_cases yg : bt y g.toNat = true
        · exact leB.tr (x2 y (has y hy yg)) v1
        · refine v2 y ⟨hy.1, hy.2.1, hy.2.2.1, fun j p => ?_⟩
          rcases hy.2.2.2 j p with r | r
          · exact Or.inl r
          · refine Or.inr ?_
            rw [d2, r, decide_eq_true (by rintro e; rw [show j = g.toNat by omega] at p; exact yg p)]
            rfl
      · rcases v3 with e | e
        · rw [e]
          rcases x3 with e2 | e2
          · exact Or.inl e2
          · exact Or.inr (sub1 _ e2)
        · refine Or.inr ⟨e.1, e.2.1, e.2.2.1, fun j p => ?_⟩
          rcases e.2.2.2 j p with r | r
          · exact Or.inl r
          · rw [d2] at r
            simp only [Bool.and_eq_true] at r
            exact Or.inr r.1
theorem full_bit : ∀ j : Fin 16, bt 65535 j.val = true := by decide
theorem c_choose {fr : Nat} {T : Int → Int} {h : AH} (hf : 20 ≤ fr) (hT : symT T) (h96 : ∀ a, 0 ≤ a → a < 16 → h 96 a = T a) : Sp mX1_choose true fr 0 0 [zR 95] 137 h (rI (fun x h' => (∀ c, c ≠ 95 → h' c = h c) ∧ bestR T x)) := by
  refine Sp.mk yX1_choose_ok rfl rfl ?_
  have z0 : m16 0 := by constructor <;> decide
  have b0 : bst (up (up (up h 95 2 0) 95 3 0) 95 4 0) := ⟨z0, show (0 : Int) = pop16 0 by decide, show (0 : Int) = sumM 0 by decide⟩
  refine bX1_choose_0 (hS := c_extend hT 16 (by omega) (fun j hj => by omega) (by omega) ⟨by constructor <;> decide, z0, fun a b p => (by rw [bt_zero] at p; cases p), fun j _ => bt_zero j, fun a j p => (by rw [bt_zero] at p; cases p)⟩ b0 (fun a p q => by rw [up_n (by decide), up_n (by decide), up_n (by decide)]; exact h96 a p q)) (kk := ?_)
  rintro h1 ⟨⟨k1, b1⟩, x1, x2, x3⟩
  have all : ∀ y, m16 y → ind T y → inIS T 65535 0 y := fun y m i => ⟨m, i, fun j p => (by rw [bt_zero] at p; cases p), fun j p => Or.inr (full_bit ⟨j, bit_lt m p⟩)⟩
  have i0 : ind T 0 := fun a b p => (by rw [bt_zero] at p; cases p)
  refine bX1_choose_22 (hq := ⟨_, rfl, rfl, fun c hc => by rw [k1 c hc, up_n hc, up_n hc, up_n hc], b1.1, ?_, fun y m i => x2 y (all y m i)⟩)
  rcases x3 with e | e
  · rw [e]; exact i0
  · exact e.2.1
