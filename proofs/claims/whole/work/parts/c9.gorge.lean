/-! ===== image, restore, gorge: both sides ===== -/
theorem cpy_ii {h : AH} {a b i n : Int} (h0 : 0 ≤ i) (h1 : i < n) : cpy h a 0 b 0 n b i = h a i := cpy_i h0 h1
section
variable {h h1 h2 : AH}
theorem R_image (hr : REL h) (e1 : h1 = takenC h) (e2 : h2 = takenM h1) : REL h2 := by
  have hr0 := hr
  obtain ⟨n, -, ⟨-, cn⟩, te, -, lv, im, -, -, gu, tr⟩ := hr0
  have a1 : ∀ c, c ≠ 1 → ¬ (40 ≤ c ∧ c ≤ 45) → h1 c = h c := fun c a b => by
    rw [e1]; unfold takenC
    rw [up_n a, cpy_n (by omega), cpy_n (by omega), up_n (by omega), cpy_n (by omega), up_n (by omega), cpy_n (by omega), up_n (by omega), cpy_n (by omega)]
  have a2 : ∀ c, c ≠ 98 → ¬ (132 ≤ c ∧ c ≤ 136) → h2 c = h1 c := fun c a b => by
    rw [e2]; unfold takenM
    rw [cpy_n (by omega), cpy_n (by omega), cpy_n (by omega), cpy_n (by omega), cpy_n (by omega), up_n a, up_n a, up_n a, up_n a, up_n a]
  have m98 : h1 98 = h 98 := a1 98 (by decide) (by decide)
  have f2 : ∀ j, h2 98 j = if j = 81 then h 98 66 else if j = 80 then h 98 68 else if j = 79 then h 98 50 else if j = 78 then 1 else if j = 0 then 0 else h 98 j := fun j => by
    rw [e2]; unfold takenM
    rw [cpy_n (by decide), cpy_n (by decide), cpy_n (by decide), cpy_n (by decide), cpy_n (by decide), m98]
    show (if j = 81 then h 98 66 else if j = 80 then h 98 68 else if j = 79 then h 98 50 else if j = 78 then 1 else if j = 0 then 0 else h1 98 j) = _
    rw [m98]
  have all : ∀ c, c ≠ 1 → ¬ (40 ≤ c ∧ c ≤ 45) → c ≠ 98 → ¬ (132 ≤ c ∧ c ≤ 136) → h2 c = h c := fun c a b d e => by rw [a2 c d e, a1 c a b]
  have e18 : ∀ j, j ≠ 8 → h2 1 j = h 1 j := fun j a => by
    rw [a2 1 (by decide) (by decide), e1]; unfold takenC
    rw [up_cn a, cpy_n (by decide), cpy_n (by decide), up_n (by decide), cpy_n (by decide), up_n (by decide), cpy_n (by decide), up_n (by decide), cpy_n (by decide)]
  refine hr.scn (fun c a b d e f g i j k x y z o => all c b (by omega) g (by omega)) e18 (fun j hj => by rw [f2]; repeat rw [if_neg (by omega)]) (fun j a b => by rw [all 107 (by decide) (by decide) (by decide) (by decide), all 3 (by decide) (by decide) (by decide) (by decide)]; exact cn j a b) ?_ ?_ (gue2 n gu (fun c a b => all c (by omega) (by omega) (by omega) (by omega)) (e18 4 (by decide)) (all 35 (by decide) (by decide) (by decide) (by decide)) (all 36 (by decide) (by decide) (by decide) (by decide)) (all 82 (by decide) (by decide) (by decide) (by decide)) (all 83 (by decide) (by decide) (by decide) (by decide)) (all 86 (by decide) (by decide) (by decide) (by decide))) (tru2 n tr (fun c a b => all c (by omega) (by omega) (by omega) (by omega)) (e18 4 (by decide)) (all 36 (by decide) (by decide) (by decide) (by decide)) (all 88 (by decide) (by decide) (by decide) (by decide)) (all 89 (by decide) (by decide) (by decide) (by decide)))
  · exact lv.same (fun c a b => all c (by omega) (by omega) (by omega) (by omega)) (fun c a => all c (by omega) (by omega) (by omega) (by omega)) (fun j hj => by rw [f2]; repeat rw [if_neg (by omega)])
  · refine ⟨?_, ?_, fun _ => ?_⟩
    · rw [f2, a2 1 (by decide) (by decide), e1]; rfl
    · rw [a2 1 (by decide) (by decide), e1]; exact Or.inr rfl
    · unfold keptR
      rw [show h2 98 1 = h 98 1 by rw [f2]; rfl, show h2 98 79 = h 98 50 by rw [f2]; rfl, show h2 98 80 = h 98 68 by rw [f2]; rfl, show h2 98 81 = h 98 66 by rw [f2]; rfl]
      have g41 : ∀ u, 0 ≤ u → u < 200 → h2 41 u = h 35 u := fun u a b => by
        rw [a2 41 (by decide) (by decide), e1]; unfold takenC
        rw [up_n (by decide), cpy_n (by decide), cpy_n (by decide), up_n (by decide), cpy_n (by decide), up_n (by decide), cpy_n (by decide), up_n (by decide), cpy_i a b]
      have g42 : ∀ u, 0 ≤ u → u < 60 → h2 42 u = h 36 u := fun u a b => by
        rw [a2 42 (by decide) (by decide), e1]; unfold takenC
        rw [up_n (by decide), cpy_n (by decide), cpy_n (by decide), up_n (by decide), cpy_n (by decide), up_n (by decide), cpy_i a b, up_n (by decide), cpy_n (by decide)]
      have g43 : ∀ u, 0 ≤ u → u < 16 → h2 43 u = h 37 u := fun u a b => by
        rw [a2 43 (by decide) (by decide), e1]; unfold takenC
        rw [up_n (by decide), cpy_n (by decide), cpy_n (by decide), up_n (by decide), cpy_i a b, up_n (by decide), cpy_n (by decide), up_n (by decide), cpy_n (by decide)]
      have g44 : ∀ u, 0 ≤ u → u < 3 → h2 44 u = h 38 u := fun u a b => by
        rw [a2 44 (by decide) (by decide), e1]; unfold takenC
        rw [up_n (by decide), cpy_n (by decide), cpy_i a b, up_n (by decide), cpy_n (by decide), up_n (by decide), cpy_n (by decide), up_n (by decide), cpy_n (by decide)]
      have g45 : ∀ u, 0 ≤ u → u < 3 → h2 45 u = h 39 u := fun u a b => by
        rw [a2 45 (by decide) (by decide), e1]; unfold takenC
        rw [up_n (by decide), cpy_i a b, cpy_n (by decide), up_n (by decide), cpy_n (by decide), up_n (by decide), cpy_n (by decide), up_n (by decide), cpy_n (by decide)]
      have m132 : ∀ u, 0 ≤ u → u < 200 → h2 132 u = h 116 u := fun u a b => by
        rw [e2]; unfold takenM
        rw [cpy_n (by decide), cpy_n (by decide), cpy_n (by decide), cpy_n (by decide), cpy_i a b]; show h1 116 u = _; rw [a1 116 (by decide) (by decide)]
      have m133 : ∀ u, 0 ≤ u → u < 200 → h2 133 u = h 117 u := fun u a b => by
        rw [e2]; unfold takenM
        rw [cpy_n (by decide), cpy_n (by decide), cpy_n (by decide), cpy_i a b, cpy_n (by decide)]; show h1 117 u = _; rw [a1 117 (by decide) (by decide)]
      have m134 : ∀ u, 0 ≤ u → u < 60 → h2 134 u = h 124 u := fun u a b => by
        rw [e2]; unfold takenM
        rw [cpy_n (by decide), cpy_n (by decide), cpy_i a b, cpy_n (by decide), cpy_n (by decide)]; show h1 124 u = _; rw [a1 124 (by decide) (by decide)]
      have m135 : ∀ u, 0 ≤ u → u < 16 → h2 135 u = h 123 u := fun u a b => by
        rw [e2]; unfold takenM
        rw [cpy_n (by decide), cpy_i a b, cpy_n (by decide), cpy_n (by decide), cpy_n (by decide)]; show h1 123 u = _; rw [a1 123 (by decide) (by decide)]
      have m136 : ∀ u, 0 ≤ u → u < 6 → h2 136 u = h 128 u := fun u a b => by
        rw [e2]; unfold takenM
        rw [cpy_i a b, cpy_n (by decide), cpy_n (by decide), cpy_n (by decide), cpy_n (by decide)]; show h1 128 u = _; rw [a1 128 (by decide) (by decide)]
      refine lv.cg ⟨?_, ?_, ?_⟩ g41 g42 g43 (fun u a b => ⟨g44 u a b, g45 u a b⟩) (fun u a b => ⟨m132 u a b, m133 u a b⟩) m134 m135 m136
      · rw [a2 40 (by decide) (by decide), e1]; rfl
      · rw [a2 40 (by decide) (by decide), e1]; rfl
      · rw [a2 40 (by decide) (by decide), e1]; rfl
theorem R_restore (hr : REL h) (h8 : h 1 8 = 1) (e1 : h1 = givenC h) (e2 : h2 = givenM h1) : REL h2 := by
  have hr0 := hr
  obtain ⟨n, -, ⟨-, cn⟩, te, -, -, im, -, -, gu, tr⟩ := hr0
  have kp := im.2.2 h8
  have a1 : ∀ c, ¬ (34 ≤ c ∧ c ≤ 39) → c ≠ 82 → c ≠ 88 → h1 c = h c := fun c a b d => by
    rw [e1]; unfold givenC
    rw [up_n d, up_n b, cpy_n (by omega), cpy_n (by omega), up_n (by omega), cpy_n (by omega), up_n (by omega), cpy_n (by omega), up_n (by omega), cpy_n (by omega)]
  have a2 : ∀ c, c ≠ 98 → c ≠ 116 → c ≠ 117 → c ≠ 123 → c ≠ 124 → c ≠ 128 → h2 c = h1 c := fun c a b d e f g => by
    rw [e2]; unfold givenM
    rw [cpy_n g, cpy_n e, cpy_n f, cpy_n d, cpy_n b, up_n a, up_n a, up_n a, up_n a]
  have m98 : h1 98 = h 98 := a1 98 (by decide) (by decide) (by decide)
  have f2 : ∀ j, h2 98 j = if j = 66 then h 98 81 else if j = 68 then h 98 80 else if j = 50 then h 98 79 else if j = 0 then 0 else h 98 j := fun j => by
    rw [e2]; unfold givenM
    rw [cpy_n (by decide), cpy_n (by decide), cpy_n (by decide), cpy_n (by decide), cpy_n (by decide), m98]
    show (if j = 66 then h 98 81 else if j = 68 then h 98 80 else if j = 50 then h 98 79 else if j = 0 then 0 else h1 98 j) = _
    rw [m98]
  have all : ∀ c, ¬ (34 ≤ c ∧ c ≤ 39) → c ≠ 82 → c ≠ 88 → c ≠ 98 → c ≠ 116 → c ≠ 117 → c ≠ 123 → c ≠ 124 → c ≠ 128 → h2 c = h c := fun c a b d e f g i j k => by rw [a2 c e f g i j k, a1 c a b d]
  have e18 : ∀ j, h2 1 j = h 1 j := fun j => by rw [all 1 (by decide) (by decide) (by decide) (by decide) (by decide) (by decide) (by decide) (by decide) (by decide)]
  refine hr.scn (fun c a b d e f g i j k x y z o => all c (by omega) e f g j k x y z) (fun j _ => e18 j) (fun j hj => by rw [f2]; repeat rw [if_neg (by omega)]) (fun j a b => by rw [all 107 (by decide) (by decide) (by decide) (by decide) (by decide) (by decide) (by decide) (by decide) (by decide), all 3 (by decide) (by decide) (by decide) (by decide) (by decide) (by decide) (by decide) (by decide) (by decide)]; exact cn j a b) ?_ ?_ (gu.gone (all 86 (by decide) (by decide) (by decide) (by decide) (by decide) (by decide) (by decide) (by decide) (by decide)) (by rw [a2 82 (by decide) (by decide) (by decide) (by decide) (by decide) (by decide), e1]; rfl)) (truR.gone (by rw [a2 88 (by decide) (by decide) (by decide) (by decide) (by decide) (by decide), e1]; rfl))
  · unfold liveR
    rw [show h2 98 1 = h 98 1 by rw [f2]; rfl, show h2 98 50 = h 98 79 by rw [f2]; rfl, show h2 98 68 = h 98 80 by rw [f2]; rfl, show h2 98 66 = h 98 81 by rw [f2]; rfl]
    have b2 : ∀ c, 34 ≤ c → c ≤ 39 → h2 c = h1 c := fun c a b => a2 c (by omega) (by omega) (by omega) (by omega) (by omega) (by omega)
    have g35 : ∀ u, 0 ≤ u → u < 200 → h2 35 u = h 41 u := fun u a b => by
      rw [b2 35 (by decide) (by decide), e1]; unfold givenC
      rw [up_n (by decide), up_n (by decide), cpy_n (by decide), cpy_n (by decide), up_n (by decide), cpy_n (by decide), up_n (by decide), cpy_n (by decide), up_n (by decide), cpy_i a b]
    have g36 : ∀ u, 0 ≤ u → u < 60 → h2 36 u = h 42 u := fun u a b => by
      rw [b2 36 (by decide) (by decide), e1]; unfold givenC
      rw [up_n (by decide), up_n (by decide), cpy_n (by decide), cpy_n (by decide), up_n (by decide), cpy_n (by decide), up_n (by decide), cpy_i a b, up_n (by decide), cpy_n (by decide)]
    have g37 : ∀ u, 0 ≤ u → u < 16 → h2 37 u = h 43 u := fun u a b => by
      rw [b2 37 (by decide) (by decide), e1]; unfold givenC
      rw [up_n (by decide), up_n (by decide), cpy_n (by decide), cpy_n (by decide), up_n (by decide), cpy_i a b, up_n (by decide), cpy_n (by decide), up_n (by decide), cpy_n (by decide)]
    have g38 : ∀ u, 0 ≤ u → u < 3 → h2 38 u = h 44 u := fun u a b => by
      rw [b2 38 (by decide) (by decide), e1]; unfold givenC
      rw [up_n (by decide), up_n (by decide), cpy_n (by decide), cpy_i a b, up_n (by decide), cpy_n (by decide), up_n (by decide), cpy_n (by decide), up_n (by decide), cpy_n (by decide)]
    have g39 : ∀ u, 0 ≤ u → u < 3 → h2 39 u = h 45 u := fun u a b => by
      rw [b2 39 (by decide) (by decide), e1]; unfold givenC
      rw [up_n (by decide), up_n (by decide), cpy_i a b, cpy_n (by decide), up_n (by decide), cpy_n (by decide), up_n (by decide), cpy_n (by decide), up_n (by decide), cpy_n (by decide)]
    have mm : ∀ c, 132 ≤ c → h1 c = h c := fun c a => a1 c (by omega) (by omega) (by omega)
    have m116 : ∀ u, 0 ≤ u → u < 200 → h2 116 u = h 132 u := fun u a b => by
      rw [e2]; unfold givenM
      rw [cpy_n (by decide), cpy_n (by decide), cpy_n (by decide), cpy_n (by decide), cpy_i a b]; show h1 132 u = _; rw [mm 132 (by decide)]
    have m117 : ∀ u, 0 ≤ u → u < 200 → h2 117 u = h 133 u := fun u a b => by
      rw [e2]; unfold givenM
      rw [cpy_n (by decide), cpy_n (by decide), cpy_n (by decide), cpy_i a b, cpy_n (by decide)]; show h1 133 u = _; rw [mm 133 (by decide)]
    have m124 : ∀ u, 0 ≤ u → u < 60 → h2 124 u = h 134 u := fun u a b => by
      rw [e2]; unfold givenM
      rw [cpy_n (by decide), cpy_n (by decide), cpy_i a b, cpy_n (by decide), cpy_n (by decide)]; show h1 134 u = _; rw [mm 134 (by decide)]
    have m123 : ∀ u, 0 ≤ u → u < 16 → h2 123 u = h 135 u := fun u a b => by
      rw [e2]; unfold givenM
      rw [cpy_n (by decide), cpy_i a b, cpy_n (by decide), cpy_n (by decide), cpy_n (by decide)]; show h1 135 u = _; rw [mm 135 (by decide)]
    have m128 : ∀ u, 0 ≤ u → u < 6 → h2 128 u = h 136 u := fun u a b => by
      rw [e2]; unfold givenM
      rw [cpy_i a b, cpy_n (by decide), cpy_n (by decide), cpy_n (by decide), cpy_n (by decide)]; show h1 136 u = _; rw [mm 136 (by decide)]
    refine kp.cg ⟨?_, ?_, ?_⟩ g35 g36 g37 (fun u a b => ⟨g38 u a b, g39 u a b⟩) (fun u a b => ⟨m116 u a b, m117 u a b⟩) m124 m123 m128
    · rw [b2 34 (by decide) (by decide), e1]; rfl
    · rw [b2 34 (by decide) (by decide), e1]; rfl
    · rw [b2 34 (by decide) (by decide), e1]; rfl
  · exact im.same (fun c a b => all c (by omega) (by omega) (by omega) (by omega) (by omega) (by omega) (by omega) (by omega) (by omega)) (fun c a b => all c (by omega) (by omega) (by omega) (by omega) (by omega) (by omega) (by omega) (by omega) (by omega)) (e18 8) (fun j hj => by rw [f2]; repeat rw [if_neg (by omega)])
/-- a text was told -/
theorem R_gorOk {E0 F0 : DT} {T : Int → Int} {m : Int} {S S' : PS} (hr : REL h) (hm : 0 ≤ m) (c0 : clrD E0) (c0' : clrD F0) (r1 : rAll T m 700 (0, E0, 0, 0, 0) = .inr S) (r2 : rAll T m 700 (0, F0, 0, 0, 0) = .inr S') (o1 : okD S.2.1) (eC : eqD S.2.1 (dC h1 (h 1 5))) (g1 : gorOk h h1 (h 1 5)) (hx : AH) (kx : ∀ c, c ≠ 137 → hx c = h1 c) (cp : capD S'.2.1 (dM h2)) (o2 : okD S'.2.1) (g2 : mgOk hx h2) : REL h2 := by
  have hr0 := hr
  obtain ⟨n, tp, ⟨cn1, cn2⟩, te, ⟨q1, q2⟩, lv, im, rt, ve, gu, tr⟩ := hr0
  obtain ⟨⟨x1, x2⟩, z54⟩ := verR.ret ve
  obtain ⟨ga, ⟨b1, b2, b4, b5, b8⟩, ⟨s1, s3, s5, t35, t36, t37, t38⟩, ⟨f4, f47⟩, ⟨v0, vv, v55, v74⟩, ⟨u2, u82⟩, w1, w88⟩ := g1
  obtain ⟨ma, ⟨m0, m16, m18, m50, m66, m68, m78⟩, mj, m123, m128⟩ := g2
  have ng : h 1 5 = 4 ∨ h 1 5 = 19 := by unfold nowR at n; omega
  have isg : isG (h 1 5) := by unfold isG; omega
  -- the cells of the class
  have kc : ∀ c, c ≤ 97 → h2 c = h1 c := fun c a => by rw [ma c (by omega) (by omega) (by omega), kx c (by omega)]
  have c1 : h2 1 = h1 1 := kc 1 (by decide)
  have gcl : ∀ c, c ≠ 1 → ¬ (34 ≤ c ∧ c ≤ 39) → c ≠ 46 → c ≠ 47 → c ≠ 55 → ¬ (71 ≤ c ∧ c ≤ 74) → c ≠ 82 → c ≠ 88 → (c < 4 ∨ 33 < c) → h1 c = h c := fun c a b d e f g i j k => ga c a b d e f g i j (by omega)
  have sim0 := rAll_s (T := T) (n := m) 700 0 E0 F0 0 0 0 hm ⟨c0.ok, by decide, Or.inl rfl, Or.inl rfl⟩ (c0.sim c0')
  have sim : simD S.2.1 S'.2.1 := by
    rw [r1, r2] at sim0
    obtain ⟨p, E, a, s, mm⟩ := S
    obtain ⟨p', E', a', s', mm'⟩ := S'
    exact sim0.2.1
  have simM : simD S.2.1 (dM h2) := sim.cap o1 cp
  have te2 : telR h2 := by
    refine ⟨simM.ok o1, ?_⟩
    rw [c1, b4]
    refine (simM.eq eC).eq (fun k a b => ?_)
    exact kc _ (by omega)
  have d8 : (0 ≤ h2 98 1 ∧ h2 98 1 ≤ 8) := te2.1.1
  refine ⟨?_, ?_, ⟨?_, fun j a b => ?_⟩, te2, ?_, ?_, ?_, ?_, ?_, ?_, ?_⟩
  · unfold nowR; rw [c1, b4, b5]; unfold nowR at n; omega
  · refine ⟨by rw [c1, b1]; decide, by rw [c1, b1, m16], fun i a b => ?_⟩
    rw [c1, b1] at b; omega
  · rw [c1, b2, m18]
  · rw [kc 3 (by decide), gcl 3 (by decide) (by decide) (by decide) (by decide) (by decide) (by decide) (by decide) (by decide) (by decide), ma 107 (by omega) (by decide) (by decide), kx 107 (by decide), gcl 107 (by decide) (by omega) (by decide) (by decide) (by decide) (by omega) (by decide) (by decide) (by omega)]
    exact cn2 j a b
  · have hx98 : hx 98 = h 98 := by rw [kx 98 (by decide), gcl 98 (by decide) (by omega) (by decide) (by decide) (by decide) (by omega) (by decide) (by decide) (by omega)]
    exact ⟨by rw [mj 46 (by omega) (by decide) (by decide) (by decide) (by decide), hx98]; exact q1, by rw [mj 47 (by omega) (by decide) (by decide) (by decide) (by decide), hx98]; exact q2⟩
  · unfold liveR
    rw [m50, m66, m68]
    have e : ∀ c, 34 ≤ c → c ≤ 39 → h2 c = h1 c := fun c a b => kc c (by omega)
    refine ⟨⟨?_, ?_, ?_⟩, ⟨by decide, fun k a b => by omega, fun u a b => ?_, fun u s a b c => ?_⟩, ⟨by decide, fun i a b => by omega, fun t a b => ?_⟩, ⟨by decide, fun i a b => ?_⟩, fun e' a b => ?_⟩
    · rw [e 34 (by decide) (by decide)]; exact s1
    · rw [e 34 (by decide) (by decide)]; exact s3
    · rw [e 34 (by decide) (by decide)]; exact s5
    · rw [e 35 (by decide) (by decide), t35 u a b]; exact ⟨by decide, fun j hj => by rw [bt_zero] at hj; cases hj⟩
    · rw [e 35 (by decide) (by decide), t35 u (by omega) (by omega), bt_zero]; rfl
    · rw [e 36 (by decide) (by decide), t36 t a b, if_neg (by omega)]
    · rw [e 37 (by decide) (by decide), t37 i a b, m123 i a b]; omega
    · rw [e 38 (by decide) (by decide), e 39 (by decide) (by decide), (t38 e' a b).1, (t38 e' a b).2, m128 (2 * e') (by omega) (by omega), m128 (2 * e' + 1) (by omega) (by omega)]
      decide
  · exact ⟨by rw [m78, c1, b8], by rw [c1, b8]; exact Or.inl rfl, fun z => by rw [c1, b8] at z; cases z⟩
  · unfold rootsC at rt ⊢
    rw [kc 93 (by decide), gcl 93 (by decide) (by omega) (by decide) (by decide) (by decide) (by omega) (by decide) (by decide) (by omega)]; exact rt
  · -- the verses
    have okS := okD_cong eC o1
    refine ⟨h 1 5, dC h1 (h 1 5), ⟨⟨⟨isg, by rw [kc 55 (by decide)]; exact v0⟩, fun k a b => kc _ (by omega), okS, ?_, ?_, ?_⟩, ?_, ?_, ?_, ?_, ?_⟩, Or.inr (by rw [c1, b4])⟩
    · unfold vts vtab at vv ⊢
      rw [kc 55 (by decide), kc 71 (by decide), kc 72 (by decide), kc 73 (by decide)]
      exact vv
    · rw [kc 78 (by decide), gcl 78 (by decide) (by omega) (by decide) (by decide) (by decide) (by omega) (by decide) (by decide) (by omega)]
      obtain ⟨g, D, v, -⟩ := ve
      exact v.1.2.2.2.2.1
    · rw [kc 75 (by decide), gcl 75 (by decide) (by omega) (by decide) (by decide) (by decide) (by omega) (by decide) (by decide) (by omega)]
      obtain ⟨g, D, v, -⟩ := ve
      exact v.1.2.2.2.2.2
    · rw [c1, b4]; exact ng
    · rw [c1, b4]; exact fun k a b => kc _ (by omega)
    · unfold retOk
      rw [kc 47 (by decide)]
      refine ⟨Or.inl f4, ?_⟩
      rw [f47 5 (by decide), f47 6 (by decide), f47 7 (by decide), f47 8 (by decide)]
      exact x2
    · unfold sumZ at z54 ⊢
      rw [kc 54 (by decide), gcl 54 (by decide) (by omega) (by decide) (by decide) (by decide) (by omega) (by decide) (by decide) (by omega)]; exact z54
    · intro l a b
      refine Or.inl ⟨?_, ?_⟩
      · rw [kc 74 (by decide)]; exact v74 _ (by omega) (by omega)
      · rw [kc 74 (by decide)]; exact v74 _ (by omega) (by omega)
  · refine ⟨?_, Or.inl (by rw [kc 82 (by decide)]; exact u2)⟩
    rw [kc 86 (by decide), gcl 86 (by decide) (by omega) (by decide) (by decide) (by decide) (by omega) (by decide) (by decide) (by omega)]
    exact gu.1
  · exact Or.inl (by rw [kc 88 (by decide)]; exact w1)
/-- a text was refused -/
theorem R_gorNo (hr : REL h) {q : Int} (g1 : gorNo h h1 (h 1 5) q) (hx : AH) (kx : ∀ c, c ≠ 137 → hx c = h1 c) (g2 : mgNo hx h2 q) : REL h2 := by
  have hr0 := hr
  obtain ⟨n, ⟨t0, t1, t2⟩, ⟨cn1, cn2⟩, te, ⟨q1, q2⟩, lv, im, rt, ve, gu, tr⟩ := hr0
  obtain ⟨ga, gj, b1, b2, r0, rj⟩ := g1
  obtain ⟨ma, ⟨mr0, mrj⟩, m0, m16, m18, mj⟩ := g2
  have kc : ∀ c, c ≤ 97 → h2 c = h1 c := fun c a => by rw [ma c (by omega) (by omega), kx c (by omega)]
  have ng : h 1 5 = 4 ∨ h 1 5 = 19 := by unfold nowR at n; omega
  have all : ∀ c, c ≠ 1 → c ≠ 3 → c ≠ 46 → c ≠ 98 → ¬ (107 ≤ c ∧ c ≤ 114) → c ≠ 137 → (c < h 1 5 ∨ h 1 5 + 14 < c) → h2 c = h c := fun c a b d e f g i => by rw [ma c e f, kx c g, ga c a b d i]
  have f98 : ∀ j, ((1 ≤ j ∧ j ≤ 15) ∨ j = 19 ∨ 36 < j) → h2 98 j = h 98 j := fun j a => by rw [mj j a, kx 98 (by decide), ga 98 (by decide) (by decide) (by decide) (by omega)]
  have j1 : ∀ j, j ≠ 1 → j ≠ 2 → h2 1 j = h 1 j := fun j a b => by rw [kc 1 (by decide)]; exact gj j a b
  have al2 : ∀ c, 34 ≤ c → c ≠ 46 → c ≠ 98 → ¬ (107 ≤ c ∧ c ≤ 114) → c ≠ 137 → h2 c = h c := fun c a b d e f => all c (by omega) (by omega) b d e f (by omega)
  have eD : dM h2 = dM h := dM_eq (fun i a b => f98 i (by omega)) (fun c a b => al2 c (by omega) (by omega) (by omega) (by omega) (by omega))
  have gc : ∀ k, 0 ≤ k → k ≤ 14 → h2 (h 1 4 + k) = h (h 1 4 + k) := fun k a b => all _ (by unfold nowR at n; omega) (by unfold nowR at n; omega) (by unfold nowR at n; omega) (by unfold nowR at n; omega) (by unfold nowR at n; omega) (by unfold nowR at n; omega) (by unfold nowR at n; omega)
  have gc0 : h2 (h 1 4) = h (h 1 4) := by have := gc 0 (by decide) (by decide); rw [Int.add_zero] at this; exact this
  have e4 : h2 1 4 = h 1 4 := j1 4 (by decide) (by decide)
  obtain ⟨ret, z⟩ := verR.ret ve
  have lo : ∀ c, 34 ≤ c → c ≤ 97 → c ≠ 46 → h2 c = h c := fun c a b d => al2 c a d (by omega) (by omega) (by omega)
  refine ⟨?_, ?_, ⟨?_, fun j a b => ?_⟩, ?_, ?_, ?_, ?_, ?_, ?_, ?_, ?_⟩
  · unfold nowR at n ⊢; rw [e4, j1 5 (by decide) (by decide)]; exact n
  · have c11 : h2 1 1 = 0 := by rw [kc 1 (by decide)]; exact b1
    refine ⟨by rw [c11]; decide, by rw [c11, m16], fun i a b => ?_⟩
    rw [c11] at b; omega
  · rw [kc 1 (by decide), b2, m18]
  · have hx107 : hx 107 = h 107 := by rw [kx 107 (by decide), ga 107 (by decide) (by decide) (by decide) (by omega)]
    rw [kc 3 (by decide)]
    by_cases c : j = 0
    · rw [c, mr0, r0, hx107, cn2 0 (by decide) (by decide)]
    · rw [mrj j c, rj j c, hx107]; exact cn2 j a b
  · unfold telR at te ⊢; rw [eD, e4]; exact ⟨te.1, te.2.eq (fun k a b => gc k a b)⟩
  · exact ⟨by rw [f98 46 (by omega)]; exact q1, by rw [f98 47 (by omega)]; exact q2⟩
  · exact lv.same (fun c a b => lo c a (by omega) (by omega)) (fun c a => al2 c (by omega) (by omega) (by omega) (by omega) (by omega)) (fun j a => f98 j (by omega))
  · exact im.same (fun c a b => lo c (by omega) (by omega) (by omega)) (fun c a b => al2 c (by omega) (by omega) (by omega) (by omega) (by omega)) (j1 8 (by decide) (by decide)) (fun j a => f98 j (by omega))
  · unfold rootsC at rt ⊢; rw [lo 93 (by decide) (by decide) (by decide)]; exact rt
  · obtain ⟨g, D, ⟨⟨⟨hg, v0⟩, he, hd, ht, w1, w2⟩, nn, e2, rk, -, ff⟩, w⟩ := ve
    have gg : ∀ k, 0 ≤ k → k ≤ 14 → h2 (g + k) = h (g + k) := fun k a b => by
      rcases w with w | w
      · exact lo _ (by omega) (by omega) (by omega)
      · rw [w]; exact gc k a b
    have gg0 : h2 g = h g := by have := gg 0 (by decide) (by decide); rw [Int.add_zero] at this; exact this
    refine ⟨g, D, ⟨⟨⟨hg, by rw [lo 55 (by decide) (by decide) (by decide)]; exact v0⟩, fun k a b => ?_, hd, ?_, ?_, ?_⟩, by rw [e4]; exact nn, ?_, ?_, ?_, ?_⟩, by rw [e4]; exact w⟩
    · show h2 (g + k) = D k
      rw [gg k a b]; exact he k a b
    · unfold vts vtab at ht ⊢
      rw [lo 55 (by decide) (by decide) (by decide), lo 71 (by decide) (by decide) (by decide), lo 72 (by decide) (by decide) (by decide), lo 73 (by decide) (by decide) (by decide)]
      exact ht
    · rw [lo 78 (by decide) (by decide) (by decide)]; exact w1
    · rw [lo 75 (by decide) (by decide) (by decide)]; exact w2
    · rw [e4]
      intro k a b
      show h2 (h 1 4 + k) = D k
      rw [gc k a b]; exact e2 k a b
    · exact retOk_same (lo 47 (by decide) (by decide) (by decide)) (lo (47 + 1) (by decide) (by decide) (by decide)) (lo (47 + 2) (by decide) (by decide) (by decide)) gg0 gg rk
    · unfold sumZ at z ⊢; rw [lo 54 (by decide) (by decide) (by decide)]; exact z
    · exact figs.same (lo 74 (by decide) (by decide) (by decide)) (lo 75 (by decide) (by decide) (by decide)) ff
  · unfold gueR at gu ⊢
    rw [e4, gc 9 (by decide) (by decide), lo 86 (by decide) (by decide) (by decide)]
    exact ⟨gu.1, guOk_same (lo 82 (by decide) (by decide) (by decide)) (lo 83 (by decide) (by decide) (by decide)) (lo 35 (by decide) (by decide) (by decide)) (lo 36 (by decide) (by decide) (by decide)) gc0 gc gu.2⟩
  · unfold truR at tr ⊢
    rw [e4, gc 9 (by decide) (by decide)]
    exact truOk_same (lo 88 (by decide) (by decide) (by decide)) (lo 89 (by decide) (by decide) (by decide)) (lo 36 (by decide) (by decide) (by decide)) gc0 gc tr
end
