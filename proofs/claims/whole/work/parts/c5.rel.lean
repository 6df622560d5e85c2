/-! ===== both sides tell the same: the relation between the class's cells and the model's ===== -/
/-- what was said: masks by tick, a list of pairs -/
def sdR (nS n : Int) (M S T : Int → Int) : Prop := (0 ≤ n ∧ n ≤ 200) ∧ (∀ k, 0 ≤ k → k < n → (0 ≤ S k ∧ S k < nS) ∧ 0 ≤ T k ∧ T k < 200) ∧ (∀ u, 0 ≤ u → u < 200 → (0 ≤ M u ∧ M u < 256) ∧ ∀ j : Nat, bt (M u) j = true → (j : Int) < nS) ∧ ∀ (u : Nat) (s : Int), u < 200 → 0 ≤ s → s < 8 → timesIn (fun k => S k) (fun k => T k) n.toNat s u = if bt (M u) s.toNat = true then 1 else 0
/-- what was told -/
def tlR (nS n : Int) (tl U : Int → Int) : Prop := (0 ≤ n ∧ n ≤ 60) ∧ (∀ i, 0 ≤ i → i < n → -1 ≤ U i ∧ U i < nS) ∧ ∀ t, 0 ≤ t → t < 60 → tl t = if t < n then U t else -1
/-- the round -/
def rnR (nS n : Int) (P V : Int → Int) : Prop := (0 ≤ n ∧ n ≤ 16) ∧ ∀ i, 0 ≤ i → i < 16 → P i = V i ∧ -1 ≤ V i ∧ V i < nS
/-- the ears -/
def stR (X Y W : Int → Int) : Prop := ∀ e, 0 ≤ e → e < 3 → (X e = W (2 * e) ∧ Y e = W (2 * e + 1)) ∧ (0 ≤ X e ∧ X e ≤ 30) ∧ 0 ≤ Y e ∧ Y e ≤ 30
def scP (nS : Int) (A M tl rd X Y : Int → Int) (n m l : Int) (S T U V W : Int → Int) : Prop := (A 1 = n ∧ A 3 = m ∧ A 5 = l) ∧ sdR nS n M S T ∧ tlR nS m tl U ∧ rnR nS l rd V ∧ stR X Y W
def liveR (h : AH) : Prop := scP (h 98 1) (h 34) (h 35) (h 36) (h 37) (h 38) (h 39) (h 98 50) (h 98 68) (h 98 66) (h 116) (h 117) (h 124) (h 123) (h 128)
def keptR (h : AH) : Prop := scP (h 98 1) (h 40) (h 41) (h 42) (h 43) (h 44) (h 45) (h 98 79) (h 98 80) (h 98 81) (h 132) (h 133) (h 134) (h 135) (h 136)
def tapR (h : AH) : Prop := (0 ≤ h 1 1 ∧ h 1 1 ≤ 700) ∧ h 98 16 = h 1 1 ∧ ∀ i, 0 ≤ i → i < h 1 1 → (-128 ≤ h 2 i ∧ h 2 i < 128) ∧ h 106 i = h 2 i % 256
def cntR (h : AH) : Prop := h 98 18 = h 1 2 ∧ ∀ j, 0 ≤ j → j ≤ 2 → h 107 j = h 3 j
def nowR (h : AH) : Prop := (h 1 4 = 4 ∧ h 1 5 = 19) ∨ (h 1 4 = 19 ∧ h 1 5 = 4)
def telR (h : AH) : Prop := okD (dM h) ∧ simD (dC h (h 1 4)) (dM h)
def imgR (h : AH) : Prop := h 98 78 = h 1 8 ∧ (h 1 8 = 0 ∨ h 1 8 = 1) ∧ (h 1 8 = 1 → keptR h)
def gueR (h : AH) : Prop := (∀ i, 0 ≤ i → i < 32 → 0 ≤ h 86 i ∧ h 86 i ≤ 1881) ∧ guOk h (h 1 4) (h (h 1 4 + 9) 12)
def truR (h : AH) : Prop := truOk h (h 1 4) (h (h 1 4 + 9) 12)
def verR (h : AH) : Prop := ∃ g D, vtop h g D ∧ (g = 56 ∨ g = h 1 4)
def REL (h : AH) : Prop := nowR h ∧ tapR h ∧ cntR h ∧ telR h ∧ (h 98 46 = 0 ∧ h 98 47 = -1) ∧ liveR h ∧ imgR h ∧ rootsC h ∧ verR h ∧ gueR h ∧ truR h
theorem nowR.g {h : AH} (hn : nowR h) : h 1 4 = 4 ∨ h 1 4 = 19 := by unfold nowR at hn; omega
theorem nowR.gg {h : AH} (hn : nowR h) : isG (h 1 4) := by unfold nowR at hn; unfold isG; omega
theorem dM00 (h : AH) : dM h 0 0 = h 98 1 := rfl
theorem dM01 (h : AH) : dM h 0 1 = h 98 2 := rfl
theorem dM02 (h : AH) : dM h 0 2 = h 98 3 := rfl
theorem dM03 (h : AH) : dM h 0 3 = h 98 4 := rfl
theorem dM04 (h : AH) : dM h 0 4 = h 98 5 := rfl
theorem dM05 (h : AH) : dM h 0 5 = h 98 6 := rfl
theorem dM06 (h : AH) : dM h 0 6 = h 98 7 := rfl
/-- the class's counts are the model's -/
theorem telR.c {h : AH} (ht : telR h) {i : Int} (i0 : 0 ≤ i ∧ i ≤ 6) : h (h 1 4) i = h 98 (i + 1) := by
  have := ht.2.1 i i0.1 i0.2
  rw [dC0] at this
  rw [← this]
  unfold dM
  rw [if_pos rfl, if_pos i0]
theorem telR.okC {h : AH} (ht : telR h) : okD (dC h (h 1 4)) := ht.2.symm.ok ht.1
theorem REL.mok {h : AH} (hr : REL h) : okM h := by
  obtain ⟨-, -, -, ⟨hd, -⟩, ⟨q1, q2⟩, ⟨⟨-, -, -⟩, ⟨s1, s2, -⟩, ⟨t1, t2, -⟩, ⟨r1, r2⟩, st⟩, -⟩ := hr
  refine ⟨hd, q1, q2, s1, s2, r1, fun i a b => (r2 i a b).2, t1, t2, fun i a b => ?_⟩
  rcases (show i = 0 ∨ i = 1 ∨ i = 2 ∨ i = 3 ∨ i = 4 ∨ i = 5 by omega) with e | e | e | e | e | e <;> rw [e]
  · have := st 0 (by decide) (by decide); have q : h 38 0 = h 128 0 := this.1.1; rw [← q]; exact this.2.1
  · have := st 0 (by decide) (by decide); have q : h 39 0 = h 128 1 := this.1.2; rw [← q]; exact this.2.2
  · have := st 1 (by decide) (by decide); have q : h 38 1 = h 128 2 := this.1.1; rw [← q]; exact this.2.1
  · have := st 1 (by decide) (by decide); have q : h 39 1 = h 128 3 := this.1.2; rw [← q]; exact this.2.2
  · have := st 2 (by decide) (by decide); have q : h 38 2 = h 128 4 := this.1.1; rw [← q]; exact this.2.1
  · have := st 2 (by decide) (by decide); have q : h 39 2 = h 128 5 := this.1.2; rw [← q]; exact this.2.2
theorem verR.ret {h : AH} (hv : verR h) : retOk h 47 (h 1 4) ∧ sumZ h := by
  obtain ⟨g, D, ⟨⟨⟨_, _⟩, e1, -⟩, n, e2, r, z, -⟩, -⟩ := hv
  exact ⟨retOk_swap (e2.symm.tr e1) r, z⟩
theorem REL.ear {h : AH} (hr : REL h) : earC h := by
  obtain ⟨n, -, -, t, -, l, -, -, v, -⟩ := hr
  obtain ⟨r, z⟩ := v.ret
  refine ⟨n.g, t.okC, r, z, fun u a b => ?_⟩
  have := l.2.1.2.2.1 u a b
  rw [t.c (i := 0) (by decide)]
  exact this
theorem REL.now {h : AH} (hr : REL h) : nowOk h := hr.ear.now
/-! what keeps it -/
theorem scP.cg {nS : Int} {A A' M M' tl tl' rd rd' X X' Y Y' : Int → Int} {n m l : Int} {S S' T T' U U' V V' W W' : Int → Int} (hs : scP nS A M tl rd X Y n m l S T U V W)
    (a1 : A' 1 = A 1 ∧ A' 3 = A 3 ∧ A' 5 = A 5) (e1 : ∀ u, 0 ≤ u → u < 200 → M' u = M u) (e2 : ∀ u, 0 ≤ u → u < 60 → tl' u = tl u) (e3 : ∀ u, 0 ≤ u → u < 16 → rd' u = rd u) (e4 : ∀ u, 0 ≤ u → u < 3 → X' u = X u ∧ Y' u = Y u)
    (e5 : ∀ u, 0 ≤ u → u < 200 → S' u = S u ∧ T' u = T u) (e6 : ∀ u, 0 ≤ u → u < 60 → U' u = U u) (e7 : ∀ u, 0 ≤ u → u < 16 → V' u = V u) (e8 : ∀ u, 0 ≤ u → u < 6 → W' u = W u) : scP nS A' M' tl' rd' X' Y' n m l S' T' U' V' W' := by
  obtain ⟨⟨p1, p2, p3⟩, ⟨s1, s2, s3, s4⟩, ⟨t1, t2, t3⟩, ⟨r1, r2⟩, st⟩ := hs
  refine ⟨⟨by rw [a1.1]; exact p1, by rw [a1.2.1]; exact p2, by rw [a1.2.2]; exact p3⟩, ⟨s1, fun k a b => ?_, fun u a b => ?_, fun u s a b c => ?_⟩, ⟨t1, fun i a b => ?_, fun t a b => ?_⟩, ⟨r1, fun i a b => ?_⟩, fun e a b => ?_⟩
  · rw [(e5 k a (by omega)).1, (e5 k a (by omega)).2]; exact s2 k a b
  · rw [e1 u a b]; exact s3 u a b
  · rw [e1 u (by omega) (by omega), ← s4 u s a b c]
    exact sg_cong (fun k hk => by
      show (if S' k = s ∧ T' k = u then (1 : Int) else 0) = if S k = s ∧ T k = u then 1 else 0
      rw [(e5 k (by omega) (by omega)).1, (e5 k (by omega) (by omega)).2])
  · rw [e6 i a (by omega)]; exact t2 i a b
  · rw [e2 t a b, e6 t a b]; exact t3 t a b
  · rw [e3 i a b, e7 i a b]; exact r2 i a b
  · rw [(e4 e a b).1, (e4 e a b).2, e8 (2 * e) (by omega) (by omega), e8 (2 * e + 1) (by omega) (by omega)]; exact st e a b
/-- the permanent cells of the class -/
def perX (c : Int) : Prop := (1 ≤ c ∧ c ≤ 45) ∨ c = 93
theorem guOk_same {h h' : AH} {g ai : Int} (e0 : h' 82 = h 82) (e1 : h' 83 = h 83) (e2 : h' 35 = h 35) (e3 : h' 36 = h 36) (eg : h' g = h g) (eD : ∀ k, 0 ≤ k → k ≤ 14 → h' (g + k) = h (g + k)) (hk : guOk h g ai) : guOk h' g ai := by
  have d1 : dC h' g 1 = dC h g 1 := eD 1 (by decide) (by decide)
  have th : ∀ sh, thT (dC h' g) sh ai = thT (dC h g) sh ai := fun sh => by
    funext s
    show dC h' g 1 s * sh / 100 * ai / 100 = dC h g 1 s * sh / 100 * ai / 100
    rw [d1]
  unfold guOk ansV RvC EqC at hk ⊢
  rw [e0, e1, e2, e3, eg, d1, th]
  exact hk
theorem truOk_same {h h' : AH} {g ai : Int} (e0 : h' 88 = h 88) (e1 : h' 89 = h 89) (e3 : h' 36 = h 36) (eg : h' g = h g) (eD : ∀ k, 0 ≤ k → k ≤ 14 → h' (g + k) = h (g + k)) (hk : truOk h g ai) : truOk h' g ai := by
  have ea : (fun s d => amp (dC h' g) 0 ai 0 (-1) s d) = (fun s d => amp (dC h g) 0 ai 0 (-1) s d) := ampA_c (D := dC h g) (E := dC h' g) (fun k a b => eD k a b) 0 ai 0 (-1)
  unfold truOk at hk ⊢
  rw [e0, e1, e3, eg, ea]
  exact hk
/-- the verses' part stays -/
theorem vtop.keep2 {h h' : AH} {g : Int} {D : DT} (ht : vtop h g D) (ec : ∀ c, (c < 47 ∨ 54 < c) → (55 ≤ c → c ≤ 79) → c ≠ 1 → c ≠ 2 → c ≠ 3 → ¬ (34 ≤ c ∧ c ≤ 46) → h' c = h c) (e1 : h' 1 4 = h 1 4) (hr : retOk h' 47 (h 1 4)) (hz : sumZ h') : vtop h' g D := by
  obtain ⟨hv, n, e2, -, -, f⟩ := ht
  have hg := hv.1.1
  have ng : isG (h 1 4) := by unfold isG; omega
  have eD : ∀ g', isG g' → ∀ k, 0 ≤ k → k ≤ 14 → h' (g' + k) = h (g' + k) := fun g' hg' k a b => by
    unfold isG at hg'
    exact ec _ (by omega) (by omega) (by omega) (by omega) (by omega) (by omega)
  have e55 : ∀ c, 55 ≤ c → c ≤ 79 → h' c = h c := fun c a b => ec c (by omega) (by omega) (by omega) (by omega) (by omega) (by omega)
  refine ⟨?_, by rw [e1]; exact n, ?_, ?_, hz, figs.same (e55 74 (by decide) (by decide)) (e55 75 (by decide) (by decide)) f⟩
  · obtain ⟨⟨-, h0⟩, he, hd, htt, w1, w2⟩ := hv
    refine ⟨⟨hg, by rw [e55 55 (by decide) (by decide)]; exact h0⟩, fun k a b => ?_, hd, ?_, ?_, ?_⟩
    · show h' (g + k) = D k
      rw [eD g hg k a b]; exact he k a b
    · unfold vts vtab at htt ⊢
      rw [e55 55 (by decide) (by decide), e55 71 (by decide) (by decide), e55 72 (by decide) (by decide), e55 73 (by decide) (by decide)]
      exact htt
    · rw [e55 78 (by decide) (by decide)]; exact w1
    · rw [e55 75 (by decide) (by decide)]; exact w2
  · rw [e1]
    intro k a b
    show h' (h 1 4 + k) = D k
    rw [eD _ ng k a b]; exact e2 k a b
  · have : eqD (dC h' g) (dC h' (h 1 4)) := fun k a b => by
      show h' (h 1 4 + k) = h' (g + k)
      rw [eD _ ng k a b, eD g hg k a b]
      exact (e2 k a b).trans (hv.2.1 k a b).symm
    exact retOk_swap this hr
/-- nothing of the class's, nothing lasting of the model's changed -/
def keepQ (h h' : AH) : Prop := (∀ c, c ≤ 97 → h' c = h c) ∧ (∀ c, 99 ≤ c → c ≤ 136 → perC c → h' c = h c) ∧ ∀ i, perF i → h' 98 i = h 98 i
theorem keepM.q {h h' : AH} (hk : keepM h h') : keepQ h h' := ⟨fun c hc => hk.1 c (Or.inl hc), fun c _ _ hp => hk.1 c hp, hk.2⟩
theorem keepQ.out (h : AH) (i v : Int) : keepQ h (up h 137 i v) := ⟨fun c hc => up_n (by omega), fun c _ hc _ => up_n (by omega), fun i _ => by rw [up_n (by decide)]⟩
theorem keepQ.rf (h : AH) : keepQ h h := ⟨fun _ _ => rfl, fun _ _ _ _ => rfl, fun _ _ => rfl⟩
theorem keepQ.tr {a b c : AH} (h1 : keepQ a b) (h2 : keepQ b c) : keepQ a c := ⟨fun x p => by rw [h2.1 x p, h1.1 x p], fun x p q r => by rw [h2.2.1 x p q r, h1.2.1 x p q r], fun i p => by rw [h2.2.2 i p, h1.2.2 i p]⟩
theorem keepQ.dm {h h' : AH} (hk : keepQ h h') : dM h' = dM h := dM_eq (fun i a b => hk.2.2 i (by unfold perF; omega)) (fun c a b => hk.2.1 c a (by omega) (by unfold perC; omega))
theorem REL.same {h h' : AH} (hr : REL h) (hk : keepQ h h') : REL h' := by
  obtain ⟨n, tp, cn, te, ⟨q1, q2⟩, lv, im, rt, ve, gu, tr⟩ := hr
  have eD := hk.dm
  obtain ⟨kc, km, kf⟩ := hk
  have ng := n.gg
  have f : ∀ i, ((1 ≤ i ∧ i ≤ 7) ∨ i = 16 ∨ i = 18 ∨ i = 46 ∨ i = 47 ∨ i = 50 ∨ i = 66 ∨ i = 68 ∨ (78 ≤ i ∧ i ≤ 81)) → h' 98 i = h 98 i := kf
  have m : ∀ c, ((99 ≤ c ∧ c ≤ 107) ∨ c = 116 ∨ c = 117 ∨ c = 123 ∨ c = 124 ∨ c = 128 ∨ (132 ≤ c ∧ c ≤ 136)) → h' c = h c := fun c hc => km c (by omega) (by omega) (by unfold perC; omega)
  have c1 : h' 1 = h 1 := kc 1 (by decide)
  have gc : ∀ k, 0 ≤ k → k ≤ 14 → h' (h 1 4 + k) = h (h 1 4 + k) := fun k a b => kc _ (by unfold isG at ng; omega)
  have gc0 : h' (h 1 4) = h (h 1 4) := by have := gc 0 (by decide) (by decide); rw [Int.add_zero] at this; exact this
  obtain ⟨ret, z⟩ := verR.ret ve
  refine ⟨?_, ?_, ?_, ?_, ?_, ?_, ?_, ?_, ?_, ?_, ?_⟩
  · unfold nowR at n ⊢; rw [c1]; exact n
  · unfold tapR at tp ⊢; rw [c1, kc 2 (by decide), m 106 (by decide), f 16 (by decide)]; exact tp
  · unfold cntR at cn ⊢; rw [c1, kc 3 (by decide), m 107 (by decide), f 18 (by decide)]; exact cn
  · unfold telR at te ⊢; rw [eD, c1]; exact ⟨te.1, te.2.eq (fun k a b => gc k a b)⟩
  · exact ⟨by rw [f 46 (by decide)]; exact q1, by rw [f 47 (by decide)]; exact q2⟩
  · unfold liveR at lv ⊢
    rw [f 1 (by decide), f 50 (by decide), f 66 (by decide), f 68 (by decide), kc 34 (by decide), kc 35 (by decide), kc 36 (by decide), kc 37 (by decide), kc 38 (by decide), kc 39 (by decide), m 116 (by decide), m 117 (by decide), m 123 (by decide), m 124 (by decide), m 128 (by decide)]
    exact lv
  · unfold imgR keptR at im ⊢
    rw [c1, f 1 (by decide), f 78 (by decide), f 79 (by decide), f 80 (by decide), f 81 (by decide), kc 40 (by decide), kc 41 (by decide), kc 42 (by decide), kc 43 (by decide), kc 44 (by decide), kc 45 (by decide), m 132 (by decide), m 133 (by decide), m 134 (by decide), m 135 (by decide), m 136 (by decide)]
    exact im
  · unfold rootsC at rt ⊢; rw [kc 93 (by decide)]; exact rt
  · obtain ⟨g, D, v, w⟩ := ve
    exact ⟨g, D, v.keep2 (fun c a b _ _ _ _ => kc c (by omega)) (by rw [c1]) (retOk_same (kc 47 (by decide)) (kc (47 + 1) (by decide)) (kc (47 + 2) (by decide)) gc0 gc ret) (by unfold sumZ at z ⊢; rw [kc 54 (by decide)]; exact z), by rw [c1]; exact w⟩
  · unfold gueR at gu ⊢
    rw [c1, gc 9 (by decide) (by decide), kc 86 (by decide)]
    exact ⟨gu.1, guOk_same (kc 82 (by decide)) (kc 83 (by decide)) (kc 35 (by decide)) (kc 36 (by decide)) gc0 gc gu.2⟩
  · unfold truR at tr ⊢
    rw [c1, gc 9 (by decide) (by decide)]
    exact truOk_same (kc 88 (by decide)) (kc 89 (by decide)) (kc 36 (by decide)) gc0 gc tr
/-- the class answered: what lasts stays, its memories are right -/
theorem REL.cls {h h1 : AH} (hr : REL h) (hp : ∀ c, perX c → h1 c = h c) (hm : ∀ c, 98 ≤ c → c ≤ 136 → h1 c = h c) (hv : verR h1) (hg : gueR h1) (ht : truR h1) : REL h1 := by
  obtain ⟨n, tp, cn, te, ⟨q1, q2⟩, lv, im, rt, -, -, -⟩ := hr
  have ng := n.gg
  have kc : ∀ c, 1 ≤ c → c ≤ 45 → h1 c = h c := fun c a b => hp c (Or.inl ⟨a, b⟩)
  have eD : dM h1 = dM h := dM_eq (fun i a b => by rw [hm 98 (by decide) (by decide)]) (fun c a b => hm c (by omega) (by omega))
  have c1 : h1 1 = h 1 := kc 1 (by decide) (by decide)
  have gc : ∀ k, 0 ≤ k → k ≤ 14 → h1 (h 1 4 + k) = h (h 1 4 + k) := fun k a b => kc _ (by unfold nowR at n; omega) (by unfold nowR at n; omega)
  have m : ∀ c, (98 ≤ c ∧ c ≤ 136) → h1 c = h c := fun c hc => hm c hc.1 hc.2
  have k : ∀ c, (1 ≤ c ∧ c ≤ 45) → h1 c = h c := fun c hc => kc c hc.1 hc.2
  refine ⟨?_, ?_, ?_, ?_, ?_, ?_, ?_, ?_, hv, hg, ht⟩
  · unfold nowR at n ⊢; rw [c1]; exact n
  · unfold tapR at tp ⊢; rw [c1, k 2 (by decide), m 106 (by decide), m 98 (by decide)]; exact tp
  · unfold cntR at cn ⊢; rw [c1, k 3 (by decide), m 107 (by decide), m 98 (by decide)]; exact cn
  · unfold telR at te ⊢; rw [eD, c1]; exact ⟨te.1, te.2.eq (fun k a b => gc k a b)⟩
  · rw [m 98 (by decide)]; exact ⟨q1, q2⟩
  · unfold liveR at lv ⊢
    rw [m 98 (by decide), k 34 (by decide), k 35 (by decide), k 36 (by decide), k 37 (by decide), k 38 (by decide), k 39 (by decide), m 116 (by decide), m 117 (by decide), m 123 (by decide), m 124 (by decide), m 128 (by decide)]
    exact lv
  · unfold imgR keptR at im ⊢
    rw [c1, m 98 (by decide), k 40 (by decide), k 41 (by decide), k 42 (by decide), k 43 (by decide), k 44 (by decide), k 45 (by decide), m 132 (by decide), m 133 (by decide), m 134 (by decide), m 135 (by decide), m 136 (by decide)]
    exact im
  · unfold rootsC at rt ⊢; rw [hp 93 (Or.inr rfl)]; exact rt
theorem gueR.same {h h1 : AH} (n : nowR h) (gu : gueR h) (kc : ∀ c, 1 ≤ c → c ≤ 45 → h1 c = h c) (e82 : h1 82 = h 82) (e83 : h1 83 = h 83) (e86 : h1 86 = h 86) : gueR h1 := by
  have gc : ∀ k, 0 ≤ k → k ≤ 14 → h1 (h 1 4 + k) = h (h 1 4 + k) := fun k a b => kc _ (by unfold nowR at n; omega) (by unfold nowR at n; omega)
  have gc0 : h1 (h 1 4) = h (h 1 4) := by have := gc 0 (by decide) (by decide); rw [Int.add_zero] at this; exact this
  unfold gueR at gu ⊢
  rw [kc 1 (by decide) (by decide), gc 9 (by decide) (by decide), e86]
  exact ⟨gu.1, guOk_same e82 e83 (kc 35 (by decide) (by decide)) (kc 36 (by decide) (by decide)) gc0 gc gu.2⟩
theorem truR.same {h h1 : AH} (n : nowR h) (tr : truR h) (kc : ∀ c, 1 ≤ c → c ≤ 45 → h1 c = h c) (e88 : h1 88 = h 88) (e89 : h1 89 = h 89) : truR h1 := by
  have gc : ∀ k, 0 ≤ k → k ≤ 14 → h1 (h 1 4 + k) = h (h 1 4 + k) := fun k a b => kc _ (by unfold nowR at n; omega) (by unfold nowR at n; omega)
  have gc0 : h1 (h 1 4) = h (h 1 4) := by have := gc 0 (by decide) (by decide); rw [Int.add_zero] at this; exact this
  unfold truR at tr ⊢
  rw [kc 1 (by decide) (by decide), gc 9 (by decide) (by decide)]
  exact truOk_same e88 e89 (kc 36 (by decide) (by decide)) gc0 gc tr
/-- it heard something -/
theorem REL.hear {h h1 : AH} (hr : REL h) (kc : ∀ c, (c < 47 ∨ 54 < c) → c ≠ 81 → c ≠ 94 → (c < 95 ∨ 97 < c) → h1 c = h c) (r : retOk h1 47 (h 1 4)) (z : sumZ h1) : REL h1 := by
  have k : ∀ c, 1 ≤ c → c ≤ 45 → h1 c = h c := fun c a b => kc c (by omega) (by omega) (by omega) (by omega)
  have hr0 := hr
  obtain ⟨n, -, -, -, -, -, -, -, ⟨g, D, ve, w⟩, gu, tr⟩ := hr0
  refine hr.cls (fun c hc => kc c (by unfold perX at hc; omega) (by unfold perX at hc; omega) (by unfold perX at hc; omega) (by unfold perX at hc; omega)) (fun c a b => kc c (by omega) (by omega) (by omega) (by omega)) ⟨g, D, ve.keep2 (fun c a b _ _ _ _ => kc c (by omega) (by omega) (by omega) (by omega)) (by rw [k 1 (by decide) (by decide)]) r z, by rw [k 1 (by decide) (by decide)]; exact w⟩ ?_ ?_
  · exact gu.same n k (kc 82 (by decide) (by decide) (by decide) (by decide)) (kc 83 (by decide) (by decide) (by decide) (by decide)) (kc 86 (by decide) (by decide) (by decide) (by decide))
  · exact tr.same n k (kc 88 (by decide) (by decide) (by decide) (by decide)) (kc 89 (by decide) (by decide) (by decide) (by decide))
/-- it looked at lines -/
theorem REL.vers {h h1 : AH} {g : Int} {D : DT} (hr : REL h) (ve : vtop h g D) (w : g = 56 ∨ g = h 1 4) (hk : keptV D g h h1) : REL h1 := by
  have v1 := ve.keep hk
  obtain ⟨⟨⟨ec, ej⟩, -⟩, -⟩ := hk
  have k : ∀ c, 1 ≤ c → c ≤ 45 → h1 c = h c := fun c a b => ec c (by omega) (by omega)
  have hr0 := hr
  obtain ⟨n, -, -, -, -, -, -, -, -, gu, tr⟩ := hr0
  refine hr.cls (fun c hc => ec c (by unfold perX at hc; omega) (by unfold perX at hc; omega)) (fun c a b => ec c (by omega) (by omega)) ⟨g, D, v1, by rw [k 1 (by decide) (by decide)]; exact w⟩ ?_ ?_
  · exact gu.same n k (ec 82 (by decide) (by decide)) (ec 83 (by decide) (by decide)) (ec 86 (by decide) (by decide))
  · exact tr.same n k (ec 88 (by decide) (by decide)) (ec 89 (by decide) (by decide))
/-- it guessed -/
theorem REL.gues {h h1 : AH} (hr : REL h) (kc : ∀ c, (c < 51 ∨ 54 < c) → (c < 82 ∨ 86 < c) → h1 c = h c) (z : sumZ h1) (r86 : ∀ i, 0 ≤ i → i < 32 → 0 ≤ h1 86 i ∧ h1 86 i ≤ 1881) (hg : guOk h1 (h 1 4) (h (h 1 4 + 9) 12)) : REL h1 := by
  have k : ∀ c, 1 ≤ c → c ≤ 45 → h1 c = h c := fun c a b => kc c (by omega) (by omega)
  have hr0 := hr
  obtain ⟨n, -, -, -, -, -, -, -, ve, -, tr⟩ := hr0
  have ret := (verR.ret ve).1
  obtain ⟨g, D, v, w⟩ := ve
  have gc : ∀ k, 0 ≤ k → k ≤ 14 → h1 (h 1 4 + k) = h (h 1 4 + k) := fun j a b => k _ (by unfold nowR at n; omega) (by unfold nowR at n; omega)
  have gc0 : h1 (h 1 4) = h (h 1 4) := by have := gc 0 (by decide) (by decide); rw [Int.add_zero] at this; exact this
  refine hr.cls (fun c hc => kc c (by unfold perX at hc; omega) (by unfold perX at hc; omega)) (fun c a b => kc c (by omega) (by omega)) ⟨g, D, v.keep2 (fun c a b _ _ _ _ => kc c (by omega) (by omega)) (by rw [k 1 (by decide) (by decide)]) (retOk_same (kc 47 (by decide) (by decide)) (kc (47 + 1) (by decide) (by decide)) (kc (47 + 2) (by decide) (by decide)) gc0 gc ret) z, by rw [k 1 (by decide) (by decide)]; exact w⟩ ?_ ?_
  · unfold gueR
    rw [k 1 (by decide) (by decide), gc 9 (by decide) (by decide)]
    exact ⟨r86, hg⟩
  · exact tr.same n k (kc 88 (by decide) (by decide)) (kc 89 (by decide) (by decide))
/-- it sought the sayers -/
theorem REL.sayr {h h1 : AH} (hr : REL h) (kc : ∀ c, (c < 47 ∨ 54 < c) → (c < 88 ∨ 91 < c) → h1 c = h c) (r : retOk h1 47 (h 1 4)) (z : sumZ h1) (ht : truOk h1 (h 1 4) (h (h 1 4 + 9) 12)) : REL h1 := by
  have k : ∀ c, 1 ≤ c → c ≤ 45 → h1 c = h c := fun c a b => kc c (by omega) (by omega)
  have hr0 := hr
  obtain ⟨n, -, -, -, -, -, -, -, ⟨g, D, ve, w⟩, gu, -⟩ := hr0
  have gc : ∀ k, 0 ≤ k → k ≤ 14 → h1 (h 1 4 + k) = h (h 1 4 + k) := fun j a b => k _ (by unfold nowR at n; omega) (by unfold nowR at n; omega)
  refine hr.cls (fun c hc => kc c (by unfold perX at hc; omega) (by unfold perX at hc; omega)) (fun c a b => kc c (by omega) (by omega)) ⟨g, D, ve.keep2 (fun c a b _ _ _ _ => kc c (by omega) (by omega)) (by rw [k 1 (by decide) (by decide)]) r z, by rw [k 1 (by decide) (by decide)]; exact w⟩ ?_ ?_
  · exact gu.same n k (kc 82 (by decide) (by decide)) (kc 83 (by decide) (by decide)) (kc 86 (by decide) (by decide))
  · unfold truR
    rw [k 1 (by decide) (by decide), gc 9 (by decide) (by decide)]
    exact ht
