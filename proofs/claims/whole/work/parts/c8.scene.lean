/-! ===== say, hush, tell, untell, sing, stand, image, restore: what they change, both sides ===== -/
theorem bt1 {s : Int} (s0 : 0 ≤ s) (s8 : s < 8) : ((0 : Int) ≤ 1 * 2 ^ s.toNat ∧ (1 : Int) * 2 ^ s.toNat < 256) ∧ ∀ j, bt (1 * 2 ^ s.toNat) j = decide (j = s.toNat) := by
  refine ⟨?_, (one16 s0 (by omega)).2⟩
  rcases (show s = 0 ∨ s = 1 ∨ s = 2 ∨ s = 3 ∨ s = 4 ∨ s = 5 ∨ s = 6 ∨ s = 7 by omega) with e | e | e | e | e | e | e | e <;> rw [e] <;> decide
theorem sdR.add {nS n s t : Int} {M S T : Int → Int} (h : sdR nS n M S T) (n8 : nS ≤ 8) (hn : n < 200) (s0 : 0 ≤ s) (s1 : s < nS) (t0 : 0 ≤ t) (t1 : t < 200) (hb : bt (M t) s.toNat = false) {M' S' T' : Int → Int} (eM : ∀ u, M' u = if u = t then bOr (M t) (1 * 2 ^ s.toNat) else M u) (eS : ∀ k, S' k = if k = n then s else S k) (eT : ∀ k, T' k = if k = n then t else T k) : sdR nS (n + 1) M' S' T' := by
  obtain ⟨a1, a2, a3, a4⟩ := h
  obtain ⟨w1, w2⟩ := bt1 s0 (by omega)
  have mt := (a3 t t0 t1).1
  obtain ⟨o1, o2⟩ := or_bits mt.1 mt.2 w1.1 w1.2
  refine ⟨by omega, fun k k0 k1 => ?_, fun u u0 u1 => ?_, fun u r u1 r0 r8 => ?_⟩
  · rw [eS, eT]
    by_cases c : k = n
    · rw [if_pos c, if_pos c]; exact ⟨⟨s0, s1⟩, t0, t1⟩
    · rw [if_neg c, if_neg c]; exact a2 k k0 (by omega)
  · rw [eM]
    by_cases c : u = t
    · rw [if_pos c]
      refine ⟨o1, fun j hj => ?_⟩
      rw [o2, w2] at hj
      by_cases q : j = s.toNat
      · omega
      · rw [decide_eq_false q, Bool.or_false] at hj
        exact (a3 t t0 t1).2 j hj
    · rw [if_neg c]; exact a3 u u0 u1
  · have old := a4 u r u1 r0 r8
    have en : (n + 1).toNat = n.toNat + 1 := by omega
    rw [en]
    show sg (fun k : Nat => if S' k = r ∧ T' k = u then (1 : Int) else 0) n.toNat + (if S' (n.toNat : Int) = r ∧ T' (n.toNat : Int) = u then 1 else 0) = _
    have e1 : sg (fun k : Nat => if S' k = r ∧ T' k = u then (1 : Int) else 0) n.toNat = timesIn (fun k => S k) (fun k => T k) n.toNat r u := sg_cong (fun k hk => by
      show (if S' k = r ∧ T' k = u then (1 : Int) else 0) = if S k = r ∧ T k = u then 1 else 0
      rw [eS, eT, if_neg (c := (k : Int) = n) (by omega), if_neg (c := (k : Int) = n) (by omega)])
    rw [e1, old, eS, eT, if_pos (c := ((n.toNat : Nat) : Int) = n) (by omega), if_pos (c := ((n.toNat : Nat) : Int) = n) (by omega), eM]
    by_cases c : (u : Int) = t
    · rw [if_pos c, o2, w2, c]
      by_cases q : r = s
      · rw [q, hb, if_neg (by decide), if_pos ⟨rfl, rfl⟩, decide_eq_true rfl]; rfl
      · rw [if_neg (c := s = r ∧ t = t) (fun z => q z.1.symm), decide_eq_false (fun z => q (by omega)), Bool.or_false, Int.add_zero]
    · rw [if_neg c, if_neg (c := s = r ∧ t = (u : Int)) (fun z => c z.2.symm), Int.add_zero]
theorem times_no {S T : Nat → Int} {s u : Int} : ∀ {n : Nat}, timesIn S T n s u = 0 → ∀ k, k < n → ¬ (S k = s ∧ T k = u)
  | 0, _, k, hk => by omega
  | n + 1, h, k, hk => by
    have r := sg_rng (f := fun k => if S k = s ∧ T k = u then (1 : Int) else 0) (B := 1) (n := n) (fun i _ => by split <;> decide)
    have e : timesIn S T n s u + (if S n = s ∧ T n = u then (1 : Int) else 0) = 0 := h
    have r0 : 0 ≤ timesIn S T n s u := r.1
    by_cases c : S n = s ∧ T n = u
    · rw [if_pos c] at e; omega
    · rw [if_neg c] at e
      by_cases q : k = n
      · rw [q]; exact c
      · exact times_no (n := n) (by omega) k (by omega)
theorem say_iff {h : AH} (lv : liveR h) {s t : Int} (n8 : h 98 1 ≤ 8) (s0 : 0 ≤ s) (s1 : s < h 98 1) : sayOk h s t ↔ sayOkM h s t := by
  obtain ⟨⟨p1, -, -⟩, ⟨a1, a2, a3, a4⟩, -⟩ := lv
  unfold sayOk sayOkM saidIn
  rw [p1]
  constructor
  · rintro ⟨b1, b2, b3⟩
    refine ⟨b1, ⟨b2.1, by omega⟩, ?_⟩
    rintro ⟨k, k0, k1, e1, e2⟩
    have q := a4 t.toNat s (by omega) s0 (by omega)
    rw [show ((t.toNat : Nat) : Int) = t by omega, b3, if_neg (by decide)] at q
    have := times_no q k.toNat (by omega)
    rw [show ((k.toNat : Nat) : Int) = k by omega] at this
    exact this ⟨e1, e2⟩
  · rintro ⟨b1, b2, b3⟩
    refine ⟨b1, ⟨b2.1, by omega⟩, ?_⟩
    have q := a4 t.toNat s (by omega) s0 (by omega)
    rw [show ((t.toNat : Nat) : Int) = t by omega] at q
    have z : timesIn (fun k => h 116 k) (fun k => h 117 k) (h 98 50).toNat s t = 0 := sg_zero (fun k hk => if_neg (fun w => b3 ⟨k, by omega, by omega, w.1, w.2⟩))
    rw [z] at q
    cases c : bt (h 35 t) s.toNat with
    | false => rfl
    | true => rw [c, if_pos rfl] at q; exact absurd q (by decide)
/-- the scene, its image, the counts, the memories alone changed -/
theorem REL.scn {h h2 : AH} (hr : REL h) (all : ∀ c, ¬ (34 ≤ c ∧ c ≤ 45) → c ≠ 1 → c ≠ 3 → c ≠ 82 → c ≠ 88 → c ≠ 98 → c ≠ 107 → c ≠ 116 → c ≠ 117 → c ≠ 123 → c ≠ 124 → c ≠ 128 → ¬ (132 ≤ c ∧ c ≤ 137) → h2 c = h c) (e1 : ∀ j, j ≠ 8 → h2 1 j = h 1 j) (f98 : ∀ j, (1 ≤ j ∧ j ≤ 7) ∨ j = 16 ∨ j = 18 ∨ j = 46 ∨ j = 47 → h2 98 j = h 98 j) (cn : ∀ j, 0 ≤ j → j ≤ 2 → h2 107 j = h2 3 j) (lv : liveR h2) (im : imgR h2) (gu : gueR h2) (tr : truR h2) : REL h2 := by
  have hr0 := hr
  obtain ⟨n, ⟨t0, t1, t2⟩, ⟨cn1, -⟩, -⟩ := hr0
  refine hr.chg (e1 4 (by decide)) (e1 5 (by decide)) (fun c a b d e f => all c (by omega) a d (by omega) (by omega) (by omega) (by omega) (by omega) (by omega) (by omega) (by omega) (by omega) (by omega)) (fun i hi => f98 i (by omega)) (fun c a b => all c (by omega) (by omega) (by omega) (by omega) (by omega) (by omega) (by omega) (by omega) (by omega) (by omega) (by omega) (by omega) (by omega)) (all 93 (by omega) (by decide) (by decide) (by decide) (by decide) (by decide) (by decide) (by decide) (by decide) (by decide) (by decide) (by decide) (by omega)) ?_ ⟨?_, cn⟩ lv im gu tr
  · unfold tapR
    rw [e1 1 (by decide), f98 16 (by decide), all 2 (by omega) (by decide) (by decide) (by decide) (by decide) (by decide) (by decide) (by decide) (by decide) (by decide) (by decide) (by decide) (by omega), all 106 (by omega) (by decide) (by decide) (by decide) (by decide) (by decide) (by decide) (by decide) (by decide) (by decide) (by decide) (by decide) (by omega)]
    exact ⟨t0, t1, t2⟩
  · rw [e1 2 (by decide), f98 18 (by decide)]; exact cn1
theorem liveR.same {h h2 : AH} (lv : liveR h) (a : ∀ c, 34 ≤ c → c ≤ 39 → h2 c = h c) (b : ∀ c, c = 116 ∨ c = 117 ∨ c = 123 ∨ c = 124 ∨ c = 128 → h2 c = h c) (f : ∀ j, j = 1 ∨ j = 50 ∨ j = 66 ∨ j = 68 → h2 98 j = h 98 j) : liveR h2 := by
  unfold liveR at lv ⊢
  rw [f 1 (by decide), f 50 (by decide), f 66 (by decide), f 68 (by decide), a 34 (by decide) (by decide), a 35 (by decide) (by decide), a 36 (by decide) (by decide), a 37 (by decide) (by decide), a 38 (by decide) (by decide), a 39 (by decide) (by decide), b 116 (by decide), b 117 (by decide), b 123 (by decide), b 124 (by decide), b 128 (by decide)]
  exact lv
theorem imgR.same {h h2 : AH} (im : imgR h) (a : ∀ c, 40 ≤ c → c ≤ 45 → h2 c = h c) (b : ∀ c, 132 ≤ c → c ≤ 136 → h2 c = h c) (e : h2 1 8 = h 1 8) (f : ∀ j, j = 1 ∨ (78 ≤ j ∧ j ≤ 81) → h2 98 j = h 98 j) : imgR h2 := by
  unfold imgR keptR at im ⊢
  rw [e, f 1 (by decide), f 78 (by decide), f 79 (by decide), f 80 (by decide), f 81 (by decide), a 40 (by decide) (by decide), a 41 (by decide) (by decide), a 42 (by decide) (by decide), a 43 (by decide) (by decide), a 44 (by decide) (by decide), a 45 (by decide) (by decide), b 132 (by decide) (by decide), b 133 (by decide) (by decide), b 134 (by decide) (by decide), b 135 (by decide) (by decide), b 136 (by decide) (by decide)]
  exact im
theorem gue2 {h h2 : AH} (n : nowR h) (gu : gueR h) (gc : ∀ c, 4 ≤ c → c ≤ 33 → h2 c = h c) (e1 : h2 1 4 = h 1 4) (e35 : h2 35 = h 35) (e36 : h2 36 = h 36) (e82 : h2 82 = h 82) (e83 : h2 83 = h 83) (e86 : h2 86 = h 86) : gueR h2 := by
  have g2 : ∀ k, 0 ≤ k → k ≤ 14 → h2 (h 1 4 + k) = h (h 1 4 + k) := fun k a b => gc _ (by unfold nowR at n; omega) (by unfold nowR at n; omega)
  have g0 : h2 (h 1 4) = h (h 1 4) := by have := g2 0 (by decide) (by decide); rw [Int.add_zero] at this; exact this
  unfold gueR at gu ⊢
  rw [e1, g2 9 (by decide) (by decide), e86]
  exact ⟨gu.1, guOk_same e82 e83 e35 e36 g0 g2 gu.2⟩
theorem tru2 {h h2 : AH} (n : nowR h) (tr : truR h) (gc : ∀ c, 4 ≤ c → c ≤ 33 → h2 c = h c) (e1 : h2 1 4 = h 1 4) (e36 : h2 36 = h 36) (e88 : h2 88 = h 88) (e89 : h2 89 = h 89) : truR h2 := by
  have g2 : ∀ k, 0 ≤ k → k ≤ 14 → h2 (h 1 4 + k) = h (h 1 4 + k) := fun k a b => gc _ (by unfold nowR at n; omega) (by unfold nowR at n; omega)
  have g0 : h2 (h 1 4) = h (h 1 4) := by have := g2 0 (by decide) (by decide); rw [Int.add_zero] at this; exact this
  unfold truR at tr ⊢
  rw [e1, g2 9 (by decide) (by decide)]
  exact truOk_same e88 e89 e36 g0 g2 tr
section
variable {h h1 h2 : AH} {s t : Int}
theorem R_say (hr : REL h) (s0 : 0 ≤ s) (s1 : s < h 98 1) (ok : sayOk h s t) (k1 : ∀ c, c ≠ 137 → h1 c = up (up (up h 35 t (bOr (h 35 t) (1 * 2 ^ s.toNat))) 34 1 (h 34 1 + 1)) 82 2 0 c) (e2 : h2 = up (up (up (up h1 98 0 0) 116 (h1 98 50) s) 117 (h1 98 50) t) 98 50 (h1 98 50 + 1)) : REL h2 := by
  have hr0 := hr
  obtain ⟨n, -, ⟨-, cn⟩, te, -, lv, im, -, -, gu, tr⟩ := hr0
  have n8 : h 98 1 ≤ 8 := te.1.1.2
  have m98 : h1 98 = h 98 := k1 98 (by decide)
  have all : ∀ c, c ≠ 34 → c ≠ 35 → c ≠ 82 → c ≠ 98 → c ≠ 116 → c ≠ 117 → c ≠ 137 → h2 c = h c := fun c a b d e f g i => by rw [e2, up_n e, up_n g, up_n f, up_n e, k1 c i, up_n d, up_n a, up_n b]
  have f98 : ∀ j, j ≠ 0 → j ≠ 50 → h2 98 j = h 98 j := fun j a b => by rw [e2, up_cn b, up_n (by decide), up_n (by decide), up_cn a, m98]
  refine hr.scn (fun c a b d e f g i j k _ _ _ o => all c (by omega) (by omega) e g j k (by omega)) (fun j _ => by rw [all 1 (by decide) (by decide) (by decide) (by decide) (by decide) (by decide) (by decide)]) (fun j hj => f98 j (by omega) (by omega)) (fun j a b => by rw [all 107 (by decide) (by decide) (by decide) (by decide) (by decide) (by decide) (by decide), all 3 (by decide) (by decide) (by decide) (by decide) (by decide) (by decide) (by decide)]; exact cn j a b) ?_ ?_ ?_ ?_
  · obtain ⟨⟨p1, p2, p3⟩, sd, tl, rn, st⟩ := lv
    have r34 : h2 34 = fun i => if i = 1 then h 34 1 + 1 else h 34 i := by
      rw [e2]
      show h1 34 = _
      rw [k1 34 (by decide)]; rfl
    have r35 : h2 35 = fun i => if i = t then bOr (h 35 t) (1 * 2 ^ s.toNat) else h 35 i := by
      rw [e2]
      show h1 35 = _
      rw [k1 35 (by decide)]; rfl
    have r116 : h2 116 = fun i => if i = h 98 50 then s else h 116 i := by
      rw [e2, m98]
      show (fun i => if i = h 98 50 then s else h1 116 i) = _
      rw [k1 116 (by decide)]; rfl
    have r117 : h2 117 = fun i => if i = h 98 50 then t else h 117 i := by
      rw [e2, m98]
      show (fun i => if i = h 98 50 then t else h1 117 i) = _
      rw [k1 117 (by decide)]; rfl
    have r50 : h2 98 50 = h 98 50 + 1 := by rw [e2, up_ci, m98]
    unfold liveR
    rw [f98 1 (by decide) (by decide), f98 66 (by decide) (by decide), f98 68 (by decide) (by decide), r50, all 36 (by decide) (by decide) (by decide) (by decide) (by decide) (by decide) (by decide), all 37 (by decide) (by decide) (by decide) (by decide) (by decide) (by decide) (by decide), all 38 (by decide) (by decide) (by decide) (by decide) (by decide) (by decide) (by decide), all 39 (by decide) (by decide) (by decide) (by decide) (by decide) (by decide) (by decide), all 123 (by decide) (by decide) (by decide) (by decide) (by decide) (by decide) (by decide), all 124 (by decide) (by decide) (by decide) (by decide) (by decide) (by decide) (by decide), all 128 (by decide) (by decide) (by decide) (by decide) (by decide) (by decide) (by decide)]
    refine ⟨⟨?_, ?_, ?_⟩, sd.add n8 (by rw [← p1]; exact ok.1) s0 s1 ok.2.1.1 ok.2.1.2 ok.2.2 (fun u => by rw [r35]) (fun k => by rw [r116]) (fun k => by rw [r117]), tl, rn, st⟩
    · rw [r34]; show h 34 1 + 1 = _; rw [p1]
    · rw [r34]; exact p2
    · rw [r34]; exact p3
  · exact im.same (fun c a b => all c (by omega) (by omega) (by omega) (by omega) (by omega) (by omega) (by omega)) (fun c a b => all c (by omega) (by omega) (by omega) (by omega) (by omega) (by omega) (by omega)) (by rw [all 1 (by decide) (by decide) (by decide) (by decide) (by decide) (by decide) (by decide)]) (fun j hj => f98 j (by omega) (by omega))
  · exact gu.gone (all 86 (by decide) (by decide) (by decide) (by decide) (by decide) (by decide) (by decide)) (by rw [e2]; show h1 82 2 = 0; rw [k1 82 (by decide)]; rfl)
  · exact tru2 n tr (fun c a b => all c (by omega) (by omega) (by omega) (by omega) (by omega) (by omega) (by omega)) (by rw [all 1 (by decide) (by decide) (by decide) (by decide) (by decide) (by decide) (by decide)]) (all 36 (by decide) (by decide) (by decide) (by decide) (by decide) (by decide) (by decide)) (all 88 (by decide) (by decide) (by decide) (by decide) (by decide) (by decide) (by decide)) (all 89 (by decide) (by decide) (by decide) (by decide) (by decide) (by decide) (by decide))
/-- something was refused -/
theorem R_refuse (hr : REL h) {i : Int} (hi : 0 ≤ i ∧ i ≤ 2) (k1 : ∀ c, c ≠ 137 → h1 c = up h 3 i (h 3 i + 1) c) (e2 : h2 = up (up h1 98 0 0) 107 i (h1 107 i + 1)) : REL h2 := by
  have hr0 := hr
  obtain ⟨n, -, ⟨-, cn⟩, te, -, lv, im, -, -, gu, tr⟩ := hr0
  have all : ∀ c, c ≠ 3 → c ≠ 98 → c ≠ 107 → c ≠ 137 → h2 c = h c := fun c a b d e => by rw [e2, up_n d, up_n b, k1 c e, up_n a]
  have f98 : ∀ j, j ≠ 0 → h2 98 j = h 98 j := fun j a => by rw [e2, up_n (by decide), up_cn a, k1 98 (by decide), up_n (by decide)]
  refine hr.scn (fun c a b d e f g i _ _ _ _ _ o => all c d g i (by omega)) (fun j _ => by rw [all 1 (by decide) (by decide) (by decide) (by decide)]) (fun j hj => f98 j (by omega)) (fun j a b => ?_) (lv.same (fun c a b => all c (by omega) (by omega) (by omega) (by omega)) (fun c a => all c (by omega) (by omega) (by omega) (by omega)) (fun j a => f98 j (by omega))) (im.same (fun c a b => all c (by omega) (by omega) (by omega) (by omega)) (fun c a b => all c (by omega) (by omega) (by omega) (by omega)) (by rw [all 1 (by decide) (by decide) (by decide) (by decide)]) (fun j a => f98 j (by omega))) ?_ ?_
  · have q := cn j a b
    have qi := cn i hi.1 hi.2
    rw [e2, k1 107 (by decide), up_n (by decide : (107 : Int) ≠ 3)]
    show (if j = i then h 107 i + 1 else h1 107 j) = h1 3 j
    rw [k1 107 (by decide), k1 3 (by decide)]
    show (if j = i then h 107 i + 1 else h 107 j) = if j = i then h 3 i + 1 else h 3 j
    rw [q, qi]
  · exact gue2 n gu (fun c a b => all c (by omega) (by omega) (by omega) (by omega)) (by rw [all 1 (by decide) (by decide) (by decide) (by decide)]) (all 35 (by decide) (by decide) (by decide) (by decide)) (all 36 (by decide) (by decide) (by decide) (by decide)) (all 82 (by decide) (by decide) (by decide) (by decide)) (all 83 (by decide) (by decide) (by decide) (by decide)) (all 86 (by decide) (by decide) (by decide) (by decide))
  · exact tru2 n tr (fun c a b => all c (by omega) (by omega) (by omega) (by omega)) (by rw [all 1 (by decide) (by decide) (by decide) (by decide)]) (all 36 (by decide) (by decide) (by decide) (by decide)) (all 88 (by decide) (by decide) (by decide) (by decide)) (all 89 (by decide) (by decide) (by decide) (by decide))
theorem R_hush (hr : REL h) (e1 : h1 = up (up (fil h 35 0 200) 34 1 0) 82 2 0) (e2 : h2 = up (up h1 98 0 0) 98 50 0) : REL h2 := by
  have hr0 := hr
  obtain ⟨n, -, ⟨-, cn⟩, te, -, lv, im, -, -, gu, tr⟩ := hr0
  have all : ∀ c, c ≠ 34 → c ≠ 35 → c ≠ 82 → c ≠ 98 → h2 c = h c := fun c a b d e => by rw [e2, up_n e, up_n e, e1, up_n d, up_n a, fil_nn b]
  have f98 : ∀ j, j ≠ 0 → j ≠ 50 → h2 98 j = h 98 j := fun j a b => by rw [e2, up_cn b, up_cn a, e1, up_n (by decide), up_n (by decide), fil_nn (by decide)]
  refine hr.scn (fun c a b d e f g i _ _ _ _ _ o => all c (by omega) (by omega) e g) (fun j _ => by rw [all 1 (by decide) (by decide) (by decide) (by decide)]) (fun j hj => f98 j (by omega) (by omega)) (fun j a b => by rw [all 107 (by decide) (by decide) (by decide) (by decide), all 3 (by decide) (by decide) (by decide) (by decide)]; exact cn j a b) ?_ (im.same (fun c a b => all c (by omega) (by omega) (by omega) (by omega)) (fun c a b => all c (by omega) (by omega) (by omega) (by omega)) (by rw [all 1 (by decide) (by decide) (by decide) (by decide)]) (fun j a => f98 j (by omega) (by omega))) (gu.gone (all 86 (by decide) (by decide) (by decide) (by decide)) (by rw [e2, e1]; rfl)) (tru2 n tr (fun c a b => all c (by omega) (by omega) (by omega) (by omega)) (by rw [all 1 (by decide) (by decide) (by decide) (by decide)]) (all 36 (by decide) (by decide) (by decide) (by decide)) (all 88 (by decide) (by decide) (by decide) (by decide)) (all 89 (by decide) (by decide) (by decide) (by decide)))
  obtain ⟨⟨p1, p2, p3⟩, sd, tl, rn, st⟩ := lv
  have r50 : h2 98 50 = 0 := by rw [e2, up_ci]
  have r35 : ∀ u, 0 ≤ u → u < 200 → h2 35 u = 0 := fun u a b => by
    rw [e2, e1]
    show (if 0 ≤ u ∧ u < (200 : Nat) then (0 : Int) else h 35 u) = 0
    rw [if_pos ⟨a, by omega⟩]
  unfold liveR
  rw [f98 1 (by decide) (by decide), f98 66 (by decide) (by decide), f98 68 (by decide) (by decide), r50, all 36 (by decide) (by decide) (by decide) (by decide), all 37 (by decide) (by decide) (by decide) (by decide), all 38 (by decide) (by decide) (by decide) (by decide), all 39 (by decide) (by decide) (by decide) (by decide), all 116 (by decide) (by decide) (by decide) (by decide), all 117 (by decide) (by decide) (by decide) (by decide), all 123 (by decide) (by decide) (by decide) (by decide), all 124 (by decide) (by decide) (by decide) (by decide), all 128 (by decide) (by decide) (by decide) (by decide)]
  refine ⟨⟨?_, ?_, ?_⟩, ⟨by decide, fun k a b => by omega, fun u a b => ?_, fun u s a b c => ?_⟩, tl, rn, st⟩
  · rw [e2, e1]; rfl
  · rw [e2, e1]; exact p2
  · rw [e2, e1]; exact p3
  · rw [r35 u a b]; exact ⟨by decide, fun j hj => by rw [bt_zero] at hj; cases hj⟩
  · rw [r35 u (by omega) (by omega), bt_zero]; rfl
theorem R_tell (hr : REL h) (s0 : s = -1 ∨ 0 ≤ s ∧ s < h 98 1) (hT : h 34 3 < 60) (k1 : ∀ c, c ≠ 137 → h1 c = up (up (up (up h 36 (h 34 3) s) 34 3 (h 34 3 + 1)) 82 2 0) 88 1 0 c) (e2 : h2 = up (up (up h1 98 0 0) 124 (h1 98 68) s) 98 68 (h1 98 68 + 1)) : REL h2 := by
  have hr0 := hr
  obtain ⟨n, -, ⟨-, cn⟩, te, -, lv, im, -, -, gu, tr⟩ := hr0
  have n8 : 0 ≤ h 98 1 := te.1.1.1
  have m98 : h1 98 = h 98 := k1 98 (by decide)
  have all : ∀ c, c ≠ 34 → c ≠ 36 → c ≠ 82 → c ≠ 88 → c ≠ 98 → c ≠ 124 → c ≠ 137 → h2 c = h c := fun c a b d e f g i => by rw [e2, up_n f, up_n g, up_n f, k1 c i, up_n e, up_n d, up_n a, up_n b]
  have f98 : ∀ j, j ≠ 0 → j ≠ 68 → h2 98 j = h 98 j := fun j a b => by rw [e2, up_cn b, up_n (by decide), up_cn a, m98]
  refine hr.scn (fun c a b d e f g i j k l x y o => all c (by omega) (by omega) e f g x (by omega)) (fun j _ => by rw [all 1 (by decide) (by decide) (by decide) (by decide) (by decide) (by decide) (by decide)]) (fun j hj => f98 j (by omega) (by omega)) (fun j a b => by rw [all 107 (by decide) (by decide) (by decide) (by decide) (by decide) (by decide) (by decide), all 3 (by decide) (by decide) (by decide) (by decide) (by decide) (by decide) (by decide)]; exact cn j a b) ?_ (im.same (fun c a b => all c (by omega) (by omega) (by omega) (by omega) (by omega) (by omega) (by omega)) (fun c a b => all c (by omega) (by omega) (by omega) (by omega) (by omega) (by omega) (by omega)) (by rw [all 1 (by decide) (by decide) (by decide) (by decide) (by decide) (by decide) (by decide)]) (fun j a => f98 j (by omega) (by omega))) (gu.gone (all 86 (by decide) (by decide) (by decide) (by decide) (by decide) (by decide) (by decide)) (by rw [e2]; show h1 82 2 = 0; rw [k1 82 (by decide)]; rfl)) (truR.gone (by rw [e2]; show h1 88 1 = 0; rw [k1 88 (by decide)]; rfl))
  obtain ⟨⟨p1, p2, p3⟩, sd, ⟨t1, t2, t3⟩, rn, st⟩ := lv
  have r34 : h2 34 = fun i => if i = 3 then h 34 3 + 1 else h 34 i := by
    rw [e2]
    show h1 34 = _
    rw [k1 34 (by decide)]; rfl
  have r36 : h2 36 = fun i => if i = h 34 3 then s else h 36 i := by
    rw [e2]
    show h1 36 = _
    rw [k1 36 (by decide)]; rfl
  have r124 : h2 124 = fun i => if i = h 98 68 then s else h 124 i := by
    rw [e2, m98]
    show (fun i => if i = h 98 68 then s else h1 124 i) = _
    rw [k1 124 (by decide)]; rfl
  have r68 : h2 98 68 = h 98 68 + 1 := by rw [e2, up_ci, m98]
  unfold liveR
  rw [f98 1 (by decide) (by decide), f98 66 (by decide) (by decide), f98 50 (by decide) (by decide), r68, all 35 (by decide) (by decide) (by decide) (by decide) (by decide) (by decide) (by decide), all 37 (by decide) (by decide) (by decide) (by decide) (by decide) (by decide) (by decide), all 38 (by decide) (by decide) (by decide) (by decide) (by decide) (by decide) (by decide), all 39 (by decide) (by decide) (by decide) (by decide) (by decide) (by decide) (by decide), all 123 (by decide) (by decide) (by decide) (by decide) (by decide) (by decide) (by decide), all 116 (by decide) (by decide) (by decide) (by decide) (by decide) (by decide) (by decide), all 117 (by decide) (by decide) (by decide) (by decide) (by decide) (by decide) (by decide), all 128 (by decide) (by decide) (by decide) (by decide) (by decide) (by decide) (by decide)]
  refine ⟨⟨?_, ?_, ?_⟩, sd, ⟨by omega, fun i a b => ?_, fun t a b => ?_⟩, rn, st⟩
  · rw [r34]; exact p1
  · rw [r34]; show h 34 3 + 1 = _; rw [p2]
  · rw [r34]; exact p3
  · rw [r124]
    show -1 ≤ (if i = h 98 68 then s else h 124 i) ∧ (if i = h 98 68 then s else h 124 i) < h 98 1
    by_cases c : i = h 98 68
    · rw [if_pos c]; omega
    · rw [if_neg c]; exact t2 i a (by omega)
  · have q := t3 t a b
    rw [r36, r124, p2]
    show (if t = h 98 68 then s else h 36 t) = if t < h 98 68 + 1 then (if t = h 98 68 then s else h 124 t) else -1
    by_cases c : t = h 98 68
    · rw [if_pos c, if_pos (by omega), if_pos c]
    · rw [if_neg c, if_neg c, q]
      by_cases d : t < h 98 68
      · rw [if_pos d, if_pos (by omega)]
      · rw [if_neg d, if_neg (by omega)]
theorem R_untell (hr : REL h) (e1 : h1 = up (up (up (fil h 36 (-1) 60) 34 3 0) 82 2 0) 88 1 0) (e2 : h2 = up (up h1 98 0 0) 98 68 0) : REL h2 := by
  have hr0 := hr
  obtain ⟨n, -, ⟨-, cn⟩, te, -, lv, im, -, -, gu, tr⟩ := hr0
  have all : ∀ c, c ≠ 34 → c ≠ 36 → c ≠ 82 → c ≠ 88 → c ≠ 98 → h2 c = h c := fun c a b d e f => by rw [e2, up_n f, up_n f, e1, up_n e, up_n d, up_n a, fil_nn b]
  have f98 : ∀ j, j ≠ 0 → j ≠ 68 → h2 98 j = h 98 j := fun j a b => by rw [e2, up_cn b, up_cn a, e1, up_n (by decide), up_n (by decide), up_n (by decide), fil_nn (by decide)]
  refine hr.scn (fun c a b d e f g i _ _ _ _ _ o => all c (by omega) (by omega) e f g) (fun j _ => by rw [all 1 (by decide) (by decide) (by decide) (by decide) (by decide)]) (fun j hj => f98 j (by omega) (by omega)) (fun j a b => by rw [all 107 (by decide) (by decide) (by decide) (by decide) (by decide), all 3 (by decide) (by decide) (by decide) (by decide) (by decide)]; exact cn j a b) ?_ (im.same (fun c a b => all c (by omega) (by omega) (by omega) (by omega) (by omega)) (fun c a b => all c (by omega) (by omega) (by omega) (by omega) (by omega)) (by rw [all 1 (by decide) (by decide) (by decide) (by decide) (by decide)]) (fun j a => f98 j (by omega) (by omega))) (gu.gone (all 86 (by decide) (by decide) (by decide) (by decide) (by decide)) (by rw [e2, e1]; rfl)) (truR.gone (by rw [e2, e1]; rfl))
  obtain ⟨⟨p1, p2, p3⟩, sd, ⟨t1, t2, t3⟩, rn, st⟩ := lv
  have r68 : h2 98 68 = 0 := by rw [e2, up_ci]
  have r36 : ∀ u, 0 ≤ u → u < 60 → h2 36 u = -1 := fun u a b => by
    rw [e2, e1]
    show (if 0 ≤ u ∧ u < (60 : Nat) then (-1 : Int) else h 36 u) = -1
    rw [if_pos ⟨a, by omega⟩]
  unfold liveR
  rw [f98 1 (by decide) (by decide), f98 66 (by decide) (by decide), f98 50 (by decide) (by decide), r68, all 35 (by decide) (by decide) (by decide) (by decide) (by decide), all 37 (by decide) (by decide) (by decide) (by decide) (by decide), all 38 (by decide) (by decide) (by decide) (by decide) (by decide), all 39 (by decide) (by decide) (by decide) (by decide) (by decide), all 116 (by decide) (by decide) (by decide) (by decide) (by decide), all 117 (by decide) (by decide) (by decide) (by decide) (by decide), all 123 (by decide) (by decide) (by decide) (by decide) (by decide), all 124 (by decide) (by decide) (by decide) (by decide) (by decide), all 128 (by decide) (by decide) (by decide) (by decide) (by decide)]
  refine ⟨⟨?_, ?_, ?_⟩, sd, ⟨by decide, fun i a b => by omega, fun t a b => ?_⟩, rn, st⟩
  · rw [e2, e1]; exact p1
  · rw [e2, e1]; rfl
  · rw [e2, e1]; exact p3
  · rw [r36 t a b, if_neg (by omega)]
theorem R_sing (hr : REL h) (t0 : 0 ≤ t ∧ t < 16) (s0 : s = -1 ∨ 0 ≤ s ∧ s < h 98 1) (k1 : ∀ c, c ≠ 137 → h1 c = up (up h 37 t s) 34 5 (max (h 34 5) (t + 1)) c) (e2 : h2 = up (up (up h1 98 0 0) 123 t s) 98 66 (max (h1 98 66) (t + 1))) : REL h2 := by
  have hr0 := hr
  obtain ⟨n, -, ⟨-, cn⟩, te, -, lv, im, -, -, gu, tr⟩ := hr0
  have n8 : 0 ≤ h 98 1 := te.1.1.1
  have m98 : h1 98 = h 98 := k1 98 (by decide)
  have all : ∀ c, c ≠ 34 → c ≠ 37 → c ≠ 98 → c ≠ 123 → c ≠ 137 → h2 c = h c := fun c a b d e f => by rw [e2, up_n d, up_n e, up_n d, k1 c f, up_n a, up_n b]
  have f98 : ∀ j, j ≠ 0 → j ≠ 66 → h2 98 j = h 98 j := fun j a b => by rw [e2, up_cn b, up_n (by decide), up_cn a, m98]
  refine hr.scn (fun c a b d e f g i j k x y z o => all c (by omega) (by omega) g x (by omega)) (fun j _ => by rw [all 1 (by decide) (by decide) (by decide) (by decide) (by decide)]) (fun j hj => f98 j (by omega) (by omega)) (fun j a b => by rw [all 107 (by decide) (by decide) (by decide) (by decide) (by decide), all 3 (by decide) (by decide) (by decide) (by decide) (by decide)]; exact cn j a b) ?_ (im.same (fun c a b => all c (by omega) (by omega) (by omega) (by omega) (by omega)) (fun c a b => all c (by omega) (by omega) (by omega) (by omega) (by omega)) (by rw [all 1 (by decide) (by decide) (by decide) (by decide) (by decide)]) (fun j a => f98 j (by omega) (by omega))) (gue2 n gu (fun c a b => all c (by omega) (by omega) (by omega) (by omega) (by omega)) (by rw [all 1 (by decide) (by decide) (by decide) (by decide) (by decide)]) (all 35 (by decide) (by decide) (by decide) (by decide) (by decide)) (all 36 (by decide) (by decide) (by decide) (by decide) (by decide)) (all 82 (by decide) (by decide) (by decide) (by decide) (by decide)) (all 83 (by decide) (by decide) (by decide) (by decide) (by decide)) (all 86 (by decide) (by decide) (by decide) (by decide) (by decide))) (tru2 n tr (fun c a b => all c (by omega) (by omega) (by omega) (by omega) (by omega)) (by rw [all 1 (by decide) (by decide) (by decide) (by decide) (by decide)]) (all 36 (by decide) (by decide) (by decide) (by decide) (by decide)) (all 88 (by decide) (by decide) (by decide) (by decide) (by decide)) (all 89 (by decide) (by decide) (by decide) (by decide) (by decide)))
  obtain ⟨⟨p1, p2, p3⟩, sd, tl, ⟨r1, r2⟩, st⟩ := lv
  have r34 : h2 34 = fun i => if i = 5 then max (h 34 5) (t + 1) else h 34 i := by
    rw [e2]
    show h1 34 = _
    rw [k1 34 (by decide)]; rfl
  have r37 : h2 37 = fun i => if i = t then s else h 37 i := by
    rw [e2]
    show h1 37 = _
    rw [k1 37 (by decide)]; rfl
  have r123 : h2 123 = fun i => if i = t then s else h 123 i := by
    rw [e2]
    show (fun i => if i = t then s else h1 123 i) = _
    rw [k1 123 (by decide)]; rfl
  have r66 : h2 98 66 = max (h 98 66) (t + 1) := by rw [e2, up_ci, m98]
  unfold liveR
  rw [f98 1 (by decide) (by decide), f98 68 (by decide) (by decide), f98 50 (by decide) (by decide), r66, all 35 (by decide) (by decide) (by decide) (by decide) (by decide), all 36 (by decide) (by decide) (by decide) (by decide) (by decide), all 38 (by decide) (by decide) (by decide) (by decide) (by decide), all 39 (by decide) (by decide) (by decide) (by decide) (by decide), all 116 (by decide) (by decide) (by decide) (by decide) (by decide), all 117 (by decide) (by decide) (by decide) (by decide) (by decide), all 124 (by decide) (by decide) (by decide) (by decide) (by decide), all 128 (by decide) (by decide) (by decide) (by decide) (by decide)]
  refine ⟨⟨?_, ?_, ?_⟩, sd, tl, ⟨by omega, fun i a b => ?_⟩, st⟩
  · rw [r34]; exact p1
  · rw [r34]; exact p2
  · rw [r34]; show max (h 34 5) (t + 1) = _; rw [p3]
  · rw [r37, r123]
    show (if i = t then s else h 37 i) = (if i = t then s else h 123 i) ∧ -1 ≤ (if i = t then s else h 123 i) ∧ (if i = t then s else h 123 i) < h 98 1
    by_cases c : i = t
    · rw [if_pos c, if_pos c]; omega
    · rw [if_neg c, if_neg c]; exact r2 i a b
theorem R_stand (hr : REL h) {e x y : Int} (he : 0 ≤ e ∧ e < 3) (hx : 0 ≤ x ∧ x < 31) (hy : 0 ≤ y ∧ y < 31) (k1 : ∀ c, c ≠ 137 → h1 c = up (up h 38 e x) 39 e y c) (e2 : h2 = up (up (up h1 98 0 0) 128 (2 * e) x) 128 (2 * e + 1) y) : REL h2 := by
  have hr0 := hr
  obtain ⟨n, -, ⟨-, cn⟩, te, -, lv, im, -, -, gu, tr⟩ := hr0
  have all : ∀ c, c ≠ 38 → c ≠ 39 → c ≠ 98 → c ≠ 128 → c ≠ 137 → h2 c = h c := fun c a b d e f => by rw [e2, up_n e, up_n e, up_n d, k1 c f, up_n b, up_n a]
  have f98 : ∀ j, j ≠ 0 → h2 98 j = h 98 j := fun j a => by rw [e2, up_n (by decide), up_n (by decide), up_cn a, k1 98 (by decide), up_n (by decide), up_n (by decide)]
  refine hr.scn (fun c a b d e f g i j k x y z o => all c (by omega) (by omega) g z (by omega)) (fun j _ => by rw [all 1 (by decide) (by decide) (by decide) (by decide) (by decide)]) (fun j hj => f98 j (by omega)) (fun j a b => by rw [all 107 (by decide) (by decide) (by decide) (by decide) (by decide), all 3 (by decide) (by decide) (by decide) (by decide) (by decide)]; exact cn j a b) ?_ (im.same (fun c a b => all c (by omega) (by omega) (by omega) (by omega) (by omega)) (fun c a b => all c (by omega) (by omega) (by omega) (by omega) (by omega)) (by rw [all 1 (by decide) (by decide) (by decide) (by decide) (by decide)]) (fun j a => f98 j (by omega))) (gue2 n gu (fun c a b => all c (by omega) (by omega) (by omega) (by omega) (by omega)) (by rw [all 1 (by decide) (by decide) (by decide) (by decide) (by decide)]) (all 35 (by decide) (by decide) (by decide) (by decide) (by decide)) (all 36 (by decide) (by decide) (by decide) (by decide) (by decide)) (all 82 (by decide) (by decide) (by decide) (by decide) (by decide)) (all 83 (by decide) (by decide) (by decide) (by decide) (by decide)) (all 86 (by decide) (by decide) (by decide) (by decide) (by decide))) (tru2 n tr (fun c a b => all c (by omega) (by omega) (by omega) (by omega) (by omega)) (by rw [all 1 (by decide) (by decide) (by decide) (by decide) (by decide)]) (all 36 (by decide) (by decide) (by decide) (by decide) (by decide)) (all 88 (by decide) (by decide) (by decide) (by decide) (by decide)) (all 89 (by decide) (by decide) (by decide) (by decide) (by decide)))
  obtain ⟨a34, sd, tl, rn, st⟩ := lv
  have r38 : h2 38 = fun i => if i = e then x else h 38 i := by
    rw [e2]
    show h1 38 = _
    rw [k1 38 (by decide)]; rfl
  have r39 : h2 39 = fun i => if i = e then y else h 39 i := by
    rw [e2]
    show h1 39 = _
    rw [k1 39 (by decide)]; rfl
  have r128 : h2 128 = fun i => if i = 2 * e + 1 then y else if i = 2 * e then x else h 128 i := by
    rw [e2]
    show (fun i => if i = 2 * e + 1 then y else (fun i => if i = 2 * e then x else h1 128 i) i) = _
    rw [k1 128 (by decide)]; rfl
  unfold liveR
  rw [f98 1 (by decide), f98 68 (by decide), f98 50 (by decide), f98 66 (by decide), all 34 (by decide) (by decide) (by decide) (by decide) (by decide), all 35 (by decide) (by decide) (by decide) (by decide) (by decide), all 36 (by decide) (by decide) (by decide) (by decide) (by decide), all 37 (by decide) (by decide) (by decide) (by decide) (by decide), all 116 (by decide) (by decide) (by decide) (by decide) (by decide), all 117 (by decide) (by decide) (by decide) (by decide) (by decide), all 124 (by decide) (by decide) (by decide) (by decide) (by decide), all 123 (by decide) (by decide) (by decide) (by decide) (by decide)]
  refine ⟨a34, sd, tl, rn, fun i a b => ?_⟩
  rw [r38, r39, r128]
  show ((if i = e then x else h 38 i) = (if 2 * i = 2 * e + 1 then y else if 2 * i = 2 * e then x else h 128 (2 * i)) ∧ (if i = e then y else h 39 i) = (if 2 * i + 1 = 2 * e + 1 then y else if 2 * i + 1 = 2 * e then x else h 128 (2 * i + 1))) ∧ (0 ≤ (if i = e then x else h 38 i) ∧ (if i = e then x else h 38 i) ≤ 30) ∧ 0 ≤ (if i = e then y else h 39 i) ∧ (if i = e then y else h 39 i) ≤ 30
  rw [if_neg (show ¬ 2 * i = 2 * e + 1 by omega)]
  by_cases c : i = e
  · rw [if_pos c, if_pos c, if_pos (show 2 * i = 2 * e by omega), if_pos (show 2 * i + 1 = 2 * e + 1 by omega)]
    omega
  · rw [if_neg c, if_neg c, if_neg (show ¬ 2 * i = 2 * e by omega), if_neg (show ¬ 2 * i + 1 = 2 * e + 1 by omega), if_neg (show ¬ 2 * i + 1 = 2 * e by omega)]
    exact st i a b
end
