/-! ===== what changes: what is said, told, sung, where the ears stand, the image ===== -/
theorem REL.chg {h h' : AH} (hr : REL h) (e4 : h' 1 4 = h 1 4) (e5 : h' 1 5 = h 1 5) (kc : ∀ c, c ≠ 1 → c ≠ 2 → c ≠ 3 → ¬ (34 ≤ c ∧ c ≤ 46) → c ≤ 79 → h' c = h c) (k98 : ∀ i, (1 ≤ i ∧ i ≤ 7) ∨ i = 46 ∨ i = 47 → h' 98 i = h 98 i) (km : ∀ c, 99 ≤ c → c ≤ 105 → h' c = h c) (k93 : h' 93 = h 93)
    (tp : tapR h') (cn : cntR h') (lv : liveR h') (im : imgR h') (gu : gueR h') (tr : truR h') : REL h' := by
  obtain ⟨n, -, -, te, ⟨q1, q2⟩, -, -, rt, ve, -, -⟩ := hr
  have ng := n.gg
  have eD : dM h' = dM h := dM_eq (fun i a b => k98 i (Or.inl ⟨a, b⟩)) (fun c a b => km c a b)
  have gc : ∀ k, 0 ≤ k → k ≤ 14 → h' (h 1 4 + k) = h (h 1 4 + k) := fun k a b => kc _ (by unfold nowR at n; omega) (by unfold nowR at n; omega) (by unfold nowR at n; omega) (by unfold nowR at n; omega) (by unfold nowR at n; omega)
  have gc0 : h' (h 1 4) = h (h 1 4) := by have := gc 0 (by decide) (by decide); rw [Int.add_zero] at this; exact this
  have k79 : ∀ c, 47 ≤ c → c ≤ 79 → h' c = h c := fun c a b => kc c (by omega) (by omega) (by omega) (by omega) b
  obtain ⟨ret, z⟩ := verR.ret ve
  refine ⟨?_, tp, cn, ?_, ?_, lv, im, ?_, ?_, gu, tr⟩
  · unfold nowR at n ⊢; rw [e4, e5]; exact n
  · unfold telR at te ⊢; rw [eD, e4]; exact ⟨te.1, te.2.eq (fun k a b => gc k a b)⟩
  · exact ⟨by rw [k98 46 (by omega)]; exact q1, by rw [k98 47 (by omega)]; exact q2⟩
  · unfold rootsC at rt ⊢; rw [k93]; exact rt
  · obtain ⟨g, D, v, w9⟩ := ve
    exact ⟨g, D, v.keep2 (fun c a b x y w u => kc c x y w u (by omega)) e4 (retOk_same (k79 47 (by decide) (by decide)) (k79 (47 + 1) (by decide) (by decide)) (k79 (47 + 2) (by decide) (by decide)) gc0 gc ret) (by unfold sumZ at z ⊢; rw [k79 54 (by decide) (by decide)]; exact z), by rw [e4]; exact w9⟩
theorem gueR.gone {h h' : AH} (gu : gueR h) (e86 : h' 86 = h 86) (e : h' 82 2 = 0) : gueR h' := ⟨by rw [e86]; exact gu.1, Or.inl e⟩
theorem truR.gone {h' : AH} (e : h' 88 1 = 0) : truR h' := Or.inl e
/-! feed -/
theorem w8_rng (x : Int) : -128 ≤ w8 x ∧ w8 x < 128 := by
  unfold w8
  rw [Int8.toInt_toInt32]
  exact ⟨Int8.le_toInt _, Int8.toInt_lt _⟩
theorem w8_mod (x : Int) : bAnd x 255 = w8 x % 256 := by
  unfold w8 bAnd
  rw [Int8.toInt_toInt32]
  generalize Int32.ofInt x = b
  have e1 : (b &&& Int32.ofInt 255).toInt = ((b.toBitVec.toNat % 256 : Nat) : Int) := by
    show (b.toBitVec &&& 255#32).toInt = _
    have hn : (b.toBitVec &&& 255#32).toNat = b.toBitVec.toNat % 256 := by
      rw [BitVec.toNat_and]
      exact Nat.and_two_pow_sub_one_eq_mod b.toBitVec.toNat 8
    rw [BitVec.toInt_eq_toNat_of_lt (by rw [hn]; omega), hn]
  have e2 : b.toInt8.toInt % 256 = ((b.toBitVec.toNat % 256 : Nat) : Int) := by
    show (b.toBitVec.signExtend 8).toInt % 256 = _
    have hs : b.toBitVec.signExtend 8 = b.toBitVec.setWidth 8 := BitVec.signExtend_eq_setWidth_of_le _ (by decide)
    rw [hs, BitVec.toInt_eq_toNat_cond, BitVec.toNat_setWidth]
    split <;> omega
  rw [e1, e2]
def tpR (h h' : AH) : Prop := 0 ≤ h 1 1 ∧ h' 98 16 = h 1 1 ∧ ∀ i, 0 ≤ i → i < h 1 1 → (-128 ≤ h 2 i ∧ h 2 i < 128) ∧ h' 106 i = h 2 i % 256
theorem lay4_at (h : AH) (c o k : Int) (f : Int → Int) (hco : c ≠ o) (i : Int) : lay4 h c o k f c i = if i = h o k + 3 then f 0 else if i = h o k + 2 then f 8 else if i = h o k + 1 then f 16 else if i = h o k then f 24 else h c i := by
  unfold lay4
  rw [up_n hco]
  by_cases c3 : i = h o k + 3
  · rw [if_pos c3, c3, up_ci]
  rw [if_neg c3, up_cn c3, up_n hco]
  by_cases c2 : i = h o k + 2
  · rw [if_pos c2, c2, up_ci]
  rw [if_neg c2, up_cn c2, up_n hco]
  by_cases c1 : i = h o k + 1
  · rw [if_pos c1, c1, up_ci]
  rw [if_neg c1, up_cn c1, up_n hco]
  by_cases c0 : i = h o k
  · rw [if_pos c0, c0, up_ci]
  rw [if_neg c0, up_cn c0]
theorem tpR.lay {h h' : AH} (t : tpR h h') (v : Int) : tpR (lay4 h 2 1 1 (bC v)) (lay4 h' 106 98 16 (bM v)) := by
  obtain ⟨n0, e, t⟩ := t
  refine ⟨?_, ?_, fun i i0 i1 => ?_⟩
  · rw [lay4_len1]; omega
  · rw [lay4_len1, lay4_len98, e]
  · rw [lay4_len1] at i1
    rw [lay4_at _ _ _ _ _ (by decide), lay4_at _ _ _ _ _ (by decide), e]
    by_cases c3 : i = h 1 1 + 3
    · rw [if_pos c3, if_pos c3]; exact ⟨w8_rng _, w8_mod _⟩
    rw [if_neg c3, if_neg c3]
    by_cases c2 : i = h 1 1 + 2
    · rw [if_pos c2, if_pos c2]; exact ⟨w8_rng _, w8_mod _⟩
    rw [if_neg c2, if_neg c2]
    by_cases c1 : i = h 1 1 + 1
    · rw [if_pos c1, if_pos c1]; exact ⟨w8_rng _, w8_mod _⟩
    rw [if_neg c1, if_neg c1]
    by_cases c0 : i = h 1 1
    · rw [if_pos c0, if_pos c0]; exact ⟨w8_rng _, w8_mod _⟩
    rw [if_neg c0, if_neg c0]
    exact t i i0 (by omega)
theorem lay4_n {h : AH} {c o k c' : Int} {f : Int → Int} (a : c' ≠ c) (b : c' ≠ o) : lay4 h c o k f c' = h c' := by
  unfold lay4
  rw [up_n b, up_n a, up_n b, up_n a, up_n b, up_n a, up_n b, up_n a]
theorem lay4_j {h : AH} {c o k j : Int} {f : Int → Int} (a : o ≠ c) (b : j ≠ k) : lay4 h c o k f o j = h o j := by
  unfold lay4
  rw [up_cn b, up_n a, up_cn b, up_n a, up_cn b, up_n a, up_cn b, up_n a]
theorem R_feed {h h1 h2 : AH} {a b c d e : Int} (hr : REL h) (hfit : h 1 1 + 20 ≤ 700) (e1 : h1 = lay4 (lay4 (lay4 (lay4 (lay4 h 2 1 1 (bC a)) 2 1 1 (bC b)) 2 1 1 (bC c)) 2 1 1 (bC d)) 2 1 1 (bC e)) (e2 : h2 = lay4 (lay4 (lay4 (lay4 (lay4 (up h1 98 0 0) 106 98 16 (bM a)) 106 98 16 (bM b)) 106 98 16 (bM c)) 106 98 16 (bM d)) 106 98 16 (bM e)) : REL h2 := by
  have n1 : ∀ x, x ≠ 2 → x ≠ 1 → h1 x = h x := fun x p q => by rw [e1, lay4_n p q, lay4_n p q, lay4_n p q, lay4_n p q, lay4_n p q]
  have j1 : ∀ j, j ≠ 1 → h1 1 j = h 1 j := fun j p => by rw [e1, lay4_j (by decide) p, lay4_j (by decide) p, lay4_j (by decide) p, lay4_j (by decide) p, lay4_j (by decide) p]
  have n2 : ∀ x, x ≠ 106 → x ≠ 98 → h2 x = h1 x := fun x p q => by rw [e2, lay4_n p q, lay4_n p q, lay4_n p q, lay4_n p q, lay4_n p q, up_n q]
  have j2 : ∀ j, j ≠ 16 → j ≠ 0 → h2 98 j = h 98 j := fun j p q => by rw [e2, lay4_j (by decide) p, lay4_j (by decide) p, lay4_j (by decide) p, lay4_j (by decide) p, lay4_j (by decide) p, up_cn q, n1 98 (by decide) (by decide)]
  have hr0 := hr
  obtain ⟨n, ⟨t0, t1, t2⟩, ⟨cn1, cn2⟩, te, -, lv, im, -, -, gu, tr⟩ := hr0
  have tp0 : tpR h (up h1 98 0 0) := ⟨t0.1, by rw [up_cn (by decide), n1 98 (by decide) (by decide)]; exact t1, fun i p q => ⟨(t2 i p q).1, by rw [up_n (by decide), n1 106 (by decide) (by decide)]; exact (t2 i p q).2⟩⟩
  have tp5 : tpR h1 h2 := by
    have := ((((tp0.lay a).lay b).lay c).lay d).lay e
    rw [← e1, ← e2] at this
    exact this
  have len : h1 1 1 = h 1 1 + 20 := by
    rw [e1]
    show h 1 1 + 4 + 4 + 4 + 4 + 4 = _
    omega
  have all : ∀ x, x ≠ 1 → x ≠ 2 → x ≠ 98 → x ≠ 106 → h2 x = h x := fun x p q r s => by rw [n2 x s r, n1 x q p]
  have c1 : h2 1 = h1 1 := n2 1 (by decide) (by decide)
  refine hr.chg (by rw [c1, j1 4 (by decide)]) (by rw [c1, j1 5 (by decide)]) (fun x p q _ _ r => all x p q (by omega) (by omega)) (fun i hi => j2 i (by omega) (by omega)) (fun x p q => all x (by omega) (by omega) (by omega) (by omega)) (all 93 (by decide) (by decide) (by decide) (by decide)) ?_ ?_ ?_ ?_ ?_ ?_
  · refine ⟨by rw [c1]; omega, by rw [c1]; exact tp5.2.1, fun i p q => ?_⟩
    rw [c1] at q
    rw [n2 2 (by decide) (by decide)]
    exact tp5.2.2 i p q
  · exact ⟨by rw [c1, j2 18 (by decide) (by decide), j1 2 (by decide)]; exact cn1, by rw [all 107 (by decide) (by decide) (by decide) (by decide), all 3 (by decide) (by decide) (by decide) (by decide)]; exact cn2⟩
  · unfold liveR at lv ⊢
    rw [j2 1 (by decide) (by decide), j2 50 (by decide) (by decide), j2 66 (by decide) (by decide), j2 68 (by decide) (by decide), all 34 (by decide) (by decide) (by decide) (by decide), all 35 (by decide) (by decide) (by decide) (by decide), all 36 (by decide) (by decide) (by decide) (by decide), all 37 (by decide) (by decide) (by decide) (by decide), all 38 (by decide) (by decide) (by decide) (by decide), all 39 (by decide) (by decide) (by decide) (by decide), all 116 (by decide) (by decide) (by decide) (by decide), all 117 (by decide) (by decide) (by decide) (by decide), all 123 (by decide) (by decide) (by decide) (by decide), all 124 (by decide) (by decide) (by decide) (by decide), all 128 (by decide) (by decide) (by decide) (by decide)]
    exact lv
  · unfold imgR keptR at im ⊢
    rw [c1, j1 8 (by decide), j2 1 (by decide) (by decide), j2 78 (by decide) (by decide), j2 79 (by decide) (by decide), j2 80 (by decide) (by decide), j2 81 (by decide) (by decide), all 40 (by decide) (by decide) (by decide) (by decide), all 41 (by decide) (by decide) (by decide) (by decide), all 42 (by decide) (by decide) (by decide) (by decide), all 43 (by decide) (by decide) (by decide) (by decide), all 44 (by decide) (by decide) (by decide) (by decide), all 45 (by decide) (by decide) (by decide) (by decide), all 132 (by decide) (by decide) (by decide) (by decide), all 133 (by decide) (by decide) (by decide) (by decide), all 134 (by decide) (by decide) (by decide) (by decide), all 135 (by decide) (by decide) (by decide) (by decide), all 136 (by decide) (by decide) (by decide) (by decide)]
    exact im
  · have gc : ∀ k, 0 ≤ k → k ≤ 14 → h2 (h 1 4 + k) = h (h 1 4 + k) := fun k a b => all _ (by unfold nowR at n; omega) (by unfold nowR at n; omega) (by unfold nowR at n; omega) (by unfold nowR at n; omega)
    have gc0 : h2 (h 1 4) = h (h 1 4) := by have := gc 0 (by decide) (by decide); rw [Int.add_zero] at this; exact this
    unfold gueR at gu ⊢
    rw [c1, j1 4 (by decide), gc 9 (by decide) (by decide), all 86 (by decide) (by decide) (by decide) (by decide)]
    exact ⟨gu.1, guOk_same (all 82 (by decide) (by decide) (by decide) (by decide)) (all 83 (by decide) (by decide) (by decide) (by decide)) (all 35 (by decide) (by decide) (by decide) (by decide)) (all 36 (by decide) (by decide) (by decide) (by decide)) gc0 gc gu.2⟩
  · have gc : ∀ k, 0 ≤ k → k ≤ 14 → h2 (h 1 4 + k) = h (h 1 4 + k) := fun k a b => all _ (by unfold nowR at n; omega) (by unfold nowR at n; omega) (by unfold nowR at n; omega) (by unfold nowR at n; omega)
    have gc0 : h2 (h 1 4) = h (h 1 4) := by have := gc 0 (by decide) (by decide); rw [Int.add_zero] at this; exact this
    unfold truR at tr ⊢
    rw [c1, j1 4 (by decide), gc 9 (by decide) (by decide)]
    exact truOk_same (all 88 (by decide) (by decide) (by decide) (by decide)) (all 89 (by decide) (by decide) (by decide) (by decide)) (all 36 (by decide) (by decide) (by decide) (by decide)) gc0 gc tr
