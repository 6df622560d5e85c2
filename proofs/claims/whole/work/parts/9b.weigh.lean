/-! ===== the class: weigh ===== -/
def wgR (h h' : AH) (l N len : Int) (a e : Prop) : Prop := (∀ c, c ≠ 74 → c ≠ 75 → c ≠ 79 → h' c = h c) ∧ h' 74 (l * 6 + 0) = h 74 (l * 6 + 0) + (if cl a = true then 1 else 0) ∧ h' 74 (l * 6 + 1) = h 74 (l * 6 + 1) + (if cl e = true then 1 else 0) ∧
  (((a ∧ (h 74 (l * 6 + 4) = -1 ∨ len < h 74 (l * 6 + 2))) ∧ h' 74 (l * 6 + 4) = N ∧ h' 74 (l * 6 + 2) = len) ∨ (¬ (a ∧ (h 74 (l * 6 + 4) = -1 ∨ len < h 74 (l * 6 + 2))) ∧ h' 74 (l * 6 + 4) = h 74 (l * 6 + 4) ∧ h' 74 (l * 6 + 2) = h 74 (l * 6 + 2))) ∧
  (∀ i, i ≠ l * 6 + 0 → i ≠ l * 6 + 1 → i ≠ l * 6 + 2 → i ≠ l * 6 + 4 → h' 74 i = h 74 i) ∧
  (∀ M, 0 ≤ M → M < 3072 → btu (h' 75 (l * 96 + M / 32)) (M % 32).toNat = (btu (h 75 (l * 96 + M / 32)) (M % 32).toNat || (cl a && decide (M = N)))) ∧
  (∀ i, (i < l * 96 ∨ l * 96 + 96 ≤ i) → h' 75 i = h 75 i) ∧ ∀ i, 0 ≤ i → i < 2304 → -2147483648 ≤ h' 75 i ∧ h' 75 i < 2147483648
theorem c_weighV {fr : Nat} {l f i N g : Int} {D : DT} {A : Int → Int → Int} {S : Int → Int} {h : AH} (hf : 4 ≤ fr) (hv : vst h g D) (l0 : 0 ≤ l) (l1 : l < 24) (f0 : 0 ≤ f) (f1 : f < D 0 3) (N0 : 0 ≤ N) (N1 : N < 3072) (hn : 0 ≤ h 55 14 ∧ h 55 14 ≤ 12) (hlen : 1 ≤ h 55 12 ∧ h 55 12 ≤ 12) (hr : lineR D A f i (h 76) S (h 78) (h 55 14)) (rg : ∀ k, 0 ≤ k → k ≤ 4 → -2 ≤ h 74 (l * 6 + k) ∧ h 74 (l * 6 + k) ≤ 100000) :
    Sp mX10_weigh true fr 0 0 [zR 55, zI l, zI f, zI N] 137 h (rI (fun x h' => wgR h h' l N (h 55 12) (Ans D A f i) (Ech D A f i) ∧ ((x = 1 ∧ Ans D A f i) ∨ (x = 0 ∧ ¬ Ans D A f i)))) := by
  refine Sp.mk yX10_weigh_ok rfl rfl ?_
  have he := hv.eq
  have hok := hv.ok
  obtain ⟨⟨hg, h0⟩, -, hd, ht, r78, r75⟩ := id hv
  obtain ⟨vt, -, -, -, lm, -⟩ := id ht
  obtain ⟨e0, e10, e11, e12, e13, e14⟩ := he.g
  have L := (hd.2.2.2.2.2.2.2.2.2.2.2.2.2.2 f f0 f1).1
  have f1' : f < h (h 55 0) 3 := by rw [← dV0 h, e0]; exact f1
  have d13 : dV h 13 f = D 13 f := by rw [e13]
  have hw := (hr.1 (D 13 f - 1) (by omega) (by omega)).1
  have iA := Ans_iff hd hr
  have iE := Ech_iff L.1 hr
  refine bX10_weigh_0 (hS := c_isEchoed (by omega) (by rw [h0]; exact hg) hok f0 f1' hn r78 (by
    have e1 : h (h 55 0 + 13) f = D 13 f := d13
    have e2 : h (h 55 0) 2 = D 0 2 := by rw [← dV0 h, e0]
    rw [e1, e2]; exact hw)) (kk := ?_)
  rintro x h1 ⟨e1, hx⟩
  rw [e1]; clear e1 h1
  rw [d13, e11, fitW_c he, ← iE] at hx
  -- behind the echo
  have rest : ∀ (h1 : AH) (x2 : AV), (∀ c, c ≠ 74 → h1 c = h c) → (∀ j, j ≠ l * 6 + 1 → h1 74 j = h 74 j) → h1 74 (l * 6 + 1) = h 74 (l * 6 + 1) + (if cl (Ech D A f i) = true then 1 else 0) → Wp mX10_weigh (kR fr 0 0) (rI (fun x h' => wgR h h' l N (h 55 12) (Ans D A f i) (Ech D A f i) ∧ ((x = 1 ∧ Ans D A f i) ∨ (x = 0 ∧ ¬ Ans D A f i)))) (0, 0) 27 [zR 55, zI l, x2, zI N, zI (l * 6)] [] 137 h1 := by
    intro h1 x2 k1 j1 n1
    have e55 : h1 55 = h 55 := k1 55 (by decide)
    have hv1 : vst h1 g D := hv.keep (fun c a b => k1 c (by omega)) (fun j _ _ => by rw [e55]) (by rw [k1 78 (by decide)]; exact r78) (by rw [k1 75 (by decide)]; exact r75)
    have he1 := hv1.eq
    have vt1 := hv1.2.2.2.1.1
    have lm1 := hv1.2.2.2.1.2.2.2.2.1
    refine bX10_weigh_27 (hS := c_isLine (by omega) (by rw [e55, h0]; exact hg) hv1.ok (by rw [vtab_c he1]; exact vt1) (by rw [lensM_c he1]; exact lm1) (by rw [e55]; exact hn) (by rw [k1 78 (by decide)]; exact r78)) (kk := ?_)
    rintro y h2 ⟨k2, hy⟩
    rw [isLineB_c he1, k1 78 (by decide), e55, ← iA] at hy
    have e74 : h2 74 = h1 74 := k2 74 (by decide)
    have e75 : h2 75 = h 75 := by rw [k2 75 (by decide), k1 75 (by decide)]
    have e552 : h2 55 = h 55 := by rw [k2 55 (by decide), e55]
    have v0 : h2 74 (l * 6 + 0) = h 74 (l * 6 + 0) := by rw [e74, j1 _ (by omega)]
    have v2 : h2 74 (l * 6 + 2) = h 74 (l * 6 + 2) := by rw [e74, j1 _ (by omega)]
    have v4 : h2 74 (l * 6 + 4) = h 74 (l * 6 + 4) := by rw [e74, j1 _ (by omega)]
    have g0 := rg 0 (by decide) (by decide)
    have g2 := rg 2 (by decide) (by decide)
    have g4 := rg 4 (by decide) (by decide)
    refine bX10_weigh_31 (r1 := by rcases hy with z | z <;> omega) (kt := fun q => ?_) (kf := fun q => ?_)
    rotate_left
    · rcases hy with ⟨z, -⟩ | ⟨-, no⟩
      · omega
      refine bX10_weigh_34 (hq := ⟨_, rfl, rfl, ⟨fun c a b e => by rw [k2 c e, k1 c a], ?_, ?_, Or.inr ⟨fun z => no z.1, v4, v2⟩, fun j a b _ _ => by rw [e74, j1 j b], fun M a b => ?_, fun j _ => by rw [e75], by rw [e75]; exact r75⟩, Or.inr ⟨rfl, no⟩⟩)
      · rw [v0, if_neg (by rw [cl_neg no]; decide)]; omega
      · rw [e74]; exact n1
      · rw [e75, cl_neg no, Bool.false_and, Bool.or_false]
    rcases hy with ⟨-, yes⟩ | ⟨z, -⟩
    rotate_left
    · exact absurd z q
    generalize hh3 : up (up h2 74 (l * 6 + 0) (h2 74 (l * 6 + 0) + 1)) 75 (l * 96 + N / 32) (bOr (h2 75 (l * 96 + N / 32)) (1 * 2 ^ (N % 32).toNat)) = h3
    have u4 : up h2 74 (l * 6 + 0) (h2 74 (l * 6 + 0) + 1) 74 (l * 6 + 4) = h 74 (l * 6 + 4) := by rw [up_cn (by omega), v4]
    have k3 : ∀ c, c ≠ 74 → c ≠ 75 → h3 c = h2 c := fun c a b => by rw [← hh3, up_n b, up_n a]
    have w0 : h3 74 (l * 6 + 0) = h 74 (l * 6 + 0) + 1 := by rw [← hh3, up_n (by decide), up_ci, v0]
    have wj : ∀ j, j ≠ l * 6 + 0 → h3 74 j = h1 74 j := fun j hj => by rw [← hh3, up_n (by decide), up_cn hj, e74]
    have e753 : ∀ j, h3 75 j = if j = l * 96 + N / 32 then bOr (h 75 (l * 96 + N / 32)) (1 * 2 ^ (N % 32).toNat) else h 75 j := fun j => by
      rw [← hh3]
      by_cases c : j = l * 96 + N / 32
      · rw [if_pos c, c, up_ci, e75]
      · rw [if_neg c, up_cn c, up_n (by decide), e75]
    have bits : ∀ M, 0 ≤ M → M < 3072 → btu (h3 75 (l * 96 + M / 32)) (M % 32).toNat = (btu (h 75 (l * 96 + M / 32)) (M % 32).toNat || (cl (Ans D A f i) && decide (M = N))) := fun M a b => by
      rw [e753, cl_pos yes, Bool.true_and]
      by_cases c : l * 96 + M / 32 = l * 96 + N / 32
      · rw [if_pos c, btu_or, btu_one (by omega), ← c]
        congr 1
        by_cases d : M = N
        · rw [d, decide_eq_true rfl, decide_eq_true rfl]
        · rw [decide_eq_false d, decide_eq_false (by omega)]
      · rw [if_neg c, decide_eq_false (fun z => c (by rw [z])), Bool.or_false]
    have out : ∀ j, (j < l * 96 ∨ l * 96 + 96 ≤ j) → h3 75 j = h 75 j := fun j hj => by rw [e753, if_neg (by omega)]
    have r753 : ∀ j, 0 ≤ j → j < 2304 → -2147483648 ≤ h3 75 j ∧ h3 75 j < 2147483648 := fun j a b => by
      rw [e753]
      split
      · exact bOr_rng _ _
      · exact r75 j a b
    have base : ∀ h4 : AH, (∀ c, c ≠ 74 → h4 c = h3 c) → (∀ j, j ≠ l * 6 + 2 → j ≠ l * 6 + 4 → h4 74 j = h3 74 j) → (((h 74 (l * 6 + 4) = -1 ∨ h 55 12 < h 74 (l * 6 + 2)) ∧ h4 74 (l * 6 + 4) = N ∧ h4 74 (l * 6 + 2) = h 55 12) ∨ (¬ (h 74 (l * 6 + 4) = -1 ∨ h 55 12 < h 74 (l * 6 + 2)) ∧ h4 74 (l * 6 + 4) = h 74 (l * 6 + 4) ∧ h4 74 (l * 6 + 2) = h 74 (l * 6 + 2))) → wgR h h4 l N (h 55 12) (Ans D A f i) (Ech D A f i) := fun h4 k4 j4 p4 => by
      refine ⟨fun c a b e => by rw [k4 c a, k3 c a b, k2 c e, k1 c a], ?_, ?_, ?_, fun j a b c e => by rw [j4 j c e, wj j a, j1 j b], by rw [k4 75 (by decide)]; exact bits, by rw [k4 75 (by decide)]; exact out, by rw [k4 75 (by decide)]; exact r753⟩
      · rw [j4 _ (by omega) (by omega), w0, if_pos (cl_pos yes)]
      · rw [j4 _ (by omega) (by omega), wj _ (by omega)]; exact n1
      · rcases p4 with ⟨a, b⟩ | ⟨a, b⟩
        · exact Or.inl ⟨⟨yes, a⟩, b⟩
        · exact Or.inr ⟨fun z => a z.2, b⟩
    have newP : (h 74 (l * 6 + 4) = -1 ∨ h 55 12 < h 74 (l * 6 + 2)) → ∀ x1 x2 : AV, Wp mX10_weigh (kR fr 0 0) (rI (fun x h' => wgR h h' l N (h 55 12) (Ans D A f i) (Ech D A f i) ∧ ((x = 1 ∧ Ans D A f i) ∨ (x = 0 ∧ ¬ Ans D A f i)))) (0, 0) 101 [zR 55, x1, x2, zI N, zI (l * 6)] [] 137 h3 := fun hp x1 x2 => by
      have e553 : h3 55 = h 55 := by rw [k3 55 (by decide) (by decide), e552]
      refine bX10_weigh_101 (kk := bX10_weigh_124 (hq := ⟨_, rfl, rfl, base _ (fun c a => by rw [up_n a, up_n a]) (fun j a b => by rw [up_cn a, up_cn b]) (Or.inl ⟨hp, ?_, ?_⟩), Or.inl ⟨rfl, yes⟩⟩))
      · rw [up_cn (by omega), up_ci]
      · rw [up_ci, e553]
    refine bX10_weigh_36 (r6 := by rw [u4]; omega) (kt := fun w => ?_) (kf := fun w => ?_)
    · rw [u4] at w
      rw [hh3]
      exact newP (Or.inl w) _ _
    · rw [u4] at w
      rw [hh3]
      have e553 : h3 55 = h 55 := by rw [k3 55 (by decide) (by decide), e552]
      have w2 : h3 74 (l * 6 + 2) = h 74 (l * 6 + 2) := by rw [wj _ (by omega), j1 _ (by omega)]
      have w4 : h3 74 (l * 6 + 4) = h 74 (l * 6 + 4) := by rw [wj _ (by omega), j1 _ (by omega)]
      refine bX10_weigh_85 (r2 := by rw [e553]; omega) (r3 := by rw [w2]; omega) (kt := fun w3 => ?_) (kf := fun w3 => ?_)
      · rw [e553, w2] at w3
        exact bX10_weigh_124 (hq := ⟨_, rfl, rfl, base h3 (fun _ _ => rfl) (fun _ _ _ => rfl) (Or.inr ⟨fun z => by omega, w4, w2⟩), Or.inl ⟨rfl, yes⟩⟩)
      · rw [e553, w2] at w3
        exact newP (Or.inr w3) _ _
  refine bX10_weigh_11 (r1 := by rcases hx with z | z <;> omega) (kt := fun q => ?_) (kf := fun q => ?_)
  · rcases hx with ⟨z, -⟩ | ⟨-, no⟩
    · omega
    exact rest h _ (fun _ _ => rfl) (fun _ _ => rfl) (by rw [if_neg (by rw [cl_neg no]; decide), Int.add_zero])
  · rcases hx with ⟨-, yes⟩ | ⟨z, -⟩
    · exact bX10_weigh_14 (kk := rest _ _ (fun c hc => up_n hc) (fun j hj => up_cn hj) (by rw [up_ci, if_pos (cl_pos yes)]))
    · exact absurd z q
