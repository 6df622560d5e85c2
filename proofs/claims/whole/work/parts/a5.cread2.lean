/-! ===== the class's reader: masks, sweet pairs, words, forms ===== -/
section ReadD
variable {fr : Nat} {h0 h : AH} {g : Int} {T : Int → Int} {n p : Int} {E F : DT} {a s m : Int}
theorem c_readMask (hf : 5 ≤ fr) (hm : m = 0 ∨ m = 1) (r : rdC h g T n p E a s m) : Sp mX6_readMask true fr 0 0 [zR 46] 137 h (rI (rdP h g T n (rMask T n p E a s m))) := by
  refine Sp.mk yX6_readMask_ok rfl rfl ?_
  have r0 := RC.rf r
  have e9 : h 46 9 = m := r.1.2.2.2.2.2.1
  refine bX6_readMask_0 (r1 := by rw [e9]; omega) (kt := fun q => ?_) (kf := fun q => ?_)
  rotate_left
  · rw [e9] at q
    refine bX6_readMask_7 (hS := c_failW r0) (kk := ?_)
    rintro x h1 ⟨rfl, f⟩
    exact bX6_readMask_12 (hq := ⟨_, rfl, rfl, f.no (by decide) (by unfold rMask; rw [if_pos q])⟩)
  rw [e9] at q
  have eS : rMask T n p E a s m = numK T n (bh T n p) 1 99 fun x => numK T n (bh T n (bh T n p)) 0 9 fun y => numK T n (bh T n (bh T n (bh T n p))) 0 99 fun z => endR T n (bh T n (bh T n (bh T n (bh T n p)))) (upD (upD (upD E 0 4 x) 0 5 y) 0 6 z) a s 1 := by unfold rMask; rw [if_neg (by omega)]
  rw [eS]
  refine bX6_readMask_13 (hS := c_stepW (by omega) r0.w.f9) (kk := ?_)
  intro h1 r1
  refine bX6_readMask_22 (hS := c_numW (by omega) R32_1 (by constructor <;> decide) r1) (kk := ?_)
  rintro x h2 (⟨rfl, rfl, n1⟩ | ⟨rfl, n1, f⟩)
  rotate_left
  · refine bX6_readMask_29 (kt := fun z => absurd rfl z) (kf := fun _ => ?_)
    exact bX6_readMask_32 (hq := ⟨_, rfl, rfl, f.no n1 (numK_no n1)⟩)
  refine bX6_readMask_29 (kt := fun _ => ?_) (kf := fun z => absurd z (by decide))
  rw [numK_ok n1]
  refine bX6_readMask_34 (c1 := r1.w.ce) (hS := c_stepW (by omega) (r1.w.w0.eqE (F := upD E 0 4 (vl T n (bh T n p))) (by rw [r1.v6]))) (kk := ?_)
  intro h3 r3
  refine bX6_readMask_49 (hS := c_numW (by omega) R32_0 (by constructor <;> decide) r3) (kk := ?_)
  rintro x h4 (⟨rfl, rfl, n2⟩ | ⟨rfl, n2, f⟩)
  rotate_left
  · refine bX6_readMask_56 (kt := fun z => absurd rfl z) (kf := fun _ => ?_)
    exact bX6_readMask_59 (hq := ⟨_, rfl, rfl, f.no n2 (numK_no n2)⟩)
  refine bX6_readMask_56 (kt := fun _ => ?_) (kf := fun z => absurd z (by decide))
  rw [numK_ok n2]
  refine bX6_readMask_61 (c1 := r3.w.ce) (hS := c_stepW (by omega) (r3.w.w0.eqE (F := upD (upD E 0 4 (vl T n (bh T n p))) 0 5 (vl T n (bh T n (bh T n p)))) (by rw [r3.v6]))) (kk := ?_)
  intro h5 r5
  refine bX6_readMask_76 (hS := c_numW (by omega) R32_0 (by constructor <;> decide) r5) (kk := ?_)
  rintro x h6 (⟨rfl, rfl, n3⟩ | ⟨rfl, n3, f⟩)
  rotate_left
  · refine bX6_readMask_83 (kt := fun z => absurd rfl z) (kf := fun _ => ?_)
    exact bX6_readMask_86 (hq := ⟨_, rfl, rfl, f.no n3 (numK_no n3)⟩)
  refine bX6_readMask_83 (kt := fun _ => ?_) (kf := fun z => absurd z (by decide))
  rw [numK_ok n3]
  refine bX6_readMask_88 (c1 := r5.w.ce) (hS := c_stepW (by omega) (r5.w.w0.eqE (F := upD (upD (upD E 0 4 (vl T n (bh T n p))) 0 5 (vl T n (bh T n (bh T n p)))) 0 6 (vl T n (bh T n (bh T n (bh T n p))))) (by rw [r5.v6]))) (kk := ?_)
  intro h7 r7
  refine bX6_readMask_103 (hS := c_endW (by omega) r7) (kk := ?_)
  intro x h8 pr
  exact bX6_readMask_107 (r1 := pr.rng) (hq := ⟨_, rfl, rfl, pr⟩)
theorem c_readSweet (hf : 5 ≤ fr) (hd : okD E) (r : rdC h g T n p E a s m) : Sp mX6_readSweet true fr 0 0 [zR 46] 137 h (rI (rdP h g T n (rSweet T n p E a s m))) := by
  refine Sp.mk yX6_readSweet_ok rfl rfl ?_
  have r0 := RC.rf r
  have d0 := hd.1
  unfold rSweet
  refine bX6_readSweet_0 (hS := c_stepW (by omega) r0.w) (kk := ?_)
  intro h1 r1
  refine bX6_readSweet_4 (hS := c_sndW (by omega) d0 r1) (kk := ?_)
  rintro x h2 (⟨rfl, rfl, n1⟩ | ⟨rfl, n1, f⟩)
  rotate_left
  · refine bX6_readSweet_8 (kt := fun z => absurd rfl z) (kf := fun _ => ?_)
    exact bX6_readSweet_11 (hq := ⟨_, rfl, rfl, f.no n1 (sndK_no n1)⟩)
  refine bX6_readSweet_8 (kt := fun _ => ?_) (kf := fun z => absurd z (by decide))
  rw [sndK_ok n1]
  have v1 := vl_rng T r1.2.2.2.2
  have w1 := (sndF_ok n1).2
  refine bX6_readSweet_13 (hS := c_stepW (by omega) r1.w) (kk := ?_)
  intro h3 r3
  rw [r1.v6]
  refine bX6_readSweet_22 (hS := c_sndW (by omega) d0 r3) (kk := ?_)
  rintro x h4 (⟨rfl, rfl, n2⟩ | ⟨rfl, n2, f⟩)
  rotate_left
  · refine bX6_readSweet_26 (kt := fun z => absurd rfl z) (kf := fun _ => ?_)
    exact bX6_readSweet_29 (hq := ⟨_, rfl, rfl, f.no n2 (sndK_no n2)⟩)
  refine bX6_readSweet_26 (kt := fun _ => ?_) (kf := fun z => absurd z (by decide))
  rw [sndK_ok n2]
  have v2 := vl_rng T r3.2.2.2.2
  have w2 := (sndF_ok n2).2
  refine bX6_readSweet_31 (r2 := by rw [r3.v6]; omega) (kt := fun z => ?_) (kf := fun z => ?_)
  rotate_left
  · rw [r3.v6] at z
    refine bX6_readSweet_41 (hS := c_failW r3) (kk := ?_)
    rintro x h5 ⟨rfl, f⟩
    exact bX6_readSweet_46 (hq := ⟨_, rfl, rfl, f.no (by decide) (by rw [if_pos z])⟩)
  rw [r3.v6] at z ⊢
  rw [if_neg z]
  generalize vl T n (bh T n p) = x at *
  generalize vl T n (bh T n (bh T n p)) = y at *
  have W1 := r3.w.w1 (k := 3) (i := x) (v := bOr (h4 (h4 46 2 + 3) x) (1 * 2 ^ y.toNat)) (by decide) (by decide)
  refine bX6_readSweet_47 (c1 := r3.w.ce) (c2 := W1.ce) (hS := c_stepW (by omega) ((W1.w1 (k := 3) (by decide) (by decide)).eqE (F := sweetE E x y) (by
    rw [W1.atk (by decide) (by decide), r3.w.atk (by decide) (by decide)]
    unfold sweetE
    have : upD E 3 x (bOr (E 3 x) (1 * 2 ^ y.toNat)) 3 y = E 3 y := by
      unfold upD
      rw [if_pos rfl, if_neg (by omega)]
    rw [this]))) (kk := ?_)
  intro h5 r5
  refine bX6_readSweet_81 (hS := c_endW (by omega) r5) (kk := ?_)
  intro x h6 pr
  exact bX6_readSweet_85 (r1 := pr.rng) (hq := ⟨_, rfl, rfl, pr⟩)
theorem upD_ci (E : DT) (k i v : Int) : upD E k i v k i = v := by unfold upD; rw [if_pos rfl, if_pos rfl]
theorem upD_n {E : DT} {k i v k' : Int} (h : k' ≠ k) : upD E k i v k' = E k' := if_neg h
theorem upD_cn {E : DT} {k i v i' : Int} (h : i' ≠ i) : upD E k i v k i' = E k i' := by unfold upD; rw [if_pos rfl, if_neg h]
theorem c_readWord (hf : 5 ≤ fr) (hd : okD E) (r : rdC h g T n p E a s m) : Sp mX6_readWord true fr 0 0 [zR 46] 137 h (rI (rdP h g T n (rWord T n p E a s m))) := by
  refine Sp.mk yX6_readWord_ok rfl rfl ?_
  have r0 := RC.rf r
  have d0 := hd.1
  have d2 := hd.2.2.1
  generalize hres : rWord T n p E a s m = res
  refine bX6_readWord_0 (c1 := r0.w.ce) (r1 := by rw [r0.w.atw]; omega) (kt := fun q => ?_) (kf := fun q => ?_)
  rotate_left
  · rw [r0.w.atw] at q
    refine bX6_readWord_14 (hS := c_failW r0) (kk := ?_)
    rintro x h1 ⟨rfl, f⟩
    exact bX6_readWord_19 (hq := ⟨_, rfl, rfl, f.no (by decide) (by rw [← hres]; unfold rWord; rw [if_pos q])⟩)
  rw [r0.w.atw] at q ⊢
  unfold rWord at hres
  rw [if_neg (by omega)] at hres
  generalize hw : E 0 2 = w at *
  refine bX6_readWord_20 (hS := c_stepW (by omega) r0.w) (kk := ?_)
  intro h1 r1
  refine bX6_readWord_24 (hS := c_numW (by omega) R32_0 (by constructor <;> decide) r1) (kk := ?_)
  rintro x h2 (⟨rfl, rfl, n1⟩ | ⟨rfl, n1, f⟩)
  rotate_left
  · refine bX6_readWord_30 (kt := fun z => absurd rfl z) (kf := fun _ => ?_)
    exact bX6_readWord_33 (hq := ⟨_, rfl, rfl, f.no n1 (by rw [← hres]; exact numK_no n1)⟩)
  refine bX6_readWord_30 (kt := fun _ => ?_) (kf := fun z => absurd z (by decide))
  rw [numK_ok n1] at hres
  have W1 := r1.w.w1 (k := 10) (i := w) (v := h2 46 6) (by decide) (by decide)
  have W2 := W1.w1 (k := 11) (i := w) (v := 0) (by decide) (by decide)
  refine bX6_readWord_35 (c1 := r1.w.ce) (c2 := W1.ce) (c3 := W2.ce) (hS := c_stepW (by omega) (W2.w0.eqE (F := upD (upD (upD E 10 w (vl T n (bh T n p))) 11 w 0) 0 2 (w + 1)) (by rw [W2.atw, r1.v6, upD_n (k' := 0) (k := 11) (by decide), upD_n (k' := 0) (k := 10) (by decide), hw]))) (kk := ?_)
  intro h3 r3
  refine bX6_readWord_75 (kk := ?_)
  have eps : ∀ (h4 : AH) (q : Int) (E1 : DT) (x1 x2 : AV), RC h h4 g T n q E1 a s m → res = endR T n q E1 a s m → Wp mX6_readWord (kR fr 0 0) (rI (rdP h g T n res)) (0, 0) 154 [zR 46, x1, x2] [] 137 h4 := fun h4 q E1 _ _ r4 e => by
    refine bX6_readWord_154 (hS := c_endW (by omega) r4) (kk := ?_)
    rw [← e]
    intro x h6 pr
    exact bX6_readWord_158 (r1 := pr.rng) (hq := ⟨_, rfl, rfl, pr⟩)
  suffices P : ∀ (d i : Nat) (h4 : AH) (q : Int) (E1 : DT), i + d = 4 → RC h h4 g T n q E1 a s m → E1 0 0 = E 0 0 → E1 11 w = i → res = wordL T n w a s m d q E1 → Wp mX6_readWord (kR fr 0 0) (rI (rdP h g T n res)) (0, 0) 94 [zR 46, zI w, zI i] [] 137 h4 by
    exact bX6_readWord_77 (kt := fun z => by omega) (kf := fun _ => bX6_readWord_82 (kt := fun _ => P 4 0 h3 _ _ (by omega) r3 rfl (by rw [upD_n (by decide), upD_ci]; rfl) hres.symm) (kf := fun z => absurd rfl z))
  intro d
  induction d with
  | zero =>
    intro i h4 q E1 hi r4 _ _ e
    refine bX6_readWord_94 (kt := fun z => by omega) (kf := fun _ => ?_)
    refine bX6_readWord_99 (hS := c_failW r4) (kk := ?_)
    rintro x h5 ⟨rfl, f⟩
    exact bX6_readWord_104 (hq := ⟨_, rfl, rfl, f.no (by decide) e⟩)
  | succ d ih =>
    intro i h4 q E1 hi r4 e00 e11 e
    refine bX6_readWord_94 (kt := fun _ => ?_) (kf := fun z => by omega)
    refine bX6_readWord_105 (hS := c_sndW (by omega) (by rw [e00]; exact d0) r4) (kk := ?_)
    rw [wordL] at e
    rintro x h5 (⟨rfl, rfl, n2⟩ | ⟨rfl, n2, f⟩)
    rotate_left
    · refine bX6_readWord_109 (kt := fun z => absurd rfl z) (kf := fun _ => ?_)
      exact bX6_readWord_112 (hq := ⟨_, rfl, rfl, f.no n2 (by rw [e]; exact sndK_no n2)⟩)
    refine bX6_readWord_109 (kt := fun _ => ?_) (kf := fun z => absurd z (by decide))
    rw [sndK_ok n2, show (3 : Int) - (d : Int) = i by omega] at e
    have X1 := r4.w.w1 (k := 12) (i := w * 4 + i) (v := h5 46 6) (by decide) (by decide)
    refine bX6_readWord_114 (c1 := r4.w.ce) (c2 := X1.ce) (hS := c_stepW (by omega) ((X1.w1 (k := 11) (by decide) (by decide)).eqE (F := upD (upD E1 12 (w * 4 + i) (vl T n q)) 11 w ((i : Int) + 1)) (by rw [X1.atk (by decide) (by decide), r4.v6, upD_n (by decide), e11]))) (kk := ?_)
    intro h6 r6
    have k3 := r6.v3
    have kr := kd_rng T n (bh T n q)
    refine bX6_readWord_148 (kk := ?_)
    rw [show (i : Int) + 1 = ((i + 1 : Nat) : Int) by omega] at *
    refine bX6_readWord_77 (kt := fun z => by omega) (kf := fun _ => bX6_readWord_82 (kt := fun z => by omega) (kf := fun _ => ?_))
    refine bX6_readWord_86 (r1 := by rw [k3]; omega) (kt := fun z => ?_) (kf := fun z => ?_)
    · rw [k3] at z
      rw [if_neg z] at e
      exact eps h6 _ _ _ _ r6 e
    · rw [k3] at z
      rw [if_pos z] at e
      exact ih (i + 1) h6 _ _ (by omega) r6 (by rw [upD_n (by decide), upD_n (by decide)]; exact e00) (upD_ci _ _ _ _) e
theorem c_readForm (hf : 5 ≤ fr) (hd : okD E) (r : rdC h g T n p E a s m) : Sp mX6_readForm true fr 0 0 [zR 46] 137 h (rI (rdP h g T n (rForm T n p E a s m))) := by
  refine Sp.mk yX6_readForm_ok rfl rfl ?_
  have r0 := RC.rf r
  have d3 := hd.2.2.2.1
  generalize hres : rForm T n p E a s m = res
  refine bX6_readForm_0 (c1 := r0.w.ce) (r1 := by rw [r0.w.atw]; omega) (kt := fun q => ?_) (kf := fun q => ?_)
  rotate_left
  · rw [r0.w.atw] at q
    refine bX6_readForm_14 (hS := c_failW r0) (kk := ?_)
    rintro x h1 ⟨rfl, f⟩
    exact bX6_readForm_19 (hq := ⟨_, rfl, rfl, f.no (by decide) (by rw [← hres]; unfold rForm; rw [if_pos q])⟩)
  rw [r0.w.atw] at q ⊢
  unfold rForm at hres
  rw [if_neg (by omega)] at hres
  generalize hw : E 0 3 = w at *
  have W1 := r0.w.w1 (k := 13) (i := w) (v := 0) (by decide) (by decide)
  refine bX6_readForm_20 (c1 := r0.w.ce) (c2 := W1.ce) (hS := c_stepW (by omega) (W1.w0.eqE (F := upD (upD E 13 w 0) 0 3 (w + 1)) (by rw [W1.atw, upD_n (k' := 0) (k := 13) (by decide), hw]))) (kk := ?_)
  intro h3 r3
  refine bX6_readForm_47 (kk := ?_)
  have eps : ∀ (h4 : AH) (q : Int) (E1 : DT) (x1 x2 : AV), RC h h4 g T n q E1 a s m → res = endR T n q E1 a s m → Wp mX6_readForm (kR fr 0 0) (rI (rdP h g T n res)) (0, 0) 128 [zR 46, x1, x2] [] 137 h4 := fun h4 q E1 _ _ r4 e => by
    refine bX6_readForm_128 (hS := c_endW (by omega) r4) (kk := ?_)
    rw [← e]
    intro x h6 pr
    exact bX6_readForm_132 (r1 := pr.rng) (hq := ⟨_, rfl, rfl, pr⟩)
  suffices P : ∀ (d i : Nat) (h4 : AH) (q : Int) (E1 : DT), i + d = 3 → RC h h4 g T n q E1 a s m → E1 13 w = i → res = formL T n w a s m d q E1 → Wp mX6_readForm (kR fr 0 0) (rI (rdP h g T n res)) (0, 0) 66 [zR 46, zI w, zI i] [] 137 h4 by
    exact bX6_readForm_49 (kt := fun z => by omega) (kf := fun _ => bX6_readForm_54 (kt := fun _ => P 3 0 h3 _ _ (by omega) r3 (by rw [upD_n (by decide), upD_ci]; rfl) hres.symm) (kf := fun z => absurd rfl z))
  intro d
  induction d with
  | zero =>
    intro i h4 q E1 hi r4 _ e
    refine bX6_readForm_66 (kt := fun z => by omega) (kf := fun _ => ?_)
    refine bX6_readForm_71 (hS := c_failW r4) (kk := ?_)
    rintro x h5 ⟨rfl, f⟩
    exact bX6_readForm_76 (hq := ⟨_, rfl, rfl, f.no (by decide) e⟩)
  | succ d ih =>
    intro i h4 q E1 hi r4 e11 e
    refine bX6_readForm_66 (kt := fun _ => ?_) (kf := fun z => by omega)
    refine bX6_readForm_77 (hS := c_numW (by omega) R32_0 (by constructor <;> decide) r4) (kk := ?_)
    rw [formL] at e
    rintro x h5 (⟨rfl, rfl, n2⟩ | ⟨rfl, n2, f⟩)
    rotate_left
    · refine bX6_readForm_83 (kt := fun z => absurd rfl z) (kf := fun _ => ?_)
      exact bX6_readForm_86 (hq := ⟨_, rfl, rfl, f.no n2 (by rw [e]; exact numK_no n2)⟩)
    refine bX6_readForm_83 (kt := fun _ => ?_) (kf := fun z => absurd z (by decide))
    rw [numK_ok n2, show (2 : Int) - (d : Int) = i by omega] at e
    have X1 := r4.w.w1 (k := 14) (i := w * 3 + i) (v := h5 46 6) (by decide) (by decide)
    refine bX6_readForm_88 (c1 := r4.w.ce) (c2 := X1.ce) (hS := c_stepW (by omega) ((X1.w1 (k := 13) (by decide) (by decide)).eqE (F := upD (upD E1 14 (w * 3 + i) (vl T n q)) 13 w ((i : Int) + 1)) (by rw [X1.atk (by decide) (by decide), r4.v6, upD_n (by decide), e11]))) (kk := ?_)
    intro h6 r6
    have k3 := r6.v3
    have kr := kd_rng T n (bh T n q)
    refine bX6_readForm_122 (kk := ?_)
    rw [show (i : Int) + 1 = ((i + 1 : Nat) : Int) by omega] at *
    refine bX6_readForm_49 (kt := fun z => by omega) (kf := fun _ => bX6_readForm_54 (kt := fun z => by omega) (kf := fun _ => ?_))
    refine bX6_readForm_58 (r1 := by rw [k3]; omega) (kt := fun z => ?_) (kf := fun z => ?_)
    · rw [k3] at z
      rw [if_neg z] at e
      exact eps h6 _ _ _ _ r6 e
    · rw [k3] at z
      rw [if_pos z] at e
      exact ih (i + 1) h6 _ _ (by omega) r6 (upD_ci _ _ _ _) e
end ReadD
