/-! ===== the class's reader: walls, a line, a text ===== -/
section ReadE
variable {fr : Nat} {h0 h : AH} {g : Int} {T : Int → Int} {n p : Int} {E F : DT} {a s m : Int}
theorem c_spW {i : Nat} (hf : 6 ≤ fr) (hi : i < 10) (r : RC h0 h g T n p E a s m) : Sp mX6_spells true fr 0 0 [zR 46, zR (-(i : Int) - 1)] 137 h (rI (fun x h' => h' = h ∧ ((x = 1 ∧ spl T n p (SW i)) ∨ (x = 0 ∧ ¬ spl T n p (SW i))))) := c_spells hf hi r.2
theorem c_readAgain {w : Int} (hf : 5 ≤ fr) (hw : 0 ≤ w ∧ w < 6) (r : RC h0 h g T n p E a s m) : Sp mX6_readAgain true fr 0 0 [zR 46, zI w] 137 h (rI (fun x h' => (x = 1 ∧ numF T n (bh T n p) 1 3 = 0 ∧ RC h0 h' g T n (bh T n (bh T n p)) (upD E 7 w (vl T n (bh T n p))) a s m) ∨ (x = 0 ∧ numF T n (bh T n p) 1 3 ≠ 0 ∧ FL h0 h' g (numF T n (bh T n p) 1 3) (pl T n (bh T n p))))) := by
  refine Sp.mk yX6_readAgain_ok rfl rfl ?_
  refine bX6_readAgain_0 (hS := c_stepW (by omega) r.w) (kk := ?_)
  intro h1 r1
  refine bX6_readAgain_4 (hS := c_numW (by omega) R32_1 (by constructor <;> decide) r1) (kk := ?_)
  rintro x h2 (⟨rfl, rfl, n1⟩ | ⟨rfl, n1, f⟩)
  rotate_left
  · refine bX6_readAgain_10 (kt := fun z => absurd rfl z) (kf := fun _ => ?_)
    exact bX6_readAgain_13 (hq := ⟨_, rfl, rfl, Or.inr ⟨rfl, n1, f⟩⟩)
  refine bX6_readAgain_10 (kt := fun _ => ?_) (kf := fun z => absurd z (by decide))
  refine bX6_readAgain_15 (c1 := r1.w.ce) (hS := c_stepW (by omega) ((r1.w.w1 (by decide) (by decide)).eqE (F := upD E 7 w (vl T n (bh T n p))) (by rw [r1.v6]))) (kk := ?_)
  intro h3 r3
  exact bX6_readAgain_32 (hq := ⟨_, rfl, rfl, Or.inl ⟨rfl, n1, r3⟩⟩)
theorem c_readSwallows {w : Int} (hf : 5 ≤ fr) (hd : okD E) (hw : 0 ≤ w ∧ w < E 0 1) (r : RC h0 h g T n p E a s m) : Sp mX6_readSwallows true fr 0 0 [zR 46, zI w] 137 h (rI (fun x h' => (x = 1 ∧ ∃ q E1, (∀ K, swL T n w K 5 (bh T n p) E = K q E1) ∧ RC h0 h' g T n q E1 a s m) ∨ (x = 0 ∧ ∃ k q, k ≠ 0 ∧ (∀ K, swL T n w K 5 (bh T n p) E = .inl (k, q)) ∧ FL h0 h' g k q))) := by
  refine Sp.mk yX6_readSwallows_ok rfl rfl ?_
  have d1 := hd.2.1
  generalize hS : (fun K : Int → DT → RES => swL T n w K 5 (bh T n p) E) = S
  have hS' : ∀ K, swL T n w K 5 (bh T n p) E = S K := fun K => by rw [← hS]
  simp only [hS']
  generalize hQ : (rI (fun x h' => (x = 1 ∧ ∃ q E1, (∀ K, S K = K q E1) ∧ RC h0 h' g T n q E1 a s m) ∨ (x = 0 ∧ ∃ k q, k ≠ 0 ∧ (∀ K, S K = .inl (k, q)) ∧ FL h0 h' g k q))) = Q
  refine bX6_readSwallows_0 (hS := c_stepW (by omega) r.w) (kk := ?_)
  intro h1 r1
  refine bX6_readSwallows_4 (kk := ?_)
  have ends : ∀ (h2 : AH) (q : Int) (E1 : DT) (x0 x1 x2 : AV), RC h0 h2 g T n q E1 a s m → (∀ K, S K = K q E1) → Wp mX6_readSwallows (kR fr 0 0) Q (0, 0) 87 [x0, x1, x2] [] 137 h2 := fun h2 q E1 _ _ _ r2 e => by
    refine bX6_readSwallows_87 (hq := ?_)
    rw [← hQ]
    exact ⟨_, rfl, rfl, Or.inl ⟨rfl, q, E1, e, r2⟩⟩
  suffices P : ∀ (d i : Nat) (h2 : AH) (q : Int) (E1 : DT), i + d + 1 = 5 → RC h0 h2 g T n q E1 a s m → okD E1 → E1 0 1 = E 0 1 → (∀ K, S K = swL T n w K (d + 1) q E1) → Wp mX6_readSwallows (kR fr 0 0) Q (0, 0) 23 [zR 46, zI w, zI i] [] 137 h2 by
    exact bX6_readSwallows_6 (kt := fun z => by omega) (kf := fun _ => bX6_readSwallows_11 (kt := fun _ => P 4 0 h1 _ _ (by omega) r1 hd rfl (fun K => (hS' K).symm)) (kf := fun z => absurd rfl z))
  intro d
  induction d with
  | zero =>
    intro i h2 q E1 hi r2 ok1 e01 e
    have e4 : i = 4 := by omega
    subst e4
    refine bX6_readSwallows_23 (hS := c_numW (by omega) R32_0 (by constructor <;> decide) r2) (kk := ?_)
    rintro x h3 (⟨rfl, rfl, n1⟩ | ⟨rfl, n1, f⟩)
    rotate_left
    · refine bX6_readSwallows_29 (kt := fun z => absurd rfl z) (kf := fun _ => ?_)
      refine bX6_readSwallows_32 (hq := ?_)
      rw [← hQ]
      exact ⟨_, rfl, rfl, Or.inr ⟨rfl, _, _, n1, fun K => by rw [e K, swL, numK_no n1], f⟩⟩
    refine bX6_readSwallows_29 (kt := fun _ => ?_) (kf := fun z => absurd z (by decide))
    have v1 := (numF_ok n1).2.1
    have q6 := (ok1.2.2.2.2.2.2.2.2.2.1 w hw.1 (by rw [e01]; exact hw.2)).2.2.1
    have e6 := r2.w.atk (k := 6) (by decide) (by decide) w
    have el := bit_look (x := E1 6 w) (s := vl T n q) q6.1 v1.1
    refine bX6_readSwallows_34 (c1 := r2.w.ce) (r2 := by rw [r2.v6]; omega) (r3 := by rw [e6]; omega) (r4 := by rw [e6, r2.v6, el]; split <;> decide) (kt := fun z => ?_) (kf := fun z => ?_)
    rotate_left
    · rw [e6, r2.v6, el] at z
      have bit : bt (E1 6 w) (vl T n q).toNat = true := by
        by_cases y : bt (E1 6 w) (vl T n q).toNat = true
        · exact y
        · rw [if_neg y] at z; omega
      refine bX6_readSwallows_53 (hS := c_failW r2) (kk := ?_)
      rintro x h4 ⟨rfl, f⟩
      refine bX6_readSwallows_58 (hq := ?_)
      rw [← hQ]
      exact ⟨_, rfl, rfl, Or.inr ⟨rfl, _, _, by decide, fun K => by rw [e K, swL, numK_ok n1, if_pos bit], f⟩⟩
    rw [e6, r2.v6, el] at z
    have bit : ¬ bt (E1 6 w) (vl T n q).toNat = true := fun y => by rw [if_pos y] at z; omega
    refine bX6_readSwallows_59 (c1 := r2.w.ce) (r2 := by rw [r2.v6]; omega) (hS := c_stepW (by omega) ((r2.w.w1 (k := 6) (by decide) (by decide)).eqE (F := upD E1 6 w (bOr (E1 6 w) (1 * 2 ^ (vl T n q).toNat))) (by rw [e6, r2.v6]))) (kk := ?_)
    intro h4 r4
    refine bX6_readSwallows_81 (kk := bX6_readSwallows_6 (kt := fun _ => ?_) (kf := fun y => by omega))
    refine ends h4 _ _ _ _ _ r4 (fun K => ?_)
    rw [e K, swL, numK_ok n1, if_neg bit]
    split
    · rfl
    · rfl
  | succ d ih =>
    intro i h2 q E1 hi r2 ok1 e01 e
    refine bX6_readSwallows_23 (hS := c_numW (by omega) R32_0 (by constructor <;> decide) r2) (kk := ?_)
    rintro x h3 (⟨rfl, rfl, n1⟩ | ⟨rfl, n1, f⟩)
    rotate_left
    · refine bX6_readSwallows_29 (kt := fun z => absurd rfl z) (kf := fun _ => ?_)
      refine bX6_readSwallows_32 (hq := ?_)
      rw [← hQ]
      exact ⟨_, rfl, rfl, Or.inr ⟨rfl, _, _, n1, fun K => by rw [e K, swL, numK_no n1], f⟩⟩
    refine bX6_readSwallows_29 (kt := fun _ => ?_) (kf := fun z => absurd z (by decide))
    have v1 := (numF_ok n1).2.1
    have q6 := (ok1.2.2.2.2.2.2.2.2.2.1 w hw.1 (by rw [e01]; exact hw.2)).2.2.1
    have e6 := r2.w.atk (k := 6) (by decide) (by decide) w
    have el := bit_look (x := E1 6 w) (s := vl T n q) q6.1 v1.1
    refine bX6_readSwallows_34 (c1 := r2.w.ce) (r2 := by rw [r2.v6]; omega) (r3 := by rw [e6]; omega) (r4 := by rw [e6, r2.v6, el]; split <;> decide) (kt := fun z => ?_) (kf := fun z => ?_)
    rotate_left
    · rw [e6, r2.v6, el] at z
      have bit : bt (E1 6 w) (vl T n q).toNat = true := by
        by_cases y : bt (E1 6 w) (vl T n q).toNat = true
        · exact y
        · rw [if_neg y] at z; omega
      refine bX6_readSwallows_53 (hS := c_failW r2) (kk := ?_)
      rintro x h4 ⟨rfl, f⟩
      refine bX6_readSwallows_58 (hq := ?_)
      rw [← hQ]
      exact ⟨_, rfl, rfl, Or.inr ⟨rfl, _, _, by decide, fun K => by rw [e K, swL, numK_ok n1, if_pos bit], f⟩⟩
    rw [e6, r2.v6, el] at z
    have bit : ¬ bt (E1 6 w) (vl T n q).toNat = true := fun y => by rw [if_pos y] at z; omega
    refine bX6_readSwallows_59 (c1 := r2.w.ce) (r2 := by rw [r2.v6]; omega) (hS := c_stepW (by omega) ((r2.w.w1 (k := 6) (by decide) (by decide)).eqE (F := upD E1 6 w (bOr (E1 6 w) (1 * 2 ^ (vl T n q).toNat))) (by rw [e6, r2.v6]))) (kk := ?_)
    intro h4 r4
    have k3 := r4.v3
    have kr := kd_rng T n (bh T n q)
    refine bX6_readSwallows_81 (kk := ?_)
    rw [show (i : Int) + 1 = ((i + 1 : Nat) : Int) by omega]
    refine bX6_readSwallows_6 (kt := fun y => by omega) (kf := fun _ => bX6_readSwallows_11 (kt := fun y => by omega) (kf := fun _ => ?_))
    refine bX6_readSwallows_15 (r1 := by rw [k3]; omega) (kt := fun y => ?_) (kf := fun y => ?_)
    · rw [k3] at y
      refine ends h4 _ _ _ _ _ r4 (fun K => ?_)
      rw [e K, swL, numK_ok n1, if_neg bit, if_neg y]
    · rw [k3] at y
      refine ih (i + 1) h4 _ _ (by omega) r4 (ok_swallow ok1 ⟨hw.1, by rw [e01]; exact hw.2⟩ v1) e01 (fun K => ?_)
      rw [e K, swL, numK_ok n1, if_neg bit, if_pos y]
theorem c_readWall (hf : 8 ≤ fr) (hd : okD E) (r : rdC h g T n p E a s m) : Sp mX6_readWall true fr 0 0 [zR 46] 137 h (rI (rdP h g T n (rWall T n p E a s m))) := by
  refine Sp.mk yX6_readWall_ok rfl rfl ?_
  have r0 := RC.rf r
  have d1 := hd.2.1
  generalize hres : rWall T n p E a s m = res
  refine bX6_readWall_0 (c1 := r0.w.ce) (r1 := by rw [r0.w.atw]; omega) (kt := fun q => ?_) (kf := fun q => ?_)
  rotate_left
  · rw [r0.w.atw] at q
    refine bX6_readWall_14 (hS := c_failW r0) (kk := ?_)
    rintro x h1 ⟨rfl, f⟩
    exact bX6_readWall_19 (hq := ⟨_, rfl, rfl, f.no (by decide) (by rw [← hres]; unfold rWall; rw [if_pos q])⟩)
  rw [r0.w.atw] at q ⊢
  unfold rWall at hres
  rw [if_neg (by omega)] at hres
  generalize hw : E 0 1 = w at *
  refine bX6_readWall_20 (hS := c_stepW (by omega) r0.w) (kk := ?_)
  intro h1 r1
  refine bX6_readWall_24 (kk := ?_)
  -- one delay
  have ear : ∀ (e : Int) (h2 : AH) (q : Int) (E1 : DT) (K : Int → RES), 0 ≤ e → e < 3 → RC h h2 g T n q E1 a s m → numK T n q 1 40 K = res → (∀ h3 : AH, RC h h3 g T n (bh T n q) (upD E1 4 (w * 3 + e) (vl T n q)) a s m → numF T n q 1 40 = 0 → K (vl T n q) = res → Wp mX6_readWall (kR fr 0 0) (rI (rdP h g T n res)) (0, 0) 26 [zR 46, zI w, zI (e + 1)] [] 137 h3) → Wp mX6_readWall (kR fr 0 0) (rI (rdP h g T n res)) (0, 0) 26 [zR 46, zI w, zI e] [] 137 h2 := by
    intro e h2 q E1 K e0 e3 r2 hK go
    refine bX6_readWall_26 (kt := fun z => by omega) (kf := fun _ => ?_)
    refine bX6_readWall_31 (hS := c_numW (by omega) R32_1 (by constructor <;> decide) r2) (kk := ?_)
    rintro x h3 (⟨rfl, rfl, n1⟩ | ⟨rfl, n1, f⟩)
    rotate_left
    · refine bX6_readWall_38 (kt := fun z => absurd rfl z) (kf := fun _ => ?_)
      exact bX6_readWall_41 (hq := ⟨_, rfl, rfl, f.no n1 (by rw [← hK]; exact numK_no n1)⟩)
    refine bX6_readWall_38 (kt := fun _ => ?_) (kf := fun z => absurd z (by decide))
    rw [numK_ok n1] at hK
    refine bX6_readWall_43 (c1 := r2.w.ce) (hS := c_stepW (by omega) ((r2.w.w1 (k := 4) (by decide) (by decide)).eqE (F := upD E1 4 (w * 3 + e) (vl T n q)) (by rw [r2.v6]))) (kk := ?_)
    intro h4 r4
    exact bX6_readWall_64 (kk := go h4 r4 n1 hK)
  refine ear 0 h1 _ _ _ (by decide) (by decide) r1 hres (fun h2 r2 n1 hres => ?_)
  refine ear 1 h2 _ _ _ (by decide) (by decide) r2 hres (fun h3 r3 n2 hres => ?_)
  refine ear 2 h3 _ _ _ (by decide) (by decide) r3 hres (fun h4 r4 n3 hres => ?_)
  refine bX6_readWall_26 (kt := fun _ => ?_) (kf := fun z => by omega)
  refine bX6_readWall_70 (hS := c_numW (by omega) R32_0 (by constructor <;> decide) r4) (kk := ?_)
  rintro x h5 (⟨rfl, rfl, n4⟩ | ⟨rfl, n4, f⟩)
  rotate_left
  · refine bX6_readWall_77 (kt := fun z => absurd rfl z) (kf := fun _ => ?_)
    exact bX6_readWall_80 (hq := ⟨_, rfl, rfl, f.no n4 (by rw [← hres]; exact numK_no n4)⟩)
  refine bX6_readWall_77 (kt := fun _ => ?_) (kf := fun z => absurd z (by decide))
  rw [numK_ok n4] at hres
  have o1 := (numF_ok n1).2.1
  have o2 := (numF_ok n2).2.1
  have o3 := (numF_ok n3).2.1
  have o4 := (numF_ok n4).2.1
  have W1 := r4.w.w1 (k := 5) (i := w) (v := h5 46 6) (by decide) (by decide)
  have W2 := W1.w1 (k := 6) (i := w) (v := 0) (by decide) (by decide)
  have W3 := W2.w1 (k := 7) (i := w) (v := 1) (by decide) (by decide)
  have okW := ok_wall (w := w) hd hw (by omega) o1 o2 o3 o4
  refine bX6_readWall_82 (c1 := r4.w.ce) (c2 := W1.ce) (c3 := W2.ce) (c4 := W3.ce) (hS := c_stepW (by omega) (W3.w0.eqE (F := wallE E w (vl T n (bh T n p)) (vl T n (bh T n (bh T n p))) (vl T n (bh T n (bh T n (bh T n p)))) (vl T n (bh T n (bh T n (bh T n (bh T n p)))))) (by
    rw [W3.atw, r4.v6, upD_n (k' := 0) (k := 7) (by decide), upD_n (k' := 0) (k := 6) (by decide), upD_n (k' := 0) (k := 5) (by decide), upD_n (k' := 0) (k := 4) (by decide), upD_n (k' := 0) (k := 4) (by decide), upD_n (k' := 0) (k := 4) (by decide), hw]
    rfl))) (kk := ?_)
  intro h6 r6
  generalize hEw : wallE E w (vl T n (bh T n p)) (vl T n (bh T n (bh T n p))) (vl T n (bh T n (bh T n (bh T n p)))) (vl T n (bh T n (bh T n (bh T n (bh T n p))))) = Ew at *
  generalize bh T n (bh T n (bh T n (bh T n (bh T n p)))) = p5 at *
  have e01 : Ew 0 1 = w + 1 := by rw [← hEw]; rfl
  -- again, the end
  have tail : ∀ (h7 : AH) (q : Int) (E1 : DT) (x2 : AV), RC h h7 g T n q E1 a s m → agR T n w a s m q E1 = res → Wp mX6_readWall (kR fr 0 0) (rI (rdP h g T n res)) (0, 0) 151 [zR 46, zI w, x2] [] 137 h7 := by
    intro h7 q E1 x2 r7 hr
    unfold agR at hr
    have eps : ∀ (h8 : AH) (q : Int) (E1 : DT) (x1 x2 : AV), RC h h8 g T n q E1 a s m → endR T n q E1 a s m = res → Wp mX6_readWall (kR fr 0 0) (rI (rdP h g T n res)) (0, 0) 170 [zR 46, x1, x2] [] 137 h8 := fun h8 q E1 _ _ r8 e => by
      refine bX6_readWall_170 (hS := c_endW (by omega) r8) (kk := ?_)
      rw [e]
      intro x h9 pr
      exact bX6_readWall_174 (r1 := pr.rng) (hq := ⟨_, rfl, rfl, pr⟩)
    refine bX6_readWall_151 (hS := c_spW (i := 3) (by omega) (by decide) r7) (kk := ?_)
    rintro x h8 ⟨e8, hx⟩
    rw [e8]; clear e8 h8
    refine bX6_readWall_157 (r1 := by rcases hx with z | z <;> omega) (kt := fun z => ?_) (kf := fun z => ?_)
    · rcases hx with ⟨y, -⟩ | ⟨-, y⟩
      · omega
      rw [if_neg (by rw [cl_neg y]; decide)] at hr
      exact eps h7 q E1 _ _ r7 hr
    rcases hx with ⟨-, y⟩ | ⟨y, -⟩
    rotate_left
    · exact absurd y z
    rw [if_pos (cl_pos y)] at hr
    refine bX6_readWall_160 (hS := c_readAgain (by omega) (by omega) r7) (kk := ?_)
    rintro x h8 (⟨rfl, n5, r8⟩ | ⟨rfl, n5, f⟩)
    rotate_left
    · refine bX6_readWall_165 (kt := fun z => absurd rfl z) (kf := fun _ => ?_)
      exact bX6_readWall_168 (hq := ⟨_, rfl, rfl, f.no n5 (by rw [← hr]; exact numK_no n5)⟩)
    refine bX6_readWall_165 (kt := fun _ => ?_) (kf := fun z => absurd z (by decide))
    rw [numK_ok n5] at hr
    exact eps h8 _ _ _ _ r8 hr
  refine bX6_readWall_132 (hS := c_spW (i := 2) (by omega) (by decide) r6) (kk := ?_)
  rintro x h7 ⟨e7, hx⟩
  rw [e7]; clear e7 h7
  refine bX6_readWall_138 (r1 := by rcases hx with z | z <;> omega) (kt := fun z => ?_) (kf := fun z => ?_)
  · rcases hx with ⟨y, -⟩ | ⟨-, y⟩
    · omega
    rw [if_neg (by rw [cl_neg y]; decide)] at hres
    exact tail h6 _ _ _ r6 hres
  rcases hx with ⟨-, y⟩ | ⟨y, -⟩
  rotate_left
  · exact absurd y z
  rw [if_pos (cl_pos y)] at hres
  refine bX6_readWall_141 (hS := c_readSwallows (by omega) okW (by omega) r6) (kk := ?_)
  rintro x h7 (⟨rfl, q7, E7, e7, r7⟩ | ⟨rfl, k7, q7, nk, e7, f⟩)
  rotate_left
  · refine bX6_readWall_146 (kt := fun z => absurd rfl z) (kf := fun _ => ?_)
    exact bX6_readWall_149 (hq := ⟨_, rfl, rfl, f.no nk (by rw [← hres]; exact e7 _)⟩)
  refine bX6_readWall_146 (kt := fun _ => ?_) (kf := fun z => absurd z (by decide))
  rw [e7] at hres
  exact tail h7 _ _ _ r7 hres
end ReadE
