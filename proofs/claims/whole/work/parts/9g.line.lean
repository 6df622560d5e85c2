/-! ===== the class: partOf, line ===== -/
def partR (D : DT) (g j k x : Int) : Prop := (k = 0 ∧ x = g) ∨ ((1 ≤ k ∧ k ≤ D 13 g) ∧ ∃ W, lineW D g j W ∧ x = W (k - 1)) ∨ ((1 ≤ k ∧ D 13 g < k) ∧ x = -1)
theorem partR.one {D : DT} {g j k x y : Int} (h1 : partR D g j k x) (h2 : partR D g j k y) : x = y := by
  rcases h1 with ⟨a, b⟩ | ⟨a, W, b, c⟩ | ⟨a, b⟩ <;> rcases h2 with ⟨a', b'⟩ | ⟨a', V, b', c'⟩ | ⟨a', b'⟩ <;> first | omega | skip
  rw [c, c']
  exact lineW.one b b' _ (by omega) (by omega)
theorem c_partOf {fr : Nat} {k gg : Int} {g j : Nat} {D : DT} {h : AH} (hf : 3 ≤ fr) (hv : vst h gg D) (hb : bef D (D 0 3).toNat 0 g j) (k0 : 0 ≤ k) (k3 : k ≤ 3) :
    Sp mX10_partOf true fr 0 0 [zR 55, zI (preN D g + j), zI k] 137 h (rI (fun x h' => ((∀ c, c ≠ 55 → c ≠ 76 → c ≠ 77 → h' c = h c) ∧ (∀ i, i ≠ 12 → h' 55 i = h 55 i) ∧ vst h' gg D) ∧ partR D g j k x)) := by
  refine Sp.mk yX10_partOf_ok rfl rfl ?_
  have he := hv.eq
  obtain ⟨⟨hg, h0⟩, heg, hd, ht, r78, r75⟩ := id hv
  obtain ⟨vt, v73, -⟩ := id ht
  obtain ⟨e0, e10, e11, e12, e13, e14⟩ := he.g
  have cg : cel 137 (h 55 0) (2, 21) := by rw [h0]; exact hg.cel
  have nF := hd.2.2.2.1
  rw [bef_all] at hb
  have g1 : (g : Int) < D 0 3 := by omega
  have L := (hd.2.2.2.2.2.2.2.2.2.2.2.2.2.2 g (by omega) g1).1
  have eF : h (h 55 0) 3 = D 0 3 := by rw [← dV0 h, e0]
  have e13' : h (h 55 0 + 13) g = D 13 g := congrFun e13 g
  have l5 := linesD_512 hd g1
  generalize hQ : (rI (fun x h' => ((∀ c, c ≠ 55 → c ≠ 76 → c ≠ 77 → h' c = h c) ∧ (∀ i, i ≠ 12 → h' 55 i = h 55 i) ∧ vst h' gg D) ∧ partR D g j k x)) = Q
  have fin : ∀ x1 : AV, Wp mX10_partOf (kR fr 0 0) Q (0, 0) 46 [zR 55, x1, zI k, zI g, zI j] [] 137 h := fun x1 => by
    refine bX10_partOf_46 (kt := fun q => ?_) (kf := fun q => ?_)
    rotate_left
    · refine bX10_partOf_50 (hq := ?_)
      rw [← hQ]
      exact ⟨_, rfl, rfl, ⟨fun _ _ _ _ => rfl, fun _ _ => rfl, hv⟩, Or.inl ⟨q, rfl⟩⟩
    refine bX10_partOf_52 (r3 := by rw [e13']; omega) (kt := fun q2 => ?_) (kf := fun q2 => ?_)
    rotate_left
    · rw [e13'] at q2
      refine bX10_partOf_65 (hq := ?_)
      rw [← hQ]
      exact ⟨_, rfl, rfl, ⟨fun _ _ _ _ => rfl, fun _ _ => rfl, hv⟩, Or.inr (Or.inr ⟨⟨by omega, q2⟩, rfl⟩)⟩
    rw [e13'] at q2
    refine bX10_partOf_67 (hS := c_spellV (by omega) hv g1 (by omega) (by omega) (by omega)) (kk := ?_)
    rintro h1 ⟨⟨k1, j1⟩, v1, w1, -⟩
    refine bX10_partOf_74 (hq := ?_)
    rw [← hQ]
    exact ⟨_, rfl, rfl, ⟨k1, j1, v1⟩, Or.inr (Or.inl ⟨⟨by omega, q2⟩, h1 76, w1, rfl⟩)⟩
  refine bX10_partOf_0 (kk := ?_)
  suffices K : ∀ (d f : Nat) (x1 : AV), f + d = g → Wp mX10_partOf (kR fr 0 0) Q (0, 0) 5 [zR 55, x1, zI k, zI f, zI (preN D g + j - preN D f)] [] 137 h by
    have := K g 0 (zI (preN D g + j)) (by omega)
    rw [show preN D g + (j : Int) - preN D 0 = preN D g + j by have : preN D 0 = 0 := rfl; omega] at this
    exact this
  intro d
  induction d with
  | zero =>
    intro f x1 hfg
    have e : f = g := by omega
    subst e
    rw [show preN D f + (j : Int) - preN D f = j by omega]
    have e73 : h 73 f = linesD D f := v73 f g1
    refine bX10_partOf_5 (r2 := by rw [eF]; omega) (kt := fun _ => fin _) (kf := fun q => ?_)
    exact bX10_partOf_18 (r3 := by rw [e73]; omega) (kt := fun _ => fin _) (kf := fun q2 => by rw [e73] at q2; omega)
  | succ d ih =>
    intro f x1 hfg
    have f1 : (f : Int) < D 0 3 := by omega
    have lf := linesD_512 hd f1
    have e73 : h 73 f = linesD D f := v73 f f1
    have pg := preN_nn hd (n := g) (by omega)
    have pf := preN_nn hd (n := f) (by omega)
    have mo : preN D f + linesD D f ≤ preN D g := by
      have key : ∀ n : Nat, f + 1 ≤ n → n ≤ g → preN D f + linesD D f ≤ preN D n := fun n => by
        induction n with
        | zero => intro x _; omega
        | succ n ihn =>
          intro x y
          have e2 : preN D (n + 1) = preN D n + linesD D n := rfl
          by_cases c : f + 1 = n + 1
          · have : n = f := by omega
            rw [e2, this]; exact Int.le_refl _
          · have := ihn (by omega) (by omega)
            have q := lines_nn hd (k := n) (by omega)
            omega
      exact key g (by omega) (by omega)
    refine bX10_partOf_5 (r2 := by rw [eF]; omega) (kt := fun q => by rw [eF] at q; omega) (kf := fun _ => ?_)
    refine bX10_partOf_18 (r3 := by rw [e73]; omega) (kt := fun q => by rw [e73] at q; omega) (kf := fun _ => ?_)
    refine bX10_partOf_29 (kk := ?_)
    rw [e73, show (f : Int) + 1 = ((f + 1 : Nat) : Int) by omega, show preN D g + (j : Int) - preN D f - linesD D f = preN D g + j - preN D (f + 1) by have : preN D (f + 1) = preN D f + linesD D f := rfl; omega]
    exact ih (f + 1) _ (by omega)
theorem bef_lt2 {D : DT} {f i g j : Nat} (hl : ∀ k : Nat, k < f → 0 ≤ linesD D k) (h : bef D f i g j) : preN D g + j < preN D f + i := by
  unfold bef at h
  rcases h with ⟨a, b⟩ | ⟨a, b⟩
  · have e : preN D (g + 1) = preN D g + linesD D g := rfl
    have key : ∀ n : Nat, g + 1 ≤ n → n ≤ f → preN D (g + 1) ≤ preN D n := fun n => by
      induction n with
      | zero => intro x _; omega
      | succ n ih =>
        intro x y
        by_cases c : g + 1 = n + 1
        · rw [c]; exact Int.le_refl _
        · have := ih (by omega) (by omega)
          have q := hl n (by omega)
          have e2 : preN D (n + 1) = preN D n + linesD D n := rfl
          omega
    have := key f (by omega) (by omega)
    omega
  · rw [a]; omega
/-- the i-th line that answers, or the plainest, and a part of it -/
def lineRes (D : DT) (ai i k x : Int) : Prop := ∃ g j : Nat, bef D (D 0 3).toNat 0 g j ∧ ithR D (Ans D (ampA D ai 0 (-1))) i (preN D g + j) ∧ partR D g j k x
def lineOk (D : DT) (ai i : Int) : Prop := ∃ g j : Nat, bef D (D 0 3).toNat 0 g j ∧ ithR D (Ans D (ampA D ai 0 (-1))) i (preN D g + j)
theorem ithR.one {D : DT} {P : Int → Int → Prop} {i N M : Int} (h1 : ithR D P i N) (h2 : ithR D P i M) (n0 : 0 ≤ N) (m0 : 0 ≤ M) : N = M := by
  rcases h1 with ⟨a, n, b⟩ | ⟨a, b, c, d⟩ | ⟨a, b⟩ <;> rcases h2 with ⟨a', n', b'⟩ | ⟨a', b', c', d'⟩ | ⟨a', b'⟩ <;> first | omega | skip
  · exact (plR.one b b').1
  · have t1 : (fun M : Nat => cl (AnsN D P M)) N.toNat = true := by show cl (AnsN D P ((N.toNat : Nat) : Int)) = true; rw [show ((N.toNat : Nat) : Int) = N by omega]; exact cl_pos c
    have t2 : (fun M : Nat => cl (AnsN D P M)) M.toNat = true := by show cl (AnsN D P ((M.toNat : Nat) : Int)) = true; rw [show ((M.toNat : Nat) : Int) = M by omega]; exact cl_pos c'
    have := nth_one (p := fun M : Nat => cl (AnsN D P M)) (a := N.toNat) (b := M.toNat) t1 t2 (d.trans d'.symm)
    omega
theorem lineRes.one {D : DT} {ai i k x y : Int} (hd : okD D) (h1 : lineRes D ai i k x) (h2 : lineRes D ai i k y) : x = y := by
  obtain ⟨g, j, a, b, c⟩ := h1
  obtain ⟨g', j', a', b', c'⟩ := h2
  have p := preN_nn hd (n := g) (by rw [bef_all] at a; omega)
  have p' := preN_nn hd (n := g') (by rw [bef_all] at a'; omega)
  have e := ithR.one b b' (by omega) (by omega)
  obtain ⟨rfl, rfl⟩ := pair_one hd a a' e
  exact c.one c'
theorem c_lineV {fr : Nat} {o i k g : Int} {D : DT} {h : AH} (hf : 30 ≤ fr) (ro : R32 o) (ri : R32 i) (rk : R32 k) (hv : vst h g D) (hkk : retOk h 47 g) (hz : sumZ h) (hfg : figs D h) :
    Sp mX11_line true fr 8 48 [zR 1, zI o, zI i, zI k] 137 h (rIx (fun x h' => ((0 ≤ o ∧ o < 24) ∧ 0 ≤ k ∧ k ≤ 3) ∧ lineRes D (D 9 o) i k x ∧ keptV D g h h') (fun E h' => E = NSE ∧ ¬ (((0 ≤ o ∧ o < 24) ∧ 0 ≤ k ∧ k ≤ 3) ∧ lineOk D (D 9 o) i) ∧ keptV D g h h')) := by
  refine Sp.mk yX11_line_ok rfl rfl ?_
  obtain ⟨rk1, rk2⟩ := id rk
  have kept0 : keptV D g h h := ⟨⟨⟨fun _ _ _ => rfl, fun _ _ _ => rfl⟩, hz, hv, hkk⟩, hfg⟩
  refine bX11_line_0 (hS := c_needHour (by omega) ro) (kk := ?_) (kx := ?_)
  rotate_left
  · rintro E h' ⟨rfl, rfl, z⟩
    exact ⟨rfl, Or.inr ⟨_, rfl, rfl, fun w => by omega, kept0⟩⟩
  rintro h' ⟨e', o0, o1⟩
  rw [e']; clear e' h'
  refine bX11_line_5 (kt := fun q => bX11_line_14 (hq := ⟨rfl, Or.inr ⟨_, rfl, rfl, fun w => by omega, kept0⟩⟩)) (kf := fun k0 => ?_)
  refine bX11_line_9 (kt := fun k1 => ?_) (kf := fun q => bX11_line_14 (hq := ⟨rfl, Or.inr ⟨_, rfl, rfl, fun w => by omega, kept0⟩⟩))
  have al : (0 ≤ o ∧ o < 24) ∧ 0 ≤ k ∧ k ≤ 3 := ⟨⟨o0, o1⟩, k0, k1⟩
  refine bX11_line_22 (hS := c_survey (by omega) hv hkk hz hfg o0 o1) (kk := ?_)
  rintro l h1 ⟨⟨lr, ea⟩, kq, f1, sd⟩
  have hd := hv.2.2.1
  refine bX11_line_42 (hS := c_answering (by omega) kq.2.2.1 sd lr.1 lr.2 ri) (kk := ?_)
  rintro N h2 ⟨⟨e2, N0, N1⟩, hN⟩
  rw [e2]; clear e2 h2
  rw [ea] at hN
  have nF := hd.2.2.2.1
  refine bX11_line_46 (kt := fun q => ?_) (kf := fun q => ?_)
  · -- there is one
    have ex : ∃ g' j : Nat, bef D (D 0 3).toNat 0 g' j ∧ N = preN D g' + j := by
      rcases hN with ⟨-, n, ⟨a, -⟩ | ⟨g', j, a, -, b, -⟩⟩ | ⟨-, -, ⟨g', j, a, -, b⟩, -⟩ | ⟨a, -⟩
      · exact absurd a q
      · exact ⟨g', j, a, b⟩
      · exact ⟨g', j, a, b⟩
      · exact absurd a q
    obtain ⟨g', j, a, b⟩ := ex
    rw [b] at hN ⊢
    refine bX11_line_62 (hS := c_partOf (by omega) kq.2.2.1 a k0 k1) (kk := ?_)
    rintro x h3 ⟨⟨k3, j3, v3⟩, px⟩
    refine bX11_line_72 (hq := ⟨rfl, Or.inl ⟨_, rfl, al, ⟨g', j, a, hN, px⟩, ⟨⟨⟨fun c p r => by rw [k3 c (by omega) (by omega) (by omega)]; exact kq.1.1 c p r, fun i p r => by rw [j3 i p]; exact kq.1.2 i p r⟩, fun s p r => by rw [k3 54 (by decide) (by decide) (by decide)]; exact kq.2.1 s p r, v3, ?_⟩, fun m m0 m1 => ?_⟩⟩⟩)
    · have gs : ∀ k, 0 ≤ k → k ≤ 14 → (g + k < 47 ∨ (55 < g + k ∧ g + k < 74)) := by have hg := hv.1.1; unfold isG at hg; exact fun k a b => by omega
      have g00 := gs 0 (by decide) (by decide)
      exact retOk_same (k3 _ (by decide) (by decide) (by decide)) (k3 _ (by decide) (by decide) (by decide)) (k3 _ (by decide) (by decide) (by decide)) (k3 _ (by omega) (by omega) (by omega)) (fun k a b => by have := gs k a b; exact k3 (g + k) (by omega) (by omega) (by omega)) kq.2.2.2
    · exact (f1 m m0 m1).same (fun k _ _ => by rw [k3 74 (by decide) (by decide) (by decide)]) (fun i _ _ => by rw [k3 75 (by decide) (by decide) (by decide)])
  · refine bX11_line_54 (hq := ⟨rfl, Or.inr ⟨_, rfl, rfl, fun w => ?_, kq, f1⟩⟩)
    obtain ⟨-, g', j, a, b⟩ := w
    have p := preN_nn hd (n := g') (by rw [bef_all] at a; omega)
    rw [q] at hN
    rcases hN with ⟨c1, n, c2⟩ | ⟨c1, c2, -⟩ | ⟨-, c2⟩
    · rcases b with ⟨-, n', b2⟩ | ⟨b1, -⟩ | ⟨b1, -⟩
      · have := (plR.one c2 b2).1; omega
      · omega
      · omega
    · omega
    · rcases b with ⟨b1, -⟩ | ⟨b1, b2, ⟨x, y, b3, b4, b5⟩, b6⟩ | ⟨b1, -⟩
      · omega
      · -- fewer answer
        rcases c2 with c2 | ⟨-, c2⟩
        · omega
        · have lt := bef_lt2 (D := D) (f := (D 0 3).toNat) (i := 0) (fun k hk => lines_nn hd (by omega)) a
          have aP : allD D = preN D (D 0 3).toNat := rfl
          have t1 : (fun M : Nat => cl (AnsN D (Ans D (ampA D (D 9 o) 0 (-1))) M)) (preN D g' + j).toNat = true := by
            show cl (AnsN D _ (((preN D g' + j).toNat : Nat) : Int)) = true
            rw [show (((preN D g' + (j : Int)).toNat : Nat) : Int) = preN D g' + j by omega]
            exact cl_pos ⟨x, y, b3, b4, b5⟩
          have := cnt_lt (p := fun M : Nat => cl (AnsN D (Ans D (ampA D (D 9 o) 0 (-1))) M)) (a := (preN D g' + j).toNat) (b := (allD D).toNat) (by rw [aP]; omega) t1
          unfold cA at b6 c2
          omega
      · omega
