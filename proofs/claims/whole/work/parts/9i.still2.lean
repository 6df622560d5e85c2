/-! ===== the class: still, without ===== -/
theorem valid_swap {h : AH} {o g n ear air fog gone : Int} (e : eqD (dC h g) (dC h n)) (hv : valid h o n ear air fog gone) : valid h o g ear air fog gone := by
  refine ⟨hv.1, fun d s a b => ?_⟩
  have e0 : h n 0 = h g 0 := by rw [← dC0 h n, ← dC0 h g, e 0 (by decide) (by decide)]
  rw [hv.2 d s a b, e0, amp_cong e]
theorem retOk_swap {h : AH} {o g n : Int} (e : eqD (dC h g) (dC h n)) (hv : retOk h o n) : retOk h o g := by
  obtain ⟨a, b⟩ := hv
  refine ⟨?_, b⟩
  rcases a with a | ⟨a, c⟩
  · exact Or.inl a
  · exact Or.inr ⟨a, valid_swap e c⟩
theorem eqD.symm {D E : DT} (e : eqD D E) : eqD E D := fun k a b => (e k a b).symm
theorem eqD.tr {D E F : DT} (e : eqD D E) (e' : eqD E F) : eqD D F := fun k a b => by rw [e' k a b, e k a b]
/-- the verses beside the gorge that is now -/
def vtop (h : AH) (g : Int) (D : DT) : Prop := vst h g D ∧ (h 1 4 = 4 ∨ h 1 4 = 19) ∧ eqD D (dC h (h 1 4)) ∧ retOk h 47 g ∧ sumZ h ∧ figs D h
theorem vtop.keep {h h' : AH} {g : Int} {D : DT} (ht : vtop h g D) (hk : keptV D g h h') : vtop h' g D := by
  obtain ⟨v, n, e, -, -, -⟩ := ht
  obtain ⟨⟨k, z, v', r⟩, f⟩ := hk
  have e1 : h' 1 = h 1 := k.1 1 (by decide) (by decide)
  refine ⟨v', by rw [e1]; exact n, ?_, r, z, f⟩
  rw [e1]
  intro j a b
  rw [← e j a b]
  exact k.1 (h 1 4 + j) (by omega) (by omega)
theorem psum_all {D : DT} (P : Int → Int → Prop) (hd : okD D) : psum D (inC P) (D 0 3).toNat 0 ≤ allD D := by
  have nF := hd.2.2.2.1
  have : ∀ n : Nat, n ≤ (D 0 3).toNat → sg (fun g => sg (inC P g) (linesD D g).toNat) n ≤ sg (linesD D) n := fun n => by
    induction n with
    | zero => intro _; exact Int.le_refl _
    | succ n ih =>
      intro hn
      have a := ih (by omega)
      have b := sg_rng (f := inC P n) (B := 1) (n := (linesD D n).toNat) (fun j _ => inC_rng P n j)
      have c := lines_nn hd (k := n) (by omega)
      rw [sg, sg]
      omega
  have := this (D 0 3).toNat (Nat.le_refl _)
  unfold psum allD
  show _ + (0 : Int) ≤ _
  omega
def stillR (D : DT) (ai fog gone x : Int) : Prop := x = psum D (inC (fun f i => Ans D (ampA D ai 0 (-1)) f i ∧ Ans D (ampA D ai fog gone) f i)) (D 0 3).toNat 0
theorem figs.same {D : DT} {h h' : AH} (e74 : h' 74 = h 74) (e75 : h' 75 = h 75) (hs : figs D h) : figs D h' := fun l a b => (hs l a b).same (fun k _ _ => by rw [e74]) (fun i _ _ => by rw [e75])
theorem gcells {g : Int} (hg : isG g) : (g < 47 ∨ (55 < g ∧ g < 71)) ∧ ∀ k, 0 ≤ k → k ≤ 14 → (g + k < 47 ∨ (55 < g + k ∧ g + k < 71)) := by unfold isG at hg; exact ⟨by omega, fun k a b => by omega⟩
/-- behind the building, behind the counting -/
theorem kept_after {D : DT} {g : Int} {h h1 h2 h3 : AH} (hg : isG g) (kq : keptV D g h h1) (b1 : ∀ c, (c < 47 ∨ 47 + 3 < c) → h2 c = h1 c) (b3 : retOk h2 47 g) (k3 : kpL h2 h3) (z3 : sumZ h3) (v3 : vst h3 g D) : keptV D g h h3 := by
  have gc := gcells hg
  refine ⟨⟨⟨fun c a b => ?_, fun j a b => ?_⟩, z3, v3, ?_⟩, ?_⟩
  · rw [k3.1 c (by omega) (by omega), b1 c (by omega), kq.1.1.1 c a b]
  · rw [k3.2 j a b, b1 55 (by decide), kq.1.1.2 j a b]
  · exact retOk_same (k3.1 _ (by decide) (by decide)) (k3.1 _ (by decide) (by decide)) (k3.1 _ (by decide) (by decide)) (k3.1 _ (by omega) (by omega)) (fun k a b => by have := gc.2 k a b; exact k3.1 (g + k) (by omega) (by omega)) b3
  · exact kq.2.same (by rw [k3.1 74 (by decide) (by decide), b1 74 (by decide)]) (by rw [k3.1 75 (by decide) (by decide), b1 75 (by decide)])
theorem c_stillV {fr : Nat} {o fog g : Int} {D : DT} {h : AH} (hf : 30 ≤ fr) (ro : R32 o) (rf : R32 fog) (ht : vtop h g D) :
    Sp mX11_still true fr 8 48 [zR 1, zI o, zI fog] 137 h (rIx (fun x h' => ((0 ≤ o ∧ o < 24) ∧ 0 ≤ fog ∧ fog ≤ 100) ∧ stillR D (D 9 o) fog (-1) x ∧ keptV D g h h') (fun E h' => h' = h ∧ ((E = NSE ∧ ¬ (0 ≤ o ∧ o < 24)) ∨ (E = IAE ∧ (0 ≤ o ∧ o < 24) ∧ ¬ (0 ≤ fog ∧ fog ≤ 100))))) := by
  refine Sp.mk yX11_still_ok rfl rfl ?_
  obtain ⟨rf1, rf2⟩ := id rf
  obtain ⟨hv, hn, en, hkk, hz, hfg⟩ := id ht
  have hd := hv.2.2.1
  have hg := hv.1.1
  refine bX11_still_0 (hS := c_needHour (by omega) ro) (kk := ?_) (kx := ?_)
  rotate_left
  · rintro E h' ⟨rfl, rfl, z⟩
    exact ⟨rfl, Or.inr ⟨_, rfl, rfl, Or.inl ⟨rfl, fun w => by omega⟩⟩⟩
  rintro h' ⟨e', o0, o1⟩
  rw [e']; clear e' h'
  refine bX11_still_5 (kt := fun q => bX11_still_15 (hq := ⟨rfl, Or.inr ⟨_, rfl, rfl, Or.inr ⟨rfl, ⟨o0, o1⟩, fun w => by omega⟩⟩⟩)) (kf := fun f0 => ?_)
  refine bX11_still_9 (kt := fun f1 => ?_) (kf := fun q => bX11_still_15 (hq := ⟨rfl, Or.inr ⟨_, rfl, rfl, Or.inr ⟨rfl, ⟨o0, o1⟩, fun w => by omega⟩⟩⟩))
  refine bX11_still_23 (hS := c_survey (by omega) hv hkk hz hfg o0 o1) (kk := ?_)
  rintro l h1 ⟨⟨lr, ea⟩, kq, fg1, sd⟩
  have t1 : vtop h1 g D := ht.keep ⟨kq, fg1⟩
  obtain ⟨v1, n1, en1, rk1, z1, -⟩ := id t1
  have iN : isG (h1 1 4) := by unfold isG; omega
  have ai := hd.2.2.2.2.2.2.2.2.2.2.2.2.1 o o0 o1
  have q9 : h1 (h1 1 4 + 9) o = D 9 o := congrFun (en1 9 (by decide) (by decide)) o
  have eqGN : eqD (dC h1 g) (dC h1 (h1 1 4)) := v1.2.1.symm.tr en1
  refine bX11_still_39 (c1 := iN.cel) (hS := c_build (by omega) (Or.inl rfl) iN (okD_cong en1 hd) (retOk_swap eqGN.symm rk1) (by decide) (by rw [q9]; exact ai) ⟨f0, f1⟩ (by decide)) (kk := ?_)
  rintro h2 ⟨b1, b2, b3⟩
  rw [q9] at b2
  have gc := gcells hg
  have nc := gcells iN
  have eG2 : ∀ k, 0 ≤ k → k ≤ 14 → dC h2 g k = dC h1 g k := fun k a b => by have := gc.2 k a b; exact b1 (g + k) (by omega)
  have eN2 : ∀ k, 0 ≤ k → k ≤ 14 → dC h2 (h1 1 4) k = dC h1 (h1 1 4) k := fun k a b => by have := nc.2 k a b; exact b1 (h1 1 4 + k) (by omega)
  have eqGN2 : eqD (dC h2 g) (dC h2 (h1 1 4)) := fun k a b => by rw [eN2 k a b, eG2 k a b]; exact eqGN k a b
  have v2 : vst h2 g D := v1.keep (fun c a b => b1 c (by omega)) (fun j _ _ => by rw [b1 55 (by decide)]) (by rw [b1 78 (by decide)]; exact v1.2.2.2.2.1) (by rw [b1 75 (by decide)]; exact v1.2.2.2.2.2)
  have sd2 : survd D l h2 := sd.same (fun k _ _ => by rw [b1 74 (by decide)]) (fun i _ _ => by rw [b1 75 (by decide)])
  have all : h2 55 1 = allD D := v2.2.2.2.1.2.2.1
  have pn := preN_nn hd (n := (D 0 3).toNat) (by have := hd.2.2.2.1; omega)
  have nF := hd.2.2.2.1
  have aP : allD D = preN D (D 0 3).toNat := rfl
  refine bX11_still_63 (hS := by rw [all]; exact c_countStill (by omega) v2 sd2 lr.1 lr.2 (valid_swap eqGN2 b2) ⟨f0, f1⟩ ai (fun s a b => by rw [b1 54 (by decide)]; exact z1 s a b) (by rw [aP]; omega) (by rw [aP]; omega)) (kk := ?_)
  rintro x h3 ⟨⟨k3, z3, v3⟩, hx⟩
  have le := psum_all (fun f i => Ans D (ampA D (D 9 l) 0 (-1)) f i ∧ Ans D (ampA D (D 9 o) fog (-1)) f i) hd
  refine bX11_still_86 (hq := ⟨rfl, Or.inl ⟨_, rfl, ⟨⟨o0, o1⟩, f0, f1⟩, ?_, kept_after hg ⟨kq, fg1⟩ b1 (retOk_swap eqGN2 b3) k3 z3 v3⟩⟩)
  unfold stillR
  rw [hx, ← ea] at *
  omega
theorem c_withoutV {fr : Nat} {o w g : Int} {D : DT} {h : AH} (hf : 30 ≤ fr) (ro : R32 o) (rw_ : R32 w) (hn0 : nowOk h) (ht : vtop h g D) :
    Sp mX11_without true fr 8 48 [zR 1, zI o, zI w] 137 h (rIx (fun x h' => ((0 ≤ o ∧ o < 24) ∧ 0 ≤ w ∧ w < D 0 1) ∧ stillR D (D 9 o) 0 w x ∧ keptV D g h h') (fun E h' => h' = h ∧ E = NSE ∧ ¬ ((0 ≤ o ∧ o < 24) ∧ 0 ≤ w ∧ w < D 0 1))) := by
  refine Sp.mk yX11_without_ok rfl rfl ?_
  obtain ⟨hv, hn, en, hkk, hz, hfg⟩ := id ht
  have hd := hv.2.2.1
  have hg := hv.1.1
  have e01 : h (h 1 4) 1 = D 0 1 := by rw [← dC0 h (h 1 4), en 0 (by decide) (by decide)]
  refine bX11_without_0 (hS := c_needHour (by omega) ro) (kk := ?_) (kx := ?_)
  rotate_left
  · rintro E h' ⟨rfl, rfl, z⟩
    exact ⟨rfl, Or.inr ⟨_, rfl, rfl, rfl, fun w => by omega⟩⟩
  rintro h' ⟨e', o0, o1⟩
  rw [e']; clear e' h'
  refine bX11_without_5 (hS := c_needWall (by omega) rw_ hn0) (kk := ?_) (kx := ?_)
  rotate_left
  · rintro E h' ⟨rfl, rfl, z⟩
    exact ⟨rfl, Or.inr ⟨_, rfl, rfl, rfl, fun w => by omega⟩⟩
  rintro h' ⟨e', w0, w1⟩
  rw [e']; clear e' h'
  rw [e01] at w1
  have d1 := hd.2.1
  refine bX11_without_10 (hS := c_survey (by omega) hv hkk hz hfg o0 o1) (kk := ?_)
  rintro l h1 ⟨⟨lr, ea⟩, kq, fg1, sd⟩
  have t1 : vtop h1 g D := ht.keep ⟨kq, fg1⟩
  obtain ⟨v1, n1, en1, rk1, z1, -⟩ := id t1
  have iN : isG (h1 1 4) := by unfold isG; omega
  have ai := hd.2.2.2.2.2.2.2.2.2.2.2.2.1 o o0 o1
  have q9 : h1 (h1 1 4 + 9) o = D 9 o := congrFun (en1 9 (by decide) (by decide)) o
  have eqGN : eqD (dC h1 g) (dC h1 (h1 1 4)) := v1.2.1.symm.tr en1
  refine bX11_without_26 (c1 := iN.cel) (hS := c_build (by omega) (Or.inl rfl) iN (okD_cong en1 hd) (retOk_swap eqGN.symm rk1) (by decide) (by rw [q9]; exact ai) (by decide) (by omega)) (kk := ?_)
  rintro h2 ⟨b1, b2, b3⟩
  rw [q9] at b2
  have gc := gcells hg
  have nc := gcells iN
  have eG2 : ∀ k, 0 ≤ k → k ≤ 14 → dC h2 g k = dC h1 g k := fun k a b => by have := gc.2 k a b; exact b1 (g + k) (by omega)
  have eN2 : ∀ k, 0 ≤ k → k ≤ 14 → dC h2 (h1 1 4) k = dC h1 (h1 1 4) k := fun k a b => by have := nc.2 k a b; exact b1 (h1 1 4 + k) (by omega)
  have eqGN2 : eqD (dC h2 g) (dC h2 (h1 1 4)) := fun k a b => by rw [eN2 k a b, eG2 k a b]; exact eqGN k a b
  have v2 : vst h2 g D := v1.keep (fun c a b => b1 c (by omega)) (fun j _ _ => by rw [b1 55 (by decide)]) (by rw [b1 78 (by decide)]; exact v1.2.2.2.2.1) (by rw [b1 75 (by decide)]; exact v1.2.2.2.2.2)
  have sd2 : survd D l h2 := sd.same (fun k _ _ => by rw [b1 74 (by decide)]) (fun i _ _ => by rw [b1 75 (by decide)])
  have all : h2 55 1 = allD D := v2.2.2.2.1.2.2.1
  have pn := preN_nn hd (n := (D 0 3).toNat) (by have := hd.2.2.2.1; omega)
  have nF := hd.2.2.2.1
  have aP : allD D = preN D (D 0 3).toNat := rfl
  refine bX11_without_50 (hS := by rw [all]; exact c_countStill (by omega) v2 sd2 lr.1 lr.2 (valid_swap eqGN2 b2) (by decide) ai (fun s a b => by rw [b1 54 (by decide)]; exact z1 s a b) (by rw [aP]; omega) (by rw [aP]; omega)) (kk := ?_)
  rintro x h3 ⟨⟨k3, z3, v3⟩, hx⟩
  have le := psum_all (fun f i => Ans D (ampA D (D 9 l) 0 (-1)) f i ∧ Ans D (ampA D (D 9 o) 0 w) f i) hd
  refine bX11_without_73 (hq := ⟨rfl, Or.inl ⟨_, rfl, ⟨⟨o0, o1⟩, w0, w1⟩, ?_, kept_after hg ⟨kq, fg1⟩ b1 (retOk_swap eqGN2 b3) k3 z3 v3⟩⟩)
  unfold stillR
  rw [hx, ← ea] at *
  omega
