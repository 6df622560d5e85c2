/-! ===== the class: isLine, isEchoed ===== -/
theorem formD {h : AH} (hd : okD (dV h)) {f : Int} (f0 : 0 ≤ f) (f1 : f < h (h 55 0) 3) : (f < 6 ∧ 1 ≤ h (h 55 0 + 13) f ∧ h (h 55 0 + 13) f ≤ 3) ∧ ∀ i, 0 ≤ i → i < h (h 55 0 + 13) f → 0 ≤ h (h 55 0 + 14) (f * 3 + i) ∧ h (h 55 0 + 14) (f * 3 + i) < 4 := by
  have a := hd.2.2.2.2.2.2.2.2.2.2.2.2.2.2 f f0 (by rw [dV0]; exact f1)
  have b := hd.2.2.2.1
  rw [dV0] at b
  exact ⟨⟨by omega, a.1⟩, fun i p q => ⟨(a.2 i p q).1, by have := (a.2 i p q).2; exact Int.lt_of_le_of_lt this (by decide)⟩⟩
theorem c_isLine {fr : Nat} {h : AH} (hf : 2 ≤ fr) (hg : isG (h 55 0)) (hd : okD (dV h)) (hv : vtab h (dV h)) (hl : lensM (dV h) (h 55 3)) (hn : 0 ≤ h 55 14 ∧ h 55 14 ≤ 12) (r78 : ∀ i, 0 ≤ i → i < 12 → 0 ≤ h 78 i ∧ h 78 i < 8) :
    Sp mX10_isLine true fr 0 0 [zR 55] 137 h (rI (fun x h' => (∀ c, c ≠ 79 → h' c = h c) ∧ ((x = 1 ∧ isLineB (dV h) (h 78) (h 55 14)) ∨ (x = 0 ∧ ¬ isLineB (dV h) (h 78) (h 55 14))))) := by
  refine Sp.mk yX10_isLine_ok rfl rfl ?_
  have cg := hg.cel
  have gs : h 55 0 ≠ 79 ∧ ∀ k, 0 ≤ k → k ≤ 14 → h 55 0 + k ≠ 79 := by unfold isG at hg; exact ⟨by omega, fun k a b => by omega⟩
  have nW := hd.2.2.1
  have nF := hd.2.2.2.1
  rw [dV0] at nW nF
  have l1 := hl.1.1
  have l2 := hl.1.2
  have el := bit_look (x := h 55 3) (s := h 55 14) l1 hn.1
  have er : -2147483648 ≤ bAnd (h 55 3 / 2 ^ (h 55 14).toNat) 1 ∧ bAnd (h 55 3 / 2 ^ (h 55 14).toNat) 1 < 2147483648 := by rw [el]; split <;> decide
  generalize hD : dV h = D at *
  have eD : ∀ k i, D k i = h (h 55 0 + k) i := fun k i => by rw [← hD]
  generalize hQ : (rI (fun x h' => (∀ c, c ≠ 79 → h' c = h c) ∧ ((x = 1 ∧ isLineB D (h 78) (h 55 14)) ∨ (x = 0 ∧ ¬ isLineB D (h 78) (h 55 14))))) = Q
  refine bX10_isLine_0 (r3 := er) (kt := fun q => ?_) (kf := fun q => ?_)
  rotate_left
  · refine bX10_isLine_14 (hq := ?_)
    rw [← hQ]
    refine ⟨_, rfl, rfl, fun _ _ => rfl, Or.inr ⟨rfl, fun z => ?_⟩⟩
    obtain ⟨f, a, b⟩ := z
    rw [el] at q
    have : bt (h 55 3) (h 55 14).toNat = true := (hl.2 _).mpr ⟨f, a, by rw [show (((h 55 14).toNat : Nat) : Int) = h 55 14 by omega]; exact b.len⟩
    rw [if_pos this] at q
    omega
  refine bX10_isLine_16 (kk := ?_)
  suffices FW : ∀ (d : Nat) (w : Int) (h1 : AH) (x2 x3 : AV), 0 ≤ w → w + d = h (h 55 0) 2 → (∀ c, c ≠ 79 → h1 c = h c) → (∀ v, 0 ≤ v → v < w → fitsM D (h 78) (h 55 14) v (h1 79 v)) → Wp mX10_isLine (kR fr 0 0) Q (0, 0) 18 [zR 55, zI w, x2, x3] [] 137 h1 by
    exact FW (h (h 55 0) 2).toNat 0 h _ _ (by decide) (by omega) (fun _ _ => rfl) (fun v a b => by omega)
  intro d
  induction d with
  | succ d ih =>
    intro w h1 x2 x3 w0 hw k1 ft
    have e55 : h1 55 = h 55 := k1 55 (by decide)
    have eg : h1 (h 55 0) = h (h 55 0) := k1 _ gs.1
    have e78 : h1 78 = h 78 := k1 78 (by decide)
    have eD1 : dV h1 = dV h → True := fun _ => trivial
    have eDk : ∀ k, 0 ≤ k → k ≤ 14 → dC h1 (h 55 0) k = dC h (h 55 0) k := fun k a b => k1 _ (gs.2 k a b)
    have hd1 : okD (dC h1 (h 55 0)) := okD_cong eDk (by rw [show dC h (h 55 0) = D from hD]; exact hd)
    refine bX10_isLine_18 (c1 := by rw [e55]; exact cg) (r2 := by rw [e55, eg]; omega) (kt := fun q => by rw [e55, eg] at q; omega) (kf := fun _ => ?_)
    refine bX10_isLine_29 (hS := c_fittingPlaces (by omega) (by rw [e55]; exact hg) (by show okD (dC h1 (h1 55 0)); rw [e55]; exact hd1) w0 (by rw [e55, eg]; omega) (by rw [e55]; exact hn) (by rw [e78]; exact r78)) (kk := ?_)
    rintro x h2 ⟨e2, hx⟩
    rw [e2]; clear e2 h2
    rw [e55, e78] at hx
    have hx' : fitsM D (h 78) (h 55 14) w x := by
      have e11 : dV h1 11 = D 11 := by show h1 (h1 55 0 + 11) = _; rw [e55, ← hD]; exact eDk 11 (by decide) (by decide)
      have e12 : dV h1 12 = D 12 := by show h1 (h1 55 0 + 12) = _; rw [e55, ← hD]; exact eDk 12 (by decide) (by decide)
      unfold fitsM fitW at hx ⊢
      rw [e11, e12] at hx
      exact hx
    refine bX10_isLine_39 (c1 := e79) (kk := ih (w + 1) _ _ _ (by omega) (by omega) (fun c hc => by rw [up_n hc, k1 c hc]) (fun v a b => ?_))
    by_cases e : v = w
    · rw [e, up_ci]; exact hx'
    · rw [up_cn e]; exact ft v a (by omega)
  | zero =>
    intro w h1 x2 x3 w0 hw k1 ft
    have e55 : h1 55 = h 55 := k1 55 (by decide)
    have eg : h1 (h 55 0) = h (h 55 0) := k1 _ gs.1
    have e78 : h1 78 = h 78 := k1 78 (by decide)
    have eDk : ∀ k, 0 ≤ k → k ≤ 14 → dC h1 (h 55 0) k = dC h (h 55 0) k := fun k a b => k1 _ (gs.2 k a b)
    have eD1 : ∀ k, 0 ≤ k → k ≤ 14 → dV h1 k = D k := fun k a b => by show h1 (h1 55 0 + k) = _; rw [e55, ← hD]; exact eDk k a b
    have hd1 : okD (dV h1) := okD_cong eD1 hd
    have e71 : h1 71 = h 71 := k1 71 (by decide)
    have e72 : h1 72 = h 72 := k1 72 (by decide)
    have kD : ∀ κ, kindsD (dV h1) κ = kindsD D κ := fun κ => by unfold kindsD; rw [eD1 10 (by decide) (by decide), eD1 0 (by decide) (by decide)]
    have hv1 : vtab h1 (dV h1) := fun κ a b => by
      rw [kD, e71, e72, eD1 0 (by decide) (by decide), eD1 10 (by decide) (by decide)]
      have := hv κ a b
      unfold kp_ at this ⊢
      rw [eD1 10 (by decide) (by decide)]
      exact this
    have ft1 : ∀ v, 0 ≤ v → v < h1 (h1 55 0) 2 → fitsM (dV h1) (h1 78) (h1 55 14) v (h1 79 v) := fun v a b => by
      rw [e55, eg] at b
      have := ft v a (by omega)
      unfold fitsM fitW at this ⊢
      rw [eD1 11 (by decide) (by decide), eD1 12 (by decide) (by decide), e78, e55]
      exact this
    refine bX10_isLine_18 (c1 := by rw [e55]; exact cg) (r2 := by rw [e55, eg]; omega) (kt := fun _ => ?_) (kf := fun q => by rw [e55, eg] at q; omega)
    refine bX10_isLine_46 (kk := ?_)
    suffices FF : ∀ (d : Nat) (f : Int) (x2 x3 : AV), 0 ≤ f → f + d = h (h 55 0) 3 → (∀ v, 0 ≤ v → v < f → ¬ reach D (h 78) (h 55 14) v (D 13 v).toNat (h 55 14)) → Wp mX10_isLine (kR fr 0 0) Q (0, 0) 48 [zR 55, zI f, x2, x3] [] 137 h1 by
      exact FF (h (h 55 0) 3).toNat 0 _ _ (by decide) (by omega) (fun v a b => by omega)
    intro d2
    induction d2 with
    | zero =>
      intro f x2 x3 f0 hff no
      refine bX10_isLine_48 (c1 := by rw [e55]; exact cg) (r2 := by rw [e55, eg]; omega) (kt := fun _ => ?_) (kf := fun q => by rw [e55, eg] at q; omega)
      refine bX10_isLine_124 (hq := ?_)
      rw [← hQ]
      refine ⟨_, rfl, rfl, k1, Or.inr ⟨rfl, fun z => ?_⟩⟩
      obtain ⟨v, a, b⟩ := z
      have e03 : D 0 3 = h (h 55 0) 3 := by rw [← hD]; exact dV0 h 3
      rw [e03] at a
      exact no v a.1 (by omega) b
    | succ d2 ih2 =>
      intro f x2 x3 f0 hff no
      obtain ⟨⟨f6, L1⟩, fk⟩ := formD (h := h) (by rw [hD]; exact hd) f0 (by omega)
      have e13 : h1 (h 55 0 + 13) = h (h 55 0 + 13) := eDk 13 (by decide) (by decide)
      have e14 : h1 (h 55 0 + 14) = h (h 55 0 + 14) := eDk 14 (by decide) (by decide)
      have d13 : D 13 f = h (h 55 0 + 13) f := eD 13 f
      refine bX10_isLine_48 (c1 := by rw [e55]; exact cg) (r2 := by rw [e55, eg]; omega) (kt := fun q => by rw [e55, eg] at q; omega) (kf := fun _ => ?_)
      refine bX10_isLine_59 (kk := ?_)
      -- the end of a form
      have endF : ∀ (r : Int) (x3 : AV), m16 r → (bt r (h 55 14).toNat = true ↔ reach D (h 78) (h 55 14) f (D 13 f).toNat (h 55 14)) → Wp mX10_isLine (kR fr 0 0) Q (0, 0) 105 [zR 55, zI f, zI r, x3] [] 137 h1 := fun r x3 mr hr => by
        have r1 := mr.1
        have r2 := mr.2
        have el2 := bit_look (x := r) (s := h 55 14) r1 hn.1
        have er2 : -2147483648 ≤ bAnd (r / 2 ^ (h 55 14).toNat) 1 ∧ bAnd (r / 2 ^ (h 55 14).toNat) 1 < 2147483648 := by rw [el2]; split <;> decide
        refine bX10_isLine_105 (r1 := by rw [e55]; omega) (r3 := by rw [e55]; exact er2) (kt := fun q => ?_) (kf := fun q => ?_)
        · rw [e55, el2] at q
          have nb : ¬ bt r (h 55 14).toNat = true := fun z => by rw [if_pos z] at q; omega
          refine bX10_isLine_118 (kk := ih2 (f + 1) _ _ (by omega) (by omega) (fun v a b => ?_))
          by_cases e : v = f
          · rw [e]; exact fun z => nb (hr.mpr z)
          · exact no v a (by omega)
        · rw [e55, el2] at q
          have nb : bt r (h 55 14).toNat = true := by
            by_cases z : bt r (h 55 14).toNat = true
            · exact z
            · rw [if_neg z] at q; omega
          refine bX10_isLine_116 (hq := ?_)
          rw [← hQ]
          refine ⟨_, rfl, rfl, k1, Or.inl ⟨rfl, f, ?_, hr.mp nb⟩⟩
          have e03 : D 0 3 = h (h 55 0) 3 := by rw [← hD]; exact dV0 h 3
          omega
      suffices FK : ∀ (d : Nat) (k : Nat) (r : Int), (k : Int) + d = h (h 55 0 + 13) f → m16 r → (∀ p : Nat, bt r p = true ↔ reach D (h 78) (h 55 14) f k p) → Wp mX10_isLine (kR fr 0 0) Q (0, 0) 63 [zR 55, zI f, zI r, zI k] [] 137 h1 by
        refine FK (h (h 55 0 + 13) f).toNat 0 1 (by omega) (by constructor <;> decide) (fun p => ?_)
        have o := (one16 (s := 0) (by decide) (by decide)).2 p
        have e1 : (1 : Int) * 2 ^ (0 : Int).toNat = 1 := by decide
        rw [e1] at o
        rw [o]
        show decide (p = (0 : Int).toNat) = true ↔ (p : Int) = 0
        rw [decide_eq_true_eq]
        show p = 0 ↔ (p : Int) = 0
        omega
      intro d3
      induction d3 with
      | zero =>
        intro k r hk mr hr
        refine bX10_isLine_63 (c1 := by rw [e55]; exact cg) (r3 := by rw [e55, e13]; omega) (kt := fun _ => ?_) (kf := fun q => by rw [e55, e13] at q; omega)
        refine endF r _ mr ?_
        rw [hr, d13, show (h (h 55 0 + 13) f).toNat = k by omega, show (((h 55 14).toNat : Nat) : Int) = h 55 14 by omega]
      | succ d3 ih3 =>
        intro k r hk mr hr
        have r1 := mr.1
        have r2 := mr.2
        have kk := fk k (by omega) (by omega)
        refine bX10_isLine_63 (c1 := by rw [e55]; exact cg) (r3 := by rw [e55, e13]; omega) (kt := fun q => by rw [e55, e13] at q; omega) (kf := fun _ => ?_)
        refine bX10_isLine_76 (kt := fun q => ?_) (kf := fun q => ?_)
        · refine endF r _ mr ?_
          have none : ∀ p, ¬ reach D (h 78) (h 55 14) f k p := fun p z => by
            have pr := z.rng hd hn.1
            have := (hr p.toNat).mpr (by rw [show ((p.toNat : Nat) : Int) = p by omega]; exact z)
            rw [q, bt_zero] at this
            cases this
          constructor
          · intro z
            rw [q, bt_zero] at z
            cases z
          · intro z
            exact absurd z (reach.none none (by rw [d13]; omega) _)
        · refine bX10_isLine_80 (c1 := by rw [e55]; exact cg) (hS := by rw [e55, e14]; exact c_layKind (by rw [e55]; exact hg) hd1 hv1 kk.1 kk.2 mr (by rw [e55]; exact hn) ft1) (kk := ?_)
          rintro x h2 ⟨e2, mx, hx⟩
          rw [e2]; clear e2 h2
          refine bX10_isLine_98 (kk := ?_)
          rw [show (k : Int) + 1 = ((k + 1 : Nat) : Int) by omega]
          refine ih3 (k + 1) x (by omega) mx (fun p => ?_)
          rw [hx p, e55, e78, eD1 0 (by decide) (by decide), eD1 10 (by decide) (by decide), eD1 11 (by decide) (by decide)]
          constructor
          · rintro ⟨w, ⟨a1, a2⟩, q', b1, b2, b3, b4⟩
            refine ⟨w, q', a1, by rw [a2, eD 14], (hr q').mp b1, ?_, b3, b4⟩
            unfold fitW at b2 ⊢
            rw [eD1 11 (by decide) (by decide), eD1 12 (by decide) (by decide)] at b2
            exact b2
          · rintro ⟨w, q', a1, a2, b1, b2, b3, b4⟩
            have qr := b1.rng hd hn.1
            refine ⟨w, ⟨a1, by rw [a2, eD 14]⟩, q'.toNat, (hr _).mpr (by rw [show ((q'.toNat : Nat) : Int) = q' by omega]; exact b1), ?_, by rw [show ((q'.toNat : Nat) : Int) = q' by omega]; exact b3, b4⟩
            rw [show ((q'.toNat : Nat) : Int) = q' by omega]
            unfold fitW at b2 ⊢
            rw [eD1 11 (by decide) (by decide), eD1 12 (by decide) (by decide)]
            exact b2
theorem c_isEchoed {fr : Nat} {f : Int} {h : AH} (hf : 1 ≤ fr) (hg : isG (h 55 0)) (hd : okD (dV h)) (f0 : 0 ≤ f) (f1 : f < h (h 55 0) 3) (hn : 0 ≤ h 55 14 ∧ h 55 14 ≤ 12) (r78 : ∀ i, 0 ≤ i → i < 12 → 0 ≤ h 78 i ∧ h 78 i < 8) (hw : 0 ≤ h 76 (h (h 55 0 + 13) f - 1) ∧ h 76 (h (h 55 0 + 13) f - 1) < h (h 55 0) 2) :
    Sp mX10_isEchoed true fr 0 0 [zR 55, zI f] 137 h (rI (fun x h' => h' = h ∧ ((x = 1 ∧ dV h 11 (h 76 (dV h 13 f - 1)) = h 55 14 ∧ fitW (dV h) (h 78) (h 76 (dV h 13 f - 1)) 0) ∨ (x = 0 ∧ ¬ (dV h 11 (h 76 (dV h 13 f - 1)) = h 55 14 ∧ fitW (dV h) (h 78) (h 76 (dV h 13 f - 1)) 0))))) := by
  refine Sp.mk yX10_isEchoed_ok rfl rfl ?_
  have cg := hg.cel
  obtain ⟨⟨f6, L1⟩, fk⟩ := formD hd f0 f1
  obtain ⟨⟨w8, -⟩, hl, hs⟩ := wordD hd hw.1 hw.2
  have em : max 0 (h (h 55 0 + 13) f - 1) = h (h 55 0 + 13) f - 1 := by omega
  refine bX10_isEchoed_0 (r5 := by rw [em]; omega) (r6 := by rw [em]; omega) (kt := fun q => ?_) (kf := fun q => ?_)
  · rw [em] at q
    exact bX10_isEchoed_50 (kk := bX10_isEchoed_51 (hq := ⟨_, rfl, rfl, rfl, Or.inr ⟨rfl, fun z => q z.1⟩⟩))
  · rw [em] at q ⊢
    refine bX10_isEchoed_37 (hS := c_fitsAt hg hd hw.1 hw.2 (by decide) (by omega) r78) (kk := ?_)
    rintro x h1 ⟨e1, hx⟩
    rw [e1]; clear e1 h1
    refine bX10_isEchoed_43 (r1 := by rcases hx with z | z <;> omega) (kt := fun c => ?_) (kf := fun c => ?_)
    · rcases hx with ⟨z, -⟩ | ⟨-, z⟩
      · omega
      exact bX10_isEchoed_50 (kk := bX10_isEchoed_51 (hq := ⟨_, rfl, rfl, rfl, Or.inr ⟨rfl, fun w => z w.2⟩⟩))
    · rcases hx with ⟨-, z⟩ | ⟨z, -⟩
      · exact bX10_isEchoed_46 (kk := bX10_isEchoed_51 (hq := ⟨_, rfl, rfl, rfl, Or.inl ⟨rfl, q, z⟩⟩))
      · exact absurd z c
