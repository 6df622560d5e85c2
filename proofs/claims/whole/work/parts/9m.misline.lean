/-! ===== the model: isWordAt, isLine, answers, isEchoed ===== -/
def backOk (h : AH) : Prop := (0 ≤ h 98 58 ∧ h 98 58 ≤ 160) ∧ ∀ u, 0 ≤ u → u < h 98 58 → 0 ≤ h 120 u ∧ h 120 u < 8
theorem m_isWordAt {fr : Nat} {w p : Int} {D : DT} {h : AH} (hD : dM h = D) (hd : okD D) (hb : backOk h) (w0 : 0 ≤ w) (w1 : w < D 0 2) (p0 : 0 ≤ p) (p1 : p ≤ 160) :
    Sp mX12_isWordAt true fr 0 0 [zR 98, zI w, zI p] 137 h (rI (fun x h' => h' = h ∧ ((x = 1 ∧ p + D 11 w ≤ h 98 58 ∧ fitW D (h 120) w p) ∨ (x = 0 ∧ ¬ (p + D 11 w ≤ h 98 58 ∧ fitW D (h 120) w p))))) := by
  refine Sp.mk yX12_isWordAt_ok rfl rfl ?_
  have n02 := hd.2.2.1
  have n8 := hd.1
  obtain ⟨-, lw, sw⟩ := hd.2.2.2.2.2.2.2.2.2.2.2.2.2.1 _ w0 w1
  have e12 : ∀ j, 0 ≤ j → j < 4 → D 12 (w * 4 + j) = h 101 (6 * w + 2 + j) := fun j a b => by rw [← hD]; exact dM12 a b
  have e11 : D 11 w = h 101 (6 * w + 1) := by rw [← hD]; rfl
  obtain ⟨nb, rb⟩ := hb
  refine bX12_isWordAt_0 (r2 := by rw [← e11]; omega) (kt := fun q => ?_) (kf := fun q => ?_)
  rotate_left
  · rw [← e11] at q
    exact bX12_isWordAt_20 (hq := ⟨_, rfl, rfl, rfl, Or.inr ⟨rfl, fun z => by omega⟩⟩)
  rw [← e11] at q
  refine bX12_isWordAt_22 (kk := ?_)
  suffices H : ∀ (d : Nat) (i : Int), 0 ≤ i → i + d = D 11 w → (∀ j, 0 ≤ j → j < i → h 120 (p + j) = D 12 (w * 4 + j)) → Wp mX12_isWordAt (kR fr 0 0) (rI (fun x h' => h' = h ∧ ((x = 1 ∧ p + D 11 w ≤ h 98 58 ∧ fitW D (h 120) w p) ∨ (x = 0 ∧ ¬ (p + D 11 w ≤ h 98 58 ∧ fitW D (h 120) w p))))) (0, 0) 24 [zR 98, zI w, zI p, zI i] [] 137 h by
    exact H (D 11 w).toNat 0 (by decide) (by omega) (fun j a b => by omega)
  intro d
  induction d with
  | zero =>
    intro i i0 hi ha
    refine bX12_isWordAt_24 (r3 := by rw [← e11]; omega) (kt := fun _ => ?_) (kf := fun z => by rw [← e11] at z; omega)
    exact bX12_isWordAt_71 (hq := ⟨_, rfl, rfl, rfl, Or.inl ⟨rfl, q, fun j a b => ha j a (by omega)⟩⟩)
  | succ d ih =>
    intro i i0 hi ha
    have v := rb (p + i) (by omega) (by omega)
    have sj := sw i i0 (by omega)
    rw [e12 i i0 (by omega)] at sj
    refine bX12_isWordAt_24 (r3 := by rw [← e11]; omega) (kt := fun z => by rw [← e11] at z; omega) (kf := fun _ => ?_)
    refine bX12_isWordAt_39 (kt := fun z => ?_) (kf := fun z => ?_)
    · refine bX12_isWordAt_65 (kk := ih (i + 1) (by omega) (by omega) (fun j a b => ?_))
      by_cases e : j = i
      · rw [e, e12 i i0 (by omega)]; exact z
      · exact ha j a (by omega)
    · refine bX12_isWordAt_63 (hq := ⟨_, rfl, rfl, rfl, Or.inr ⟨rfl, fun ⟨_, y⟩ => z ?_⟩⟩)
      have := y i i0 (by omega)
      rw [e12 i i0 (by omega)] at this
      exact this
theorem m_isLine {fr : Nat} {D : DT} {h : AH} (hf : 1 ≤ fr) (hD : dM h = D) (hd : okD D) (hb : backOk h) :
    Sp mX12_isLine true fr 0 0 [zR 98] 137 h (rI (fun x h' => h' = h ∧ ((x = 1 ∧ isLineB D (h 120) (h 98 58)) ∨ (x = 0 ∧ ¬ isLineB D (h 120) (h 98 58))))) := by
  refine Sp.mk yX12_isLine_ok rfl rfl ?_
  have n02 := hd.2.2.1
  have nF := hd.2.2.2.1
  have n8 := hd.1
  have e4 : h 98 4 = D 0 3 := by rw [← hD]; rfl
  have e3 : h 98 3 = D 0 2 := by rw [← hD]; rfl
  have e13 : ∀ f : Int, h 102 (4 * f) = D 13 f := fun f => by rw [← hD]; rfl
  have e10 : ∀ w : Int, h 101 (6 * w) = D 10 w := fun w => by rw [← hD]; rfl
  have e11 : ∀ w : Int, h 101 (6 * w + 1) = D 11 w := fun w => by rw [← hD]; rfl
  have nb := hb.1
  generalize hB : h 120 = B at *
  generalize hn : h 98 58 = n at *
  generalize hQ : (rI (fun x h' => h' = h ∧ ((x = 1 ∧ isLineB D B n) ∨ (x = 0 ∧ ¬ isLineB D B n)))) = Q
  refine bX12_isLine_0 (r1 := by omega) (kt := fun q => ?_) (kf := fun q => ?_)
  rotate_left
  · refine bX12_isLine_9 (hq := ?_)
    rw [← hQ]
    refine ⟨_, rfl, rfl, rfl, Or.inr ⟨rfl, ?_⟩⟩
    rintro ⟨f, a, b⟩
    have L := (hd.2.2.2.2.2.2.2.2.2.2.2.2.2.2 f a.1 a.2).1
    have := reachL.rng hd b.len
    omega
  rw [hn] at q
  refine bX12_isLine_11 (kk := ?_)
  suffices FF : ∀ (d : Nat) (f : Int) (x2 x3 x4 x5 x6 : AV), 0 ≤ f → f + d = D 0 3 → (∀ v, 0 ≤ v → v < f → ¬ reach D B n v (D 13 v).toNat n) → Wp mX12_isLine (kR fr 0 0) Q (0, 0) 13 [zR 98, zI f, x2, x3, x4, x5, x6] [] 137 h by
    exact FF (D 0 3).toNat 0 _ _ _ _ _ (by decide) (by omega) (fun v a b => by omega)
  intro d
  induction d with
  | zero =>
    intro f x2 x3 x4 x5 x6 f0 hff no
    refine bX12_isLine_13 (kt := fun _ => ?_) (kf := fun z => by omega)
    refine bX12_isLine_169 (hq := ?_)
    rw [← hQ]
    refine ⟨_, rfl, rfl, rfl, Or.inr ⟨rfl, ?_⟩⟩
    rintro ⟨v, a, b⟩
    exact no v a.1 (by omega) b
  | succ d ih =>
    intro f x2 x3 x4 x5 x6 f0 hff no
    obtain ⟨L, hk⟩ := hd.2.2.2.2.2.2.2.2.2.2.2.2.2.2 f f0 (by omega)
    refine bX12_isLine_13 (kt := fun z => by omega) (kf := fun _ => ?_)
    refine bX12_isLine_21 (kk := ?_)
    suffices FK : ∀ (d : Nat) (k : Nat) (r : Int) (x4 x5 x6 : AV), (k : Int) + d = D 13 f → m16 r → (∀ p : Nat, bt r p = true ↔ reach D B n f k p) → Wp mX12_isLine (kR fr 0 0) Q (0, 0) 25 [zR 98, zI f, zI r, zI k, x4, x5, x6] [] 137 h by
      refine FK (D 13 f).toNat 0 1 _ _ _ (by omega) (by constructor <;> decide) (fun p => ?_)
      have o := (one16 (s := 0) (by decide) (by decide)).2 p
      have e1 : (1 : Int) * 2 ^ (0 : Int).toNat = 1 := by decide
      rw [e1] at o
      rw [o]
      show decide (p = (0 : Int).toNat) = true ↔ (p : Int) = 0
      rw [decide_eq_true_eq]
      show p = 0 ↔ (p : Int) = 0
      omega
    intro d2
    induction d2 with
    | zero =>
      intro k r x4 x5 x6 hkk mr hr
      have r1 := mr.1
      have r2 := mr.2
      have el2 := bit_look (x := r) (s := n) r1 nb.1
      have hrn := hr n.toNat
      rw [show ((n.toNat : Nat) : Int) = n by omega, show k = (D 13 f).toNat by omega] at hrn
      refine bX12_isLine_25 (r3 := by rw [e13]; omega) (kt := fun _ => ?_) (kf := fun z => by rw [e13] at z; omega)
      refine bX12_isLine_149 (r1 := by omega) (r3 := by rw [hn, el2]; split <;> decide) (kt := fun z => ?_) (kf := fun z => ?_)
      · rw [hn, el2] at z
        have nb' : ¬ bt r n.toNat = true := fun w => by rw [if_pos w] at z; omega
        refine bX12_isLine_163 (kk := ih (f + 1) _ _ _ _ _ (by omega) (by omega) (fun v a b => ?_))
        by_cases e : v = f
        · rw [e]; exact fun w => nb' (hrn.mpr w)
        · exact no v a (by omega)
      · rw [hn, el2] at z
        have nb' : bt r n.toNat = true := by
          by_cases w : bt r n.toNat = true
          · exact w
          · rw [if_neg w] at z; omega
        refine bX12_isLine_161 (hq := ?_)
        rw [← hQ]
        exact ⟨_, rfl, rfl, rfl, Or.inl ⟨rfl, f, ⟨f0, by omega⟩, hrn.mp nb'⟩⟩
    | succ d2 ih2 =>
      intro k r x4 x5 x6 hkk mr hr
      have hki := hk k (by omega) (by omega)
      refine bX12_isLine_25 (r3 := by rw [e13]; omega) (kt := fun z => by rw [e13] at z; omega) (kf := fun _ => ?_)
      refine bX12_isLine_37 (kk := ?_)
      suffices PP : ∀ (d : Nat) (p t : Int) (x6 : AV), 0 ≤ p → p + d = n + 1 → m16 t → (∀ m : Nat, bt t m = true ↔ ∃ w q, (0 ≤ w ∧ w < D 0 2) ∧ D 10 w = D 14 (f * 3 + k) ∧ reach D B n f k q ∧ fitW D B w q ∧ (m : Int) = q + D 11 w ∧ (m : Int) ≤ n ∧ q < p) → Wp mX12_isLine (kR fr 0 0) Q (0, 0) 43 [zR 98, zI f, zI r, zI k, zI t, zI p, x6] [] 137 h by
        refine PP (n + 1).toNat 0 0 _ (by decide) (by omega) (by constructor <;> decide) (fun m => ?_)
        have z0 : bt 0 m = false := by unfold bt; simp
        rw [z0]
        refine ⟨fun w => absurd w (by decide), ?_⟩
        rintro ⟨w, q', -, -, c, -, -, -, z⟩
        have := (c.rng hd nb.1).1
        omega
      intro d3
      induction d3 with
      | zero =>
        intro p t x6 p0 hp mt ht
        refine bX12_isLine_43 (kt := fun _ => ?_) (kf := fun z => by omega)
        refine bX12_isLine_140 (kk := ?_)
        rw [show (k : Int) + 1 = ((k + 1 : Nat) : Int) by omega]
        refine ih2 (k + 1) t _ _ _ (by omega) mt (fun m => ?_)
        rw [ht m]
        constructor
        · rintro ⟨w, q', a, b, c, e, g, i, -⟩
          exact ⟨w, q', a, b, c, e, g, i⟩
        · rintro ⟨w, q', a, b, c, e, g, i⟩
          have := (c.rng hd nb.1).2
          exact ⟨w, q', a, b, c, e, g, i, by omega⟩
      | succ d3 ih3 =>
        intro p t x6 p0 hp mt ht
        have el := bit_look (x := r) (s := p) mr.1 p0
        have r1 := mr.1
        have r2 := mr.2
        have hrp := hr p.toNat
        rw [show ((p.toNat : Nat) : Int) = p by omega] at hrp
        refine bX12_isLine_43 (kt := fun z => by omega) (kf := fun _ => ?_)
        refine bX12_isLine_52 (r3 := by rw [el]; split <;> decide) (kt := fun z => ?_) (kf := fun z => ?_)
        rotate_left
        · rw [el] at z
          have nr : ¬ reach D B n f k p := fun w => by rw [if_pos (hrp.mpr w)] at z; omega
          refine bX12_isLine_61 (kk := bX12_isLine_134 (kk := ih3 (p + 1) t _ (by omega) (by omega) mt (fun m => ?_)))
          rw [ht m]
          constructor
          · rintro ⟨w, q', a, b, c, e, g, i, j⟩
            exact ⟨w, q', a, b, c, e, g, i, by omega⟩
          · rintro ⟨w, q', a, b, c, e, g, i, j⟩
            refine ⟨w, q', a, b, c, e, g, i, ?_⟩
            by_cases eq : q' = p
            · rw [eq] at c; exact absurd c nr
            · omega
        rw [el] at z
        have yr : reach D B n f k p := hrp.mp (by
          by_cases w : bt r p.toNat = true
          · exact w
          · rw [if_neg w] at z; omega)
        refine bX12_isLine_64 (kk := ?_)
        suffices WW : ∀ (d : Nat) (w t : Int), 0 ≤ w → w + d = D 0 2 → m16 t → (∀ m : Nat, bt t m = true ↔ ∃ v q, (0 ≤ v ∧ v < D 0 2) ∧ D 10 v = D 14 (f * 3 + k) ∧ reach D B n f k q ∧ fitW D B v q ∧ (m : Int) = q + D 11 v ∧ (m : Int) ≤ n ∧ (q < p ∨ (q = p ∧ v < w))) → Wp mX12_isLine (kR fr 0 0) Q (0, 0) 67 [zR 98, zI f, zI r, zI k, zI t, zI p, zI w] [] 137 h by
          refine WW (D 0 2).toNat 0 t (by decide) (by omega) mt (fun m => ?_)
          rw [ht m]
          constructor
          · rintro ⟨w, q', a, b, c, e, g, i, j⟩
            exact ⟨w, q', a, b, c, e, g, i, Or.inl j⟩
          · rintro ⟨w, q', a, b, c, e, g, i, j⟩
            exact ⟨w, q', a, b, c, e, g, i, by omega⟩
        intro d4
        induction d4 with
        | zero =>
          intro w t w0 hw mt ht
          refine bX12_isLine_67 (kt := fun _ => ?_) (kf := fun z => by omega)
          refine bX12_isLine_134 (kk := ih3 (p + 1) t _ (by omega) (by omega) mt (fun m => ?_))
          rw [ht m]
          constructor
          · rintro ⟨w, q', a, b, c, e, g, i, j⟩
            exact ⟨w, q', a, b, c, e, g, i, by omega⟩
          · rintro ⟨w, q', a, b, c, e, g, i, j⟩
            exact ⟨w, q', a, b, c, e, g, i, by omega⟩
        | succ d4 ih4 =>
          intro w t w0 hw mt ht
          obtain ⟨ww, lw, -⟩ := hd.2.2.2.2.2.2.2.2.2.2.2.2.2.1 w w0 (by omega)
          have same : ¬ (D 10 w = D 14 (f * 3 + k) ∧ p + D 11 w ≤ n ∧ fitW D B w p) → Wp mX12_isLine (kR fr 0 0) Q (0, 0) 128 [zR 98, zI f, zI r, zI k, zI t, zI p, zI w] [] 137 h := fun nn => by
            refine bX12_isLine_128 (kk := ih4 (w + 1) t (by omega) (by omega) mt (fun m => ?_))
            rw [ht m]
            constructor
            · rintro ⟨v, q', a, b, c, e, g, i, j⟩
              exact ⟨v, q', a, b, c, e, g, i, by omega⟩
            · rintro ⟨v, q', a, b, c, e, g, i, j⟩
              refine ⟨v, q', a, b, c, e, g, i, ?_⟩
              by_cases ev : q' = p ∧ v = w
              · obtain ⟨e1, e2⟩ := ev
                rw [e1, e2] at e g
                rw [e2] at b
                exact absurd ⟨b, by omega, e⟩ nn
              · omega
          refine bX12_isLine_67 (kt := fun z => by omega) (kf := fun _ => ?_)
          refine bX12_isLine_76 (hS := m_kindOf (by omega) (by omega)) (kk := ?_)
          rintro x h1 ⟨e1, hx⟩
          rw [e1]; clear e1 h1
          rw [hD] at hx
          refine bX12_isLine_92 (r1 := by rw [e10]; omega) (r2 := by rw [hx]; omega) (kt := fun z => ?_) (kf := fun z => ?_)
          · rw [e10, hx] at z
            exact same (fun y => z y.1)
          rw [e10, hx] at z
          refine bX12_isLine_95 (hS := m_isWordAt hD hd hb w0 (by omega) p0 (by omega)) (kk := ?_)
          rintro y h1 ⟨e1, hy⟩
          rw [e1]; clear e1 h1
          rw [hB, hn] at hy
          refine bX12_isLine_103 (r1 := by rcases hy with w | w <;> omega) (kt := fun q2 => ?_) (kf := fun q2 => ?_)
          · rcases hy with ⟨w, -⟩ | ⟨-, no'⟩
            · omega
            exact same (fun y => no' ⟨y.2.1, y.2.2⟩)
          rcases hy with ⟨-, yl, yf⟩ | ⟨w, -⟩
          rotate_left
          · exact absurd w q2
          have o16 := one16 (s := p + D 11 w) (by omega) (by omega)
          have or16' := or16 mt o16.1
          refine bX12_isLine_106 (r2 := by rw [e11]; omega) (kk := ?_)
          rw [e11]
          refine bX12_isLine_128 (kk := ih4 (w + 1) _ (by omega) (by omega) or16'.1 (fun m => ?_))
          rw [or16'.2 m, Bool.or_eq_true, ht m, o16.2 m, decide_eq_true_eq]
          constructor
          · rintro (⟨v, q', a, b, c, e, g, i, j⟩ | em)
            · exact ⟨v, q', a, b, c, e, g, i, by omega⟩
            · exact ⟨w, p, ⟨w0, by omega⟩, z, yr, yf, by omega, by omega, Or.inr ⟨rfl, by omega⟩⟩
          · rintro ⟨v, q', a, b, c, e, g, i, j⟩
            by_cases ev : q' = p ∧ v = w
            · obtain ⟨e1, e2⟩ := ev
              rw [e1, e2] at g
              exact Or.inr (by omega)
            · exact Or.inl ⟨v, q', a, b, c, e, g, i, by omega⟩
theorem m_answers {fr : Nat} {f i : Nat} {o : Int} {D : DT} {h : AH} (hf : 3 ≤ fr) (hD : dM h = D) (hd : okD D) (hp : atL D h f i) (o0 : 0 ≤ o ∧ o < 24) (hfog : 0 ≤ h 98 46 ∧ h 98 46 ≤ 100) (hgo : -1 ≤ h 98 47 ∧ h 98 47 < 6) :
    Sp mX12_answers true fr 0 0 [zR 98, zI o] 137 h (rI (fun x h' => (kR5 h h' ∧ backOk h') ∧ lineR D (ampA D (D 9 o) (h 98 46) (h 98 47)) f i (h' 118) (h' 119) (h' 120) (h' 98 58) ∧ h' 98 57 = preW D (h' 118) (D 13 f).toNat ∧ ((x = 1 ∧ Ans D (ampA D (D 9 o) (h 98 46) (h 98 47)) f i) ∨ (x = 0 ∧ ¬ Ans D (ampA D (D 9 o) (h 98 46) (h 98 47)) f i)))) := by
  refine Sp.mk yX12_answers_ok rfl rfl ?_
  refine bX12_answers_0 (hS := m_returns (by omega) hD hd hp o0 hfog hgo) (kk := ?_)
  rintro h1 ⟨k1, lr, e57, b1, b2⟩
  refine bX12_answers_5 (hS := m_isLine (by omega) (by rw [k1.dM]; exact hD) hd ⟨b1, b2⟩) (kk := ?_)
  rintro x h2 ⟨e2, hx⟩
  rw [e2]; clear e2 h2
  rw [← Ans_iff hd lr] at hx
  exact bX12_answers_9 (r1 := by rcases hx with z | z <;> omega) (hq := ⟨_, rfl, rfl, ⟨k1, b1, b2⟩, lr, e57, hx⟩)
theorem m_isEchoed {fr : Nat} {f i : Nat} {D : DT} {A : Int → Int → Int} {h : AH} (hf : 1 ≤ fr) (hD : dM h = D) (hd : okD D) (hp : atL D h f i) (hb : backOk h) (lr : lineR D A f i (h 118) (h 119) (h 120) (h 98 58)) :
    Sp mX12_isEchoed true fr 0 0 [zR 98] 137 h (rI (fun x h' => h' = h ∧ ((x = 1 ∧ Ech D A f i) ∨ (x = 0 ∧ ¬ Ech D A f i)))) := by
  refine Sp.mk yX12_isEchoed_ok rfl rfl ?_
  obtain ⟨⟨f1, i1⟩, h53, hW, -⟩ := id hp
  have nF := hd.2.2.2.1
  have n02 := hd.2.2.1
  have L := (hd.2.2.2.2.2.2.2.2.2.2.2.2.2.2 f (by omega) f1).1
  have e13 : ∀ f : Int, h 102 (4 * f) = D 13 f := fun f => by rw [← hD]; rfl
  have e11 : ∀ w : Int, h 101 (6 * w + 1) = D 11 w := fun w => by rw [← hD]; rfl
  have wr := (hW (D 13 f - 1) (by omega) (by omega)).1
  obtain ⟨-, lw, -⟩ := hd.2.2.2.2.2.2.2.2.2.2.2.2.2.1 _ wr.1 wr.2
  have nb := hb.1
  rw [Ech_iff (by omega) lr]
  refine bX12_isEchoed_0 (r1 := by rw [h53]; omega) (r2 := by rw [h53, e13]; omega) (r3 := by rw [h53, e13]; omega) (r5 := by rw [h53, e13, e11]; omega) (kt := fun q => ?_) (kf := fun q => ?_)
  · rw [h53, e13, e11] at q
    exact bX12_isEchoed_50 (kk := bX12_isEchoed_51 (hq := ⟨_, rfl, rfl, rfl, Or.inr ⟨rfl, fun z => q z.1.symm⟩⟩))
  rw [h53, e13, e11] at q
  rw [h53, e13]
  refine bX12_isEchoed_37 (hS := m_isWordAt hD hd hb wr.1 wr.2 (by decide) (by decide)) (kk := ?_)
  rintro x h2 ⟨e2, hx⟩
  rw [e2]; clear e2 h2
  refine bX12_isEchoed_43 (r1 := by rcases hx with z | z <;> omega) (kt := fun w => ?_) (kf := fun w => ?_)
  · rcases hx with ⟨z, -⟩ | ⟨-, z⟩
    · omega
    exact bX12_isEchoed_50 (kk := bX12_isEchoed_51 (hq := ⟨_, rfl, rfl, rfl, Or.inr ⟨rfl, fun y => z ⟨by omega, y.2⟩⟩⟩))
  · rcases hx with ⟨-, z⟩ | ⟨z, -⟩
    · exact bX12_isEchoed_46 (kk := bX12_isEchoed_51 (hq := ⟨_, rfl, rfl, rfl, Or.inl ⟨rfl, q.symm, z.2⟩⟩))
    · exact absurd z w
