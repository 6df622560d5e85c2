/-! ===== the model's reader: form, word ===== -/
section
variable {h0 h : AH} {T : Int → Int} {n p a s m k q c : Int} {E : DT} {fr : Nat}
theorem gM.at (g : gM h0 h T n p E a s m) {k i : Int} (hk : 1 ≤ k ∧ k ≤ 14) : h (cN k) (iN k i) = E k i := by
  rw [← g.2.2.2.2.1]
  unfold dN
  rw [if_pos ⟨by omega, fun w => by omega⟩]
theorem m_readsForm (hf : 3 ≤ fr) (hd : okD E) (ht : txM h0 T n) (g : gM h0 h T n p E a s m) : Sp mX12_readsForm true fr 0 0 [zR 98] 137 h (rV (fun h' => PR h0 h' T n (rForm T n p E a s m))) := by
  refine Sp.mk yX12_readsForm_ok rfl rfl ?_
  have tn := ht.2.1
  have d3 := hd.2.2.2.1
  have e30 : h 98 30 = E 0 3 := g.cnt (i := 3) (by decide)
  unfold rForm
  generalize hw : E 0 3 = f at *
  generalize hres : (if 6 ≤ f then .inl (2, pl T n p) else formL T n f a s m 3 (bh T n p) (upD (upD E 13 f 0) 0 3 (f + 1))) = res
  generalize hQ : (rV (fun h' : AH => PR h0 h' T n res)) = Q
  have b125 : ∀ (h2 : AH) (k q c : Int) (x1 x2 x3 : AV), res = .inl (k, q) → bdM h0 h2 T n k q c → Wp mX12_readsForm (kR fr 0 0) Q (0, 0) 125 [zR 98, x1, x2, x3] [] 137 h2 := fun h2 k q c _ _ _ er b => by
    refine bX12_readsForm_125 (hS := m_isGood_b b) (kk := ?_)
    rintro x h3 ⟨e3, hx⟩
    rw [e3, hx]; clear e3 h3 hx x
    refine bX12_readsForm_129 (kf := fun z => absurd rfl z) (kt := fun _ => bX12_readsForm_142 (hq := ?_))
    rw [← hQ]
    exact ⟨rfl, rfl, Or.inr ⟨_, _, _, er, b⟩⟩
  have b101 : ∀ (h2 : AH) (k q c l1 : Int) (x2 x3 : AV), res = .inl (k, q) → bdM h0 h2 T n k q c → Wp mX12_readsForm (kR fr 0 0) Q (0, 0) 101 [zR 98, zI l1, x2, x3] [] 137 h2 := fun h2 k q c l1 _ _ er b => by
    refine bX12_readsForm_101 (hS := m_isGood_b b) (kk := ?_)
    rintro x h3 ⟨e3, hx⟩
    rw [e3, hx]; clear e3 h3 hx x
    refine bX12_readsForm_105 (kf := fun z => absurd rfl z) (kt := fun _ => bX12_readsForm_120 (kk := bX12_readsForm_121 (kk := ?_)))
    exact bX12_readsForm_42 (kf := fun z => absurd rfl z) (kt := fun _ => b125 h2 _ _ _ _ _ _ er b)
  have b67 : ∀ (h2 : AH) (k q c l1 x : Int) (x2 x3 : AV), res = .inl (k, q) → bdM h0 h2 T n k q c → Wp mX12_readsForm (kR fr 0 0) Q (0, 0) 67 [zR 98, zI l1, x2, x3] [zI x] 137 h2 := fun h2 k q c l1 x _ _ er b => by
    refine bX12_readsForm_67 (hS := m_isGood_b b) (kk := ?_)
    rintro y h3 ⟨e3, hy⟩
    rw [e3, hy]; clear e3 h3 hy y
    exact bX12_readsForm_72 (kf := fun z => absurd rfl z) (kt := fun _ => b101 h2 _ _ _ _ _ _ er b)
  refine bX12_readsForm_0 (kt := fun z => ?_) (kf := fun z => ?_)
  rotate_left
  · refine bX12_readsForm_9 (hS := m_wrong_g (by decide) g) (kk := fun h1 b1 => ?_)
    refine bX12_readsForm_14 (hS := m_isGood_b b1) (kk := ?_)
    rintro y h3 ⟨e3, hy⟩
    rw [e3, hy]; clear e3 h3 hy y
    refine bX12_readsForm_18 (kt := fun z => absurd rfl z) (kf := fun _ => bX12_readsForm_21 (hq := ?_))
    rw [← hQ]
    exact ⟨rfl, rfl, Or.inr ⟨_, _, _, by rw [← hres, if_pos (by omega)], b1⟩⟩
  rw [if_neg (by omega)] at hres
  refine bX12_readsForm_14 (hS := m_isGood_g g) (kk := ?_)
  rintro y h3 ⟨e3, hy⟩
  rw [e3, hy]; clear e3 h3 hy y
  refine bX12_readsForm_18 (kf := fun z => by omega) (kt := fun _ => ?_)
  refine bX12_readsForm_22 (hS := m_steps_g (by omega) ht g) (kk := ?_)
  intro h1 g1
  have f30 : h1 98 30 = f := by rw [← hw]; exact g1.cnt (i := 3) (by decide)
  refine bX12_readsForm_26 (r1 := by omega) (kk := ?_)
  rw [f30]
  have g2 := (g1.w (c := 111) (i := 4 * f) (v := 0) (by decide)).eqE (F := upD E 13 f 0) (by rw [dN_13, g1.2.2.2.2.1])
  suffices L : ∀ (d : Nat) (i : Int) (h2 : AH) (q : Int) (D : DT) (x3 : AV), i + d = 3 → 0 ≤ i → gM h0 h2 T n q D a s m → D 0 3 = f → D 13 f = i → formL T n f a s m d q (upD D 0 3 (f + 1)) = res → Wp mX12_readsForm (kR fr 0 0) Q (0, 0) 42 [zR 98, zI (4 * f), zI 1, x3] [] 137 h2 by
    exact L 3 0 _ _ _ _ (by decide) (by decide) g2 (by rw [upD_n (by decide)]; exact hw) (upD_ci _ _ _ _) hres
  intro d
  induction d with
  | zero =>
    intro i h2 q D x3 hi i0 gg D3 D13 hr
    have ei : h2 111 (4 * f) = D 13 f := gg.at (k := 13) (i := f) (by decide)
    refine bX12_readsForm_42 (kt := fun z => by omega) (kf := fun _ => ?_)
    refine bX12_readsForm_46 (r1 := by omega) (kt := fun z => by omega) (kf := fun z => ?_)
    refine bX12_readsForm_56 (hS := m_wrong_g (by decide) gg) (kk := fun h3 b3 => ?_)
    refine bX12_readsForm_61 (hS := m_number_b (by omega) b3) (kk := ?_)
    rintro y h4 ⟨e4, hy⟩
    rw [e4]
    exact b67 h3 2 _ _ _ _ _ _ (by rw [← hr]; rfl) b3
  | succ d ih =>
    intro i h2 q D x3 hi i0 gg D3 D13 hr
    have ei : h2 111 (4 * f) = D 13 f := gg.at (k := 13) (i := f) (by decide)
    have hi' : (2 : Int) - d = i := by omega
    rw [formL, hi'] at hr
    refine bX12_readsForm_42 (kt := fun z => by omega) (kf := fun _ => ?_)
    refine bX12_readsForm_46 (r1 := by omega) (kf := fun z => by omega) (kt := fun z => ?_)
    refine bX12_readsForm_61 (hS := m_number_g (by omega) ht R32_0 (R32_z (by decide)) gg) (kk := ?_)
    rintro y h3 (⟨n1, hy, g3⟩ | ⟨n1, b3⟩)
    rotate_left
    · exact b67 h3 _ _ _ _ _ _ _ (by rw [← hr]; exact numK_no n1) b3
    rw [numK_ok n1] at hr
    rw [hy]; clear hy y
    refine bX12_readsForm_67 (hS := m_isGood_g g3) (kk := ?_)
    rintro y h4 ⟨e4, hy⟩
    rw [e4, hy]; clear e4 h4 hy y
    refine bX12_readsForm_72 (kt := fun z => by omega) (kf := fun _ => ?_)
    have e3 : h3 111 (4 * f) = D 13 f := g3.at (k := 13) (i := f) (by decide)
    generalize vl T n q = kk at *
    refine bX12_readsForm_75 (r1 := by omega) (r2 := by omega) (kk := ?_)
    rw [e3, D13, up_cn (show (4 * f : Int) ≠ 4 * f + 1 + i by omega), e3, D13]
    have g4 := ((g3.w (c := 111) (i := 4 * f + 1 + i) (v := kk) (by decide)).w (c := 111) (i := 4 * f) (v := i + 1) (by decide)).eqE (F := upD (upD D 14 (f * 3 + i) kk) 13 f (i + 1)) (by rw [dN_13, dN_14 _ (by omega), g3.2.2.2.2.1])
    have hC : upD (upD (upD D 0 3 (f + 1)) 14 (f * 3 + i) kk) 13 f (i + 1) = upD (upD (upD D 14 (f * 3 + i) kk) 13 f (i + 1)) 0 3 (f + 1) := by
      rw [upD_comm D (k := 0) (k' := 14) (Or.inl (by decide)), upD_comm _ (k := 0) (k' := 13) (Or.inl (by decide))]
    rw [hC] at hr
    have D3' : (upD (upD D 14 (f * 3 + i) kk) 13 f (i + 1)) 0 3 = f := by rw [upD_n (by decide), upD_n (by decide)]; exact D3
    have D13' : (upD (upD D 14 (f * 3 + i) kk) 13 f (i + 1)) 13 f = i + 1 := upD_ci _ _ _ _
    generalize upD (upD D 14 (f * 3 + i) kk) 13 f (i + 1) = D' at *
    generalize up (up h3 111 (4 * f + 1 + i) kk) 111 (4 * f) (i + 1) = h4 at *
    obtain ⟨⟨u22, -, -⟩, kr2, -⟩ := g4.tok
    refine bX12_readsForm_101 (hS := m_isGood_g g4) (kk := ?_)
    rintro y h5 ⟨e5, hy⟩
    rw [e5, hy]; clear e5 h5 hy y
    refine bX12_readsForm_105 (kt := fun z => by omega) (kf := fun _ => ?_)
    refine bX12_readsForm_108 (kf := fun z => ?_) (kt := fun z => ?_)
    rotate_left
    · rw [if_pos (by omega)] at hr
      exact bX12_readsForm_116 (kk := bX12_readsForm_121 (kk := ih (i + 1) _ _ _ _ (by omega) (by omega) g4 D3' D13' hr))
    · rw [if_neg (by omega)] at hr
      refine bX12_readsForm_120 (kk := bX12_readsForm_121 (kk := ?_))
      refine bX12_readsForm_42 (kf := fun z => absurd rfl z) (kt := fun _ => ?_)
      refine bX12_readsForm_125 (hS := m_isGood_g g4) (kk := ?_)
      rintro y h5 ⟨e5, hy⟩
      rw [e5, hy]; clear e5 h5 hy y
      refine bX12_readsForm_129 (kt := fun z => by omega) (kf := fun _ => bX12_readsForm_132 (kk := bX12_readsForm_142 (hq := ?_)))
      have f4 : h4 98 30 = f := by rw [← D3']; exact g4.cnt (i := 3) (by decide)
      rw [← hQ]
      refine ⟨rfl, rfl, Or.inl ⟨_, _, _, _, _, hr.symm, (g4.cw (by decide)).eqE ?_⟩⟩
      rw [f4, ← g4.2.2.2.2.1]
      exact dN_0 h4 (i := 3) (by decide)
theorem sndF_e {T : Int → Int} {n p c : Int} {D : DT} : sndF T n p (upD D 0 2 c) = sndF T n p D := rfl
theorem m_readsWord (hf : 3 ≤ fr) (hd : okD E) (ht : txM h0 T n) (g : gM h0 h T n p E a s m) : Sp mX12_readsWord true fr 0 0 [zR 98] 137 h (rV (fun h' => PR h0 h' T n (rWord T n p E a s m))) := by
  refine Sp.mk yX12_readsWord_ok rfl rfl ?_
  have tn := ht.2.1
  have d0 := hd.1
  have d2 := hd.2.2.1
  have e29 : h 98 29 = E 0 2 := g.cnt (i := 2) (by decide)
  unfold rWord
  generalize hw : E 0 2 = w at *
  generalize hres : (if 8 ≤ w then .inl (2, pl T n p) else numK T n (bh T n p) 0 3 fun k => wordL T n w a s m 4 (bh T n (bh T n p)) (upD (upD (upD E 10 w k) 11 w 0) 0 2 (w + 1))) = res
  generalize hQ : (rV (fun h' : AH => PR h0 h' T n res)) = Q
  have b152 : ∀ (h2 : AH) (k q c : Int) (x1 x2 : AV), res = .inl (k, q) → bdM h0 h2 T n k q c → Wp mX12_readsWord (kR fr 0 0) Q (0, 0) 152 [zR 98, x1, x2] [] 137 h2 := fun h2 k q c _ _ er b => by
    refine bX12_readsWord_152 (hS := m_isGood_b b) (kk := ?_)
    rintro x h3 ⟨e3, hx⟩
    rw [e3, hx]; clear e3 h3 hx x
    refine bX12_readsWord_156 (kf := fun z => absurd rfl z) (kt := fun _ => bX12_readsWord_169 (hq := ?_))
    rw [← hQ]
    exact ⟨rfl, rfl, Or.inr ⟨_, _, _, er, b⟩⟩
  have b128 : ∀ (h2 : AH) (k q c l1 : Int) (x2 : AV), res = .inl (k, q) → bdM h0 h2 T n k q c → Wp mX12_readsWord (kR fr 0 0) Q (0, 0) 128 [zR 98, zI l1, x2] [] 137 h2 := fun h2 k q c l1 _ er b => by
    refine bX12_readsWord_128 (hS := m_isGood_b b) (kk := ?_)
    rintro x h3 ⟨e3, hx⟩
    rw [e3, hx]; clear e3 h3 hx x
    refine bX12_readsWord_132 (kf := fun z => absurd rfl z) (kt := fun _ => bX12_readsWord_147 (kk := bX12_readsWord_148 (kk := ?_)))
    exact bX12_readsWord_60 (kf := fun z => absurd rfl z) (kt := fun _ => b152 h2 _ _ _ _ _ er b)
  refine bX12_readsWord_0 (kt := fun z => ?_) (kf := fun z => ?_)
  rotate_left
  · refine bX12_readsWord_9 (hS := m_wrong_g (by decide) g) (kk := fun h1 b1 => ?_)
    refine bX12_readsWord_14 (hS := m_isGood_b b1) (kk := ?_)
    rintro y h3 ⟨e3, hy⟩
    rw [e3, hy]; clear e3 h3 hy y
    refine bX12_readsWord_18 (kt := fun z => absurd rfl z) (kf := fun _ => bX12_readsWord_21 (hq := ?_))
    rw [← hQ]
    exact ⟨rfl, rfl, Or.inr ⟨_, _, _, by rw [← hres, if_pos (by omega)], b1⟩⟩
  rw [if_neg (by omega)] at hres
  refine bX12_readsWord_14 (hS := m_isGood_g g) (kk := ?_)
  rintro y h3 ⟨e3, hy⟩
  rw [e3, hy]; clear e3 h3 hy y
  refine bX12_readsWord_18 (kf := fun z => by omega) (kt := fun _ => ?_)
  refine bX12_readsWord_22 (hS := m_steps_g (by omega) ht g) (kk := ?_)
  intro h1 g1
  have f29 : h1 98 29 = w := by rw [← hw]; exact g1.cnt (i := 2) (by decide)
  generalize bh T n p = p1 at *
  refine bX12_readsWord_26 (hS := m_number_g (by omega) ht R32_0 (R32_z (by decide)) g1) (kk := ?_)
  rw [f29]
  rintro y h2 (⟨n1, hy, g2⟩ | ⟨n1, b2⟩)
  rotate_left
  · have er : res = .inl (numF T n p1 0 3, pl T n p1) := by rw [← hres]; exact numK_no n1
    have b3 := (b2.w (c' := 110) (i := 6 * w) (v := y) (by decide)).w (c' := 110) (i := 6 * w + 1) (v := 0) (by decide)
    refine bX12_readsWord_45 (c1 := e110) (r1 := by omega) (r2 := by omega) (hS := m_isGood_b b3) (kk := ?_)
    rintro y h4 ⟨e4, hy⟩
    rw [e4, hy]; clear e4 h4 hy
    refine bX12_readsWord_59 (kk := ?_)
    exact bX12_readsWord_60 (kf := fun z => absurd rfl z) (kt := fun _ => b152 _ _ _ _ _ _ er b3)
  rw [numK_ok n1] at hres
  rw [hy]; clear hy y
  generalize vl T n p1 = kk at *
  have g3 := ((g2.w (c := 110) (i := 6 * w) (v := kk) (by decide)).w (c := 110) (i := 6 * w + 1) (v := 0) (by decide)).eqE (F := upD (upD E 10 w kk) 11 w 0) (by rw [dN_11, dN_10, g2.2.2.2.2.1])
  refine bX12_readsWord_45 (c1 := e110) (r1 := by omega) (r2 := by omega) (hS := m_isGood_g g3) (kk := ?_)
  rintro y h4 ⟨e4, hy⟩
  rw [e4, hy]; clear e4 h4 hy y
  refine bX12_readsWord_59 (kk := ?_)
  suffices L : ∀ (d : Nat) (i : Int) (h2 : AH) (q : Int) (D : DT), i + d = 4 → 0 ≤ i → gM h0 h2 T n q D a s m → D 0 0 = E 0 0 → D 0 2 = w → D 11 w = i → wordL T n w a s m d q (upD D 0 2 (w + 1)) = res → Wp mX12_readsWord (kR fr 0 0) Q (0, 0) 60 [zR 98, zI (6 * w), zI 1] [] 137 h2 by
    exact L 4 0 _ _ _ (by decide) (by decide) g3 rfl (by rw [upD_n (by decide), upD_n (by decide)]; exact hw) (upD_ci _ _ _ _) hres
  intro d
  induction d with
  | zero =>
    intro i h2 q D hi i0 gg D0 D2 D11 hr
    have ei : h2 110 (6 * w + 1) = D 11 w := gg.at (k := 11) (i := w) (by decide)
    refine bX12_readsWord_60 (kt := fun z => by omega) (kf := fun _ => ?_)
    refine bX12_readsWord_64 (r1 := by omega) (kt := fun z => by omega) (kf := fun z => ?_)
    refine bX12_readsWord_76 (hS := m_wrong_g (by decide) gg) (kk := fun h3 b3 => bX12_readsWord_81 (kk := ?_))
    exact b128 h3 2 _ _ _ _ (by rw [← hr]; rfl) b3
  | succ d ih =>
    intro i h2 q D hi i0 gg D0 D2 D11 hr
    have ei : h2 110 (6 * w + 1) = D 11 w := gg.at (k := 11) (i := w) (by decide)
    have hi' : (3 : Int) - d = i := by omega
    rw [wordL, hi'] at hr
    refine bX12_readsWord_60 (kt := fun z => by omega) (kf := fun _ => ?_)
    refine bX12_readsWord_64 (r1 := by omega) (kf := fun z => by omega) (kt := fun z => ?_)
    refine bX12_readsWord_84 (hS := m_sound_g (by omega) (by omega) ht gg) (kk := ?_)
    rintro y h3 (⟨f1, hy, e3⟩ | ⟨f1, hy, b3⟩)
    rotate_left
    · rw [hy]
      exact bX12_readsWord_88 (kf := fun z => absurd rfl z) (kt := fun _ => b128 h3 _ _ _ _ _ (by rw [← hr]; exact sndK_no (E := upD D 0 2 (w + 1)) f1) b3)
    rw [hy, e3]; clear hy y e3 h3
    rw [sndK_ok (E := upD D 0 2 (w + 1)) f1] at hr
    obtain ⟨⟨t22, t24, t25⟩, kr, vr, -, -, -⟩ := gg.tok
    generalize hv : vl T n q = kk at *
    refine bX12_readsWord_88 (kt := fun z => by omega) (kf := fun _ => ?_)
    have g4 := ((gg.w (c := 110) (i := 6 * w + 2 + i) (v := kk) (by decide)).w (c := 110) (i := 6 * w + 1) (v := i + 1) (by decide)).eqE (F := upD (upD D 12 (w * 4 + i) kk) 11 w (i + 1)) (by rw [dN_11, dN_12 _ (by omega), gg.2.2.2.2.1])
    refine bX12_readsWord_91 (r1 := by omega) (r2 := by omega) (hS := by
      rw [ei, D11, up_cn (show (6 * w + 1 : Int) ≠ 6 * w + 2 + i by omega), ei, D11, t25]
      exact m_steps_g (by omega) ht g4) (kk := ?_)
    intro h4 g5
    have hC : upD (upD (upD D 0 2 (w + 1)) 12 (w * 4 + i) kk) 11 w (i + 1) = upD (upD (upD D 12 (w * 4 + i) kk) 11 w (i + 1)) 0 2 (w + 1) := by
      rw [upD_comm D (k := 0) (k' := 12) (Or.inl (by decide)), upD_comm _ (k := 0) (k' := 11) (Or.inl (by decide))]
    rw [hC] at hr
    have D0' : (upD (upD D 12 (w * 4 + i) kk) 11 w (i + 1)) 0 0 = E 0 0 := by rw [upD_n (by decide), upD_n (by decide)]; exact D0
    have D2' : (upD (upD D 12 (w * 4 + i) kk) 11 w (i + 1)) 0 2 = w := by rw [upD_n (by decide), upD_n (by decide)]; exact D2
    have D11' : (upD (upD D 12 (w * 4 + i) kk) 11 w (i + 1)) 11 w = i + 1 := upD_ci _ _ _ _
    generalize upD (upD D 12 (w * 4 + i) kk) 11 w (i + 1) = D' at *
    obtain ⟨⟨u22, -, -⟩, kr2, -⟩ := g5.tok
    refine bX12_readsWord_128 (hS := m_isGood_g g5) (kk := ?_)
    rintro y h5 ⟨e5, hy⟩
    rw [e5, hy]; clear e5 h5 hy y
    refine bX12_readsWord_132 (kt := fun z => by omega) (kf := fun _ => ?_)
    refine bX12_readsWord_135 (kf := fun z => ?_) (kt := fun z => ?_)
    rotate_left
    · rw [if_pos (by omega)] at hr
      exact bX12_readsWord_143 (kk := bX12_readsWord_148 (kk := ih (i + 1) _ _ _ (by omega) (by omega) g5 D0' D2' D11' hr))
    · rw [if_neg (by omega)] at hr
      refine bX12_readsWord_147 (kk := bX12_readsWord_148 (kk := ?_))
      refine bX12_readsWord_60 (kf := fun z => absurd rfl z) (kt := fun _ => ?_)
      refine bX12_readsWord_152 (hS := m_isGood_g g5) (kk := ?_)
      rintro y h5 ⟨e5, hy⟩
      rw [e5, hy]; clear e5 h5 hy y
      refine bX12_readsWord_156 (kt := fun z => by omega) (kf := fun _ => bX12_readsWord_159 (kk := bX12_readsWord_169 (hq := ?_)))
      have f4 : h4 98 29 = w := by rw [← D2']; exact g5.cnt (i := 2) (by decide)
      rw [← hQ]
      refine ⟨rfl, rfl, Or.inl ⟨_, _, _, _, _, hr.symm, (g5.cw (by decide)).eqE ?_⟩⟩
      rw [f4, ← g5.2.2.2.2.1]
      exact dN_0 h4 (i := 2) (by decide)
end
