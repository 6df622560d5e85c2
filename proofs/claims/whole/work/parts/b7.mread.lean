/-! ===== the model's reader: a line of a text ===== -/
section
variable {h0 h : AH} {T : Int → Int} {n p a s m k q c : Int} {E : DT} {fr : Nat}
theorem gM.s35 (g : gM h0 h T n p E a s m) : gM h0 (up h 98 35 1) T n p E a 1 m := by
  obtain ⟨k, r, t, g17, gE, ga, gs, gm, g18⟩ := g
  exact ⟨k.w (Or.inr (by decide)), r, t.w (Or.inr (by decide)), by rw [up_cn (by decide)]; exact g17, by rw [dN_98n h (by decide)]; exact gE, by rw [up_cn (by decide)]; exact ga, by rw [up_ci], by rw [up_cn (by decide)]; exact gm, by rw [up_cn (by decide)]; exact g18⟩
theorem gM.s36 (g : gM h0 h T n p E a s m) : gM h0 (up h 98 36 1) T n p E a s 1 := by
  obtain ⟨k, r, t, g17, gE, ga, gs, gm, g18⟩ := g
  exact ⟨k.w (Or.inr (by decide)), r, t.w (Or.inr (by decide)), by rw [up_cn (by decide)]; exact g17, by rw [dN_98n h (by decide)]; exact gE, by rw [up_cn (by decide)]; exact ga, by rw [up_cn (by decide)]; exact gs, by rw [up_ci], by rw [up_cn (by decide)]; exact g18⟩
theorem l_end {h1 : AH} {res : RES} (hf : 4 ≤ fr) (ht : txM h0 T n) (pr : PR h0 h1 T n res) : Wp mX12_line (kR fr 0 0) (rV (fun h' => RM h0 h' T n res)) (0, 0) 312 [zR 98] [] 137 h1 := by
  rcases pr with ⟨p, E, a, s, m, er, g⟩ | ⟨k, q, c, er, b⟩
  · obtain ⟨⟨t22, t24, t25⟩, kr, -⟩ := g.tok
    rw [er]
    unfold endR
    refine bX12_line_312 (kt := fun z => bX12_line_325 (kk := ?_)) (kf := fun z => bX12_line_321 (kk := ?_))
    · rw [if_neg (by omega)]
      refine bX12_line_326 (hS := m_need_g (x := 0) (by omega) ht (Or.inl rfl) g) (kk := ?_)
      rintro h2 (⟨-, b⟩ | ⟨z, -⟩)
      · exact bX12_line_329 (hq := ⟨rfl, rfl, ⟨_, b⟩⟩)
      · omega
    · rw [if_pos (by omega)]
      refine bX12_line_326 (hS := m_need_g (x := 1) (by omega) ht (Or.inr rfl) g) (kk := ?_)
      rintro h2 (⟨z, -⟩ | ⟨-, b⟩)
      · omega
      · exact bX12_line_329 (hq := ⟨rfl, rfl, b⟩)
  · have t := b.tok ht.2.1.2
    rw [er]
    have go : ∀ x : Int, Wp mX12_line (kR fr 0 0) (rV (fun h' => RM h0 h' T n (.inl (k, q)))) (0, 0) 326 [none] [zI x, zR 98] 137 h1 := fun x =>
      bX12_line_326 (hS := m_need_b (x := x) (by omega) b) (kk := fun h2 b2 => bX12_line_329 (hq := ⟨rfl, rfl, ⟨_, b2⟩⟩))
    exact bX12_line_312 (kt := fun z => bX12_line_325 (kk := go 0)) (kf := fun z => bX12_line_321 (kk := go 1))
theorem l_sound (hf : 4 ≤ fr) (ho : okS E a s m) (ht : txM h0 T n) (g : gM h0 h T n p E a s m) : Wp mX12_line (kR fr 0 0) (rV (fun h' => RM h0 h' T n (rSound T n p E a s m))) (0, 0) 8 [zR 98] [] 137 h := by
  have d0 := ho.1.1
  have e27 : h 98 27 = E 0 0 := g.cnt (i := 0) (by decide)
  unfold rSound
  generalize hw : E 0 0 = w at *
  refine bX12_line_8 (kt := fun z => ?_) (kf := fun z => ?_)
  rotate_left
  · rw [if_pos (by omega)]
    refine bX12_line_17 (hS := m_wrong_g (by decide) g) (kk := fun h1 b1 => ?_)
    refine bX12_line_22 (hS := m_isGood_b b1) (kk := ?_)
    rintro y h3 ⟨e3, hy⟩
    rw [e3, hy]; clear e3 h3 hy y
    exact bX12_line_26 (kt := fun z => absurd rfl z) (kf := fun _ => bX12_line_29 (hq := ⟨rfl, rfl, ⟨_, b1⟩⟩))
  rw [if_neg (by omega)]
  refine bX12_line_22 (hS := m_isGood_g g) (kk := ?_)
  rintro y h3 ⟨e3, hy⟩
  rw [e3, hy]; clear e3 h3 hy y
  refine bX12_line_26 (kf := fun z => by omega) (kt := fun _ => ?_)
  refine bX12_line_30 (hS := m_steps_g (by omega) ht g) (kk := fun h1 g1 => ?_)
  have f27 : h1 98 27 = w := by rw [← hw]; exact g1.cnt (i := 0) (by decide)
  refine bX12_line_34 (hS := m_number_g (by omega) ht R32_1 (R32_z (by decide)) g1) (kk := ?_)
  rw [f27]
  rintro x h2 (⟨n1, hx, g2⟩ | ⟨n1, b2⟩)
  rotate_left
  · rw [numK_no n1]
    have b3 := b2.w (c' := 108) (i := 2 * w) (v := x) (by decide)
    have b27 := b3.2.2.2.2.2
    rw [hw] at b27
    refine bX12_line_51 (c1 := e108) (r1 := by omega) (hS := m_number_b (by omega) b3) (kk := ?_)
    rintro y h3 ⟨e3, hy⟩
    rw [e3, b27]; clear e3 h3
    have b4 := b3.w (c' := 108) (i := 2 * w + 1) (v := y) (by decide)
    refine bX12_line_70 (c1 := e108) (r1 := by omega) (hS := m_isGood_b b4) (kk := ?_)
    rintro y h3 ⟨e3, hy⟩
    rw [e3, hy]; clear e3 h3
    exact bX12_line_75 (kf := fun z => absurd rfl z) (kt := fun _ => l_end hf ht (Or.inr ⟨_, _, _, rfl, b4⟩))
  rw [numK_ok n1, hx]; clear hx x
  have g3 := (g2.w (c := 108) (i := 2 * w) (v := vl T n (bh T n p)) (by decide)).eqE (F := upD E 1 w (vl T n (bh T n p))) (by rw [dN_1, g2.2.2.2.2.1])
  have k27 : (up h2 108 (2 * w) (vl T n (bh T n p))) 98 27 = w := by rw [up_n (by decide), ← hw]; exact g2.cnt (i := 0) (by decide)
  refine bX12_line_51 (c1 := e108) (r1 := by omega) (hS := m_number_g (by omega) ht R32_0 (R32_z (by decide)) g3) (kk := ?_)
  rw [k27]
  rintro x h4 (⟨n2, hx, g4⟩ | ⟨n2, b4⟩)
  rotate_left
  · rw [numK_no n2]
    have b5 := b4.w (c' := 108) (i := 2 * w + 1) (v := x) (by decide)
    refine bX12_line_70 (c1 := e108) (r1 := by omega) (hS := m_isGood_b b5) (kk := ?_)
    rintro y h5 ⟨e5, hy⟩
    rw [e5, hy]; clear e5 h5
    exact bX12_line_75 (kf := fun z => absurd rfl z) (kt := fun _ => l_end hf ht (Or.inr ⟨_, _, _, rfl, b5⟩))
  rw [numK_ok n2, hx]; clear hx x
  have g5 := (g4.w (c := 108) (i := 2 * w + 1) (v := vl T n (bh T n (bh T n p))) (by decide)).eqE (F := upD (upD E 1 w (vl T n (bh T n p))) 2 w (vl T n (bh T n (bh T n p)))) (by rw [dN_2, g4.2.2.2.2.1])
  refine bX12_line_70 (c1 := e108) (r1 := by omega) (hS := m_isGood_g g5) (kk := ?_)
  rintro y h5 ⟨e5, hy⟩
  rw [e5, hy]; clear e5 h5
  refine bX12_line_75 (kt := fun z => by omega) (kf := fun _ => bX12_line_78 (kk := ?_))
  have k5 := g5.cnt (i := 0) (by decide)
  rw [upD_n (by decide), upD_n (by decide), hw] at k5
  generalize (up h4 108 (2 * w + 1) (vl T n (bh T n (bh T n p)))) = h6 at *
  refine l_end hf ht (Or.inl ⟨_, _, _, _, _, rfl, (g5.cw (by decide)).eqE ?_⟩)
  rw [show (27 : Int) = 0 + 27 from rfl, k5, dN_0 h6 (by decide), g5.2.2.2.2.1]
theorem l_straight (hf : 4 ≤ fr) (ho : okS E a s m) (ht : txM h0 T n) (g : gM h0 h T n p E a s m) : Wp mX12_line (kR fr 0 0) (rV (fun h' => RM h0 h' T n (rStraight T n p E a s m))) (0, 0) 114 [zR 98] [] 137 h := by
  have s0 := ho.2.2.1
  have e35 : h 98 35 = s := g.2.2.2.2.2.2.1
  unfold rStraight
  refine bX12_line_114 (kt := fun z => ?_) (kf := fun z => ?_)
  rotate_left
  · rw [if_pos (by omega)]
    refine bX12_line_121 (hS := m_wrong_g (by decide) g) (kk := fun h1 b1 => ?_)
    refine bX12_line_126 (hS := m_isGood_b b1) (kk := ?_)
    rintro y h3 ⟨e3, hy⟩
    rw [e3, hy]; clear e3 h3 hy y
    exact bX12_line_130 (kt := fun z => absurd rfl z) (kf := fun _ => bX12_line_133 (hq := ⟨rfl, rfl, ⟨_, b1⟩⟩))
  rw [if_neg (by omega)]
  refine bX12_line_126 (hS := m_isGood_g g) (kk := ?_)
  rintro y h3 ⟨e3, hy⟩
  rw [e3, hy]; clear e3 h3 hy y
  refine bX12_line_130 (kf := fun z => by omega) (kt := fun _ => ?_)
  refine bX12_line_134 (hS := m_steps_g (by omega) ht g.s35) (kk := fun h1 g1 => ?_)
  refine bX12_line_143 (hS := m_number_g (by omega) ht R32_0 (R32_z (by decide)) g1) (kk := ?_)
  rintro x h2 (⟨n1, hx, g2⟩ | ⟨n1, b2⟩)
  rotate_left
  · rw [numK_no n1]
    have b3 := b2.w (c' := 112) (i := 1) (v := x) (by decide)
    refine bX12_line_155 (c1 := e112) (hS := m_number_b (by omega) b3) (kk := ?_)
    rintro y h3 ⟨e3, hy⟩
    rw [e3]; clear e3 h3
    exact bX12_line_168 (c1 := e112) (kk := l_end hf ht (Or.inr ⟨_, _, _, rfl, b3.w (by decide)⟩))
  rw [numK_ok n1, hx]; clear hx x
  have g3 := (g2.w (c := 112) (i := 1) (v := vl T n (bh T n p)) (by decide)).eqE (F := upD E 8 1 (vl T n (bh T n p))) (by rw [dN_8, g2.2.2.2.2.1])
  refine bX12_line_155 (c1 := e112) (hS := m_number_g (by omega) ht R32_0 (R32_z (by decide)) g3) (kk := ?_)
  rintro x h4 (⟨n2, hx, g4⟩ | ⟨n2, b4⟩)
  rotate_left
  · rw [numK_no n2]
    exact bX12_line_168 (c1 := e112) (kk := l_end hf ht (Or.inr ⟨_, _, _, rfl, b4.w (by decide)⟩))
  rw [numK_ok n2, hx]; clear hx x
  refine bX12_line_168 (c1 := e112) (kk := l_end hf ht (Or.inl ⟨_, _, _, _, _, rfl, (g4.w (by decide)).eqE ?_⟩))
  rw [dN_8, g4.2.2.2.2.1]
theorem l_mask (hf : 4 ≤ fr) (ho : okS E a s m) (ht : txM h0 T n) (g : gM h0 h T n p E a s m) : Wp mX12_line (kR fr 0 0) (rV (fun h' => RM h0 h' T n (rMask T n p E a s m))) (0, 0) 195 [zR 98] [] 137 h := by
  have s0 := ho.2.2.2
  have e36 : h 98 36 = m := g.2.2.2.2.2.2.2.1
  unfold rMask
  refine bX12_line_195 (kt := fun z => ?_) (kf := fun z => ?_)
  rotate_left
  · rw [if_pos (by omega)]
    refine bX12_line_202 (hS := m_wrong_g (by decide) g) (kk := fun h1 b1 => ?_)
    refine bX12_line_207 (hS := m_isGood_b b1) (kk := ?_)
    rintro y h3 ⟨e3, hy⟩
    rw [e3, hy]; clear e3 h3 hy y
    exact bX12_line_211 (kt := fun z => absurd rfl z) (kf := fun _ => bX12_line_214 (hq := ⟨rfl, rfl, ⟨_, b1⟩⟩))
  rw [if_neg (by omega)]
  refine bX12_line_207 (hS := m_isGood_g g) (kk := ?_)
  rintro y h3 ⟨e3, hy⟩
  rw [e3, hy]; clear e3 h3 hy y
  refine bX12_line_211 (kf := fun z => by omega) (kt := fun _ => ?_)
  refine bX12_line_215 (hS := m_steps_g (by omega) ht g.s36) (kk := fun h1 g1 => ?_)
  refine bX12_line_224 (hS := m_number_g (by omega) ht R32_1 (R32_z (by decide)) g1) (kk := ?_)
  rintro x h2 (⟨n1, hx, g2⟩ | ⟨n1, b2⟩)
  rotate_left
  · rw [numK_no n1]
    have b3 := b2.cw (i := 31) (v := x) (by decide)
    refine bX12_line_232 (hS := m_number_b (by omega) b3) (kk := ?_)
    rintro y h3 ⟨e3, hy⟩
    rw [e3]; clear e3 h3
    have b4 := b3.cw (i := 32) (v := y) (by decide)
    refine bX12_line_243 (hS := m_number_b (by omega) b4) (kk := ?_)
    rintro y h3 ⟨e3, hy⟩
    rw [e3]; clear e3 h3
    exact bX12_line_254 (kk := l_end hf ht (Or.inr ⟨_, _, _, rfl, b4.cw (by decide)⟩))
  rw [numK_ok n1, hx]; clear hx x
  have g3 := (g2.cw (i := 31) (v := vl T n (bh T n p)) (by decide)).eqE (F := upD E 0 4 (vl T n (bh T n p))) (by rw [show (31 : Int) = 4 + 27 from rfl, dN_0 _ (by decide), g2.2.2.2.2.1])
  refine bX12_line_232 (hS := m_number_g (by omega) ht R32_0 (R32_z (by decide)) g3) (kk := ?_)
  rintro x h4 (⟨n2, hx, g4⟩ | ⟨n2, b4⟩)
  rotate_left
  · rw [numK_no n2]
    have b5 := b4.cw (i := 32) (v := x) (by decide)
    refine bX12_line_243 (hS := m_number_b (by omega) b5) (kk := ?_)
    rintro y h3 ⟨e3, hy⟩
    rw [e3]; clear e3 h3
    exact bX12_line_254 (kk := l_end hf ht (Or.inr ⟨_, _, _, rfl, b5.cw (by decide)⟩))
  rw [numK_ok n2, hx]; clear hx x
  have g5 := (g4.cw (i := 32) (v := vl T n (bh T n (bh T n p))) (by decide)).eqE (F := upD (upD E 0 4 (vl T n (bh T n p))) 0 5 (vl T n (bh T n (bh T n p)))) (by rw [show (32 : Int) = 5 + 27 from rfl, dN_0 _ (by decide), g4.2.2.2.2.1])
  refine bX12_line_243 (hS := m_number_g (by omega) ht R32_0 (R32_z (by decide)) g5) (kk := ?_)
  rintro x h6 (⟨n3, hx, g6⟩ | ⟨n3, b6⟩)
  rotate_left
  · rw [numK_no n3]
    exact bX12_line_254 (kk := l_end hf ht (Or.inr ⟨_, _, _, rfl, b6.cw (by decide)⟩))
  rw [numK_ok n3, hx]; clear hx x
  refine bX12_line_254 (kk := l_end hf ht (Or.inl ⟨_, _, _, _, _, rfl, (g6.cw (by decide)).eqE ?_⟩))
  rw [show (33 : Int) = 6 + 27 from rfl, dN_0 _ (by decide), g6.2.2.2.2.1]
theorem m_lineP (hf : 4 ≤ fr) (ho : okS E a s m) (ht : txM h0 T n) (g : gM h0 h T n p E a s m) : Sp mX12_line true fr 0 0 [zR 98] 137 h (rV (fun h' => RM h0 h' T n (rLine T n p E a s m))) := by
  refine Sp.mk yX12_line_ok rfl rfl ?_
  unfold rLine
  refine bX12_line_0 (hS := m_is_g (j := 0) (i := 0) (by omega) (by decide) ht g) (kk := ?_)
  rintro y h3 ⟨e3, hy⟩
  rw [e3]; clear e3 h3
  rcases hy with ⟨ey, hy⟩ | ⟨ey, hy⟩
  · rw [ey, if_pos (cl_pos hy)]
    exact bX12_line_5 (kt := fun z => by omega) (kf := fun _ => l_sound hf ho ht g)
  rw [ey, if_neg (by rw [cl_neg hy]; decide)]
  refine bX12_line_5 (kf := fun z => absurd rfl z) (kt := fun _ => ?_)
  clear ey hy y
  refine bX12_line_91 (hS := m_is_g (j := 1) (i := 1) (by omega) (by decide) ht g) (kk := ?_)
  rintro y h3 ⟨e3, hy⟩
  rw [e3]; clear e3 h3
  rcases hy with ⟨ey, hy⟩ | ⟨ey, hy⟩
  · rw [ey, if_pos (cl_pos hy)]
    exact bX12_line_96 (kt := fun z => by omega) (kf := fun _ => bX12_line_99 (hS := m_readsWall (by omega) ho.1 ht g) (kk := fun h1 r1 => bX12_line_103 (kk := l_end hf ht r1)))
  rw [ey, if_neg (by rw [cl_neg hy]; decide)]
  refine bX12_line_96 (kf := fun z => absurd rfl z) (kt := fun _ => ?_)
  clear ey hy y
  refine bX12_line_106 (hS := m_is_g (j := 2) (i := 4) (by omega) (by decide) ht g) (kk := ?_)
  rintro y h3 ⟨e3, hy⟩
  rw [e3]; clear e3 h3
  rcases hy with ⟨ey, hy⟩ | ⟨ey, hy⟩
  · rw [ey, if_pos (cl_pos hy)]
    exact bX12_line_111 (kt := fun z => by omega) (kf := fun _ => l_straight hf ho ht g)
  rw [ey, if_neg (by rw [cl_neg hy]; decide)]
  refine bX12_line_111 (kf := fun z => absurd rfl z) (kt := fun _ => ?_)
  clear ey hy y
  refine bX12_line_172 (hS := m_is_g (j := 3) (i := 5) (by omega) (by decide) ht g) (kk := ?_)
  rintro y h3 ⟨e3, hy⟩
  rw [e3]; clear e3 h3
  rcases hy with ⟨ey, hy⟩ | ⟨ey, hy⟩
  · rw [ey, if_pos (cl_pos hy)]
    exact bX12_line_177 (kt := fun z => by omega) (kf := fun _ => bX12_line_180 (hS := m_readsAir (by omega) ho.2.1 ht g) (kk := fun h1 r1 => bX12_line_184 (kk := l_end hf ht r1)))
  rw [ey, if_neg (by rw [cl_neg hy]; decide)]
  refine bX12_line_177 (kf := fun z => absurd rfl z) (kt := fun _ => ?_)
  clear ey hy y
  refine bX12_line_187 (hS := m_is_g (j := 4) (i := 6) (by omega) (by decide) ht g) (kk := ?_)
  rintro y h3 ⟨e3, hy⟩
  rw [e3]; clear e3 h3
  rcases hy with ⟨ey, hy⟩ | ⟨ey, hy⟩
  · rw [ey, if_pos (cl_pos hy)]
    exact bX12_line_192 (kt := fun z => by omega) (kf := fun _ => l_mask hf ho ht g)
  rw [ey, if_neg (by rw [cl_neg hy]; decide)]
  refine bX12_line_192 (kf := fun z => absurd rfl z) (kt := fun _ => ?_)
  clear ey hy y
  refine bX12_line_260 (hS := m_is_g (j := 5) (i := 7) (by omega) (by decide) ht g) (kk := ?_)
  rintro y h3 ⟨e3, hy⟩
  rw [e3]; clear e3 h3
  rcases hy with ⟨ey, hy⟩ | ⟨ey, hy⟩
  · rw [ey, if_pos (cl_pos hy)]
    exact bX12_line_265 (kt := fun z => by omega) (kf := fun _ => bX12_line_268 (hS := m_readsSweet (by omega) ho.1 ht g) (kk := fun h1 r1 => bX12_line_272 (kk := l_end hf ht r1)))
  rw [ey, if_neg (by rw [cl_neg hy]; decide)]
  refine bX12_line_265 (kf := fun z => absurd rfl z) (kt := fun _ => ?_)
  clear ey hy y
  refine bX12_line_275 (hS := m_is_g (j := 6) (i := 8) (by omega) (by decide) ht g) (kk := ?_)
  rintro y h3 ⟨e3, hy⟩
  rw [e3]; clear e3 h3
  rcases hy with ⟨ey, hy⟩ | ⟨ey, hy⟩
  · rw [ey, if_pos (cl_pos hy)]
    exact bX12_line_281 (kt := fun z => by omega) (kf := fun _ => bX12_line_284 (hS := m_readsWord (by omega) ho.1 ht g) (kk := fun h1 r1 => bX12_line_288 (kk := l_end hf ht r1)))
  rw [ey, if_neg (by rw [cl_neg hy]; decide)]
  refine bX12_line_281 (kf := fun z => absurd rfl z) (kt := fun _ => ?_)
  clear ey hy y
  refine bX12_line_291 (hS := m_is_g (j := 7) (i := 9) (by omega) (by decide) ht g) (kk := ?_)
  rintro y h3 ⟨e3, hy⟩
  rw [e3]; clear e3 h3
  rcases hy with ⟨ey, hy⟩ | ⟨ey, hy⟩
  · rw [ey, if_pos (cl_pos hy)]
    exact bX12_line_297 (kt := fun z => by omega) (kf := fun _ => bX12_line_300 (hS := m_readsForm (by omega) ho.1 ht g) (kk := fun h1 r1 => bX12_line_304 (kk := l_end hf ht r1)))
  rw [ey, if_neg (by rw [cl_neg hy]; decide)]
  refine bX12_line_297 (kf := fun z => absurd rfl z) (kt := fun _ => ?_)
  exact bX12_line_307 (hS := m_wrong_g (by decide) g) (kk := fun h1 b1 => l_end hf ht (Or.inr ⟨_, _, _, rfl, b1⟩))
end
