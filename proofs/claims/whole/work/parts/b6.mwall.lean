/-! ===== the model's reader: wall ===== -/
def pop4 (x : Int) : Int := x % 2 + x / 2 % 2 + x / 4 % 2 + x / 8 % 2
theorem pop4_fin : ∀ x : Fin 16, ∀ v : Fin 4, bt (x.val : Int) v.val = false → pop4 (bOr (x.val : Int) (1 * 2 ^ v.val)) = pop4 (x.val : Int) + 1 := by decide +kernel
theorem pop4_set {x v : Int} (hx : 0 ≤ x ∧ x < 16) (hv : 0 ≤ v ∧ v ≤ 3) (b : ¬ bt x v.toNat = true) : pop4 (bOr x (1 * 2 ^ v.toNat)) = pop4 x + 1 := by
  obtain ⟨y, rfl⟩ : ∃ y : Nat, x = y := ⟨x.toNat, by omega⟩
  exact pop4_fin ⟨y, by omega⟩ ⟨v.toNat, by omega⟩ (by simpa using b)
theorem pop4_le (x : Int) : pop4 x ≤ 4 := by unfold pop4; omega
section
variable {h0 h : AH} {T : Int → Int} {n p a s m k q c : Int} {E : DT} {fr : Nat}
theorem m_is_g {j i : Nat} (hf : 2 ≤ fr) (hj : j < 10 ∧ mW.getD j 0 = i) (ht : txM h0 T n) (g : gM h0 h T n p E a s m) : Sp mX12_is true fr 0 0 [zR 98, zI j] 137 h (rI (fun x h' => h' = h ∧ ((x = 1 ∧ spl T n p (SW i)) ∨ (x = 0 ∧ ¬ spl T n p (SW i))))) := by
  rw [← hj.2]
  exact m_is hf hj.1 g.2.1.2 ht.2.1 g.2.1.1 g.2.2.1
theorem m_readsWall (hf : 3 ≤ fr) (hd : okD E) (ht : txM h0 T n) (g : gM h0 h T n p E a s m) : Sp mX12_readsWall true fr 0 0 [zR 98] 137 h (rV (fun h' => PR h0 h' T n (rWall T n p E a s m))) := by
  refine Sp.mk yX12_readsWall_ok rfl rfl ?_
  have tn := ht.2.1
  have d1 := hd.2.1
  have e28 : h 98 28 = E 0 1 := g.cnt (i := 1) (by decide)
  unfold rWall
  generalize hw : E 0 1 = w at *
  generalize hres : (if 6 ≤ w then .inl (2, pl T n p) else
  numK T n (bh T n p) 1 40 fun x => numK T n (bh T n (bh T n p)) 1 40 fun y => numK T n (bh T n (bh T n (bh T n p))) 1 40 fun z => numK T n (bh T n (bh T n (bh T n (bh T n p)))) 0 100 fun v =>
    if cl (spl T n (bh T n (bh T n (bh T n (bh T n (bh T n p))))) (SW 2)) = true then swL T n w (agR T n w a s m) 5 (bh T n (bh T n (bh T n (bh T n (bh T n (bh T n p)))))) (wallE E w x y z v) else agR T n w a s m (bh T n (bh T n (bh T n (bh T n (bh T n p))))) (wallE E w x y z v)) = res
  generalize hQ : (rV (fun h' : AH => PR h0 h' T n res)) = Q
  have b262 : ∀ (h2 : AH) (k q c : Int) (x1 x2 x3 : AV), res = .inl (k, q) → bdM h0 h2 T n k q c → Wp mX12_readsWall (kR fr 0 0) Q (0, 0) 262 [zR 98, x1, x2, x3] [] 137 h2 := fun h2 k q c _ _ _ er b => by
    refine bX12_readsWall_262 (hS := m_isGood_b b) (kk := ?_)
    rintro x h3 ⟨e3, hx⟩
    rw [e3, hx]; clear e3 h3 hx x
    refine bX12_readsWall_266 (kf := fun z => absurd rfl z) (kt := fun _ => bX12_readsWall_279 (hq := ?_))
    rw [← hQ]
    exact ⟨rfl, rfl, Or.inr ⟨_, _, _, er, b⟩⟩
  have b228 : ∀ (h2 : AH) (k q c l1 : Int) (x2 x3 : AV), res = .inl (k, q) → bdM h0 h2 T n k q c → Wp mX12_readsWall (kR fr 0 0) Q (0, 0) 228 [zR 98, zI l1, x2, x3] [] 137 h2 := fun h2 k q c _ _ _ er b => by
    refine bX12_readsWall_228 (hS := m_isGood_b b) (kk := ?_)
    rintro x h3 ⟨e3, hx⟩
    rw [e3, hx]; clear e3 h3 hx x
    exact bX12_readsWall_232 (kf := fun z => absurd rfl z) (kt := fun _ => b262 h2 _ _ _ _ _ _ er b)
  have b204 : ∀ (h2 : AH) (k q c l1 : Int) (x2 x3 : AV), res = .inl (k, q) → bdM h0 h2 T n k q c → Wp mX12_readsWall (kR fr 0 0) Q (0, 0) 204 [zR 98, zI l1, x2, x3] [] 137 h2 := fun h2 k q c _ _ _ er b => by
    refine bX12_readsWall_204 (hS := m_isGood_b b) (kk := ?_)
    rintro x h3 ⟨e3, hx⟩
    rw [e3, hx]; clear e3 h3 hx x
    refine bX12_readsWall_208 (kf := fun z => absurd rfl z) (kt := fun _ => bX12_readsWall_223 (kk := bX12_readsWall_224 (kk := ?_)))
    exact bX12_readsWall_117 (kf := fun z => absurd rfl z) (kt := fun _ => b228 h2 _ _ _ _ _ _ er b)
  have b182 : ∀ (h2 : AH) (k q c l1 x : Int) (x2 x3 : AV), res = .inl (k, q) → bdM h0 h2 T n k q c → Wp mX12_readsWall (kR fr 0 0) Q (0, 0) 182 [zR 98, zI l1, x2, x3] [zI x] 137 h2 := fun h2 k q c _ _ _ _ er b => by
    refine bX12_readsWall_182 (hS := m_isGood_b b) (kk := ?_)
    rintro y h3 ⟨e3, hy⟩
    rw [e3, hy]; clear e3 h3 hy y
    exact bX12_readsWall_187 (kf := fun z => absurd rfl z) (kt := fun _ => b204 h2 _ _ _ _ _ _ er b)
  refine bX12_readsWall_0 (kt := fun z => ?_) (kf := fun z => ?_)
  rotate_left
  · refine bX12_readsWall_9 (hS := m_wrong_g (by decide) g) (kk := fun h1 b1 => ?_)
    refine bX12_readsWall_14 (hS := m_isGood_b b1) (kk := ?_)
    rintro y h3 ⟨e3, hy⟩
    rw [e3, hy]; clear e3 h3 hy y
    refine bX12_readsWall_18 (kt := fun z => absurd rfl z) (kf := fun _ => bX12_readsWall_21 (hq := ?_))
    rw [← hQ]
    exact ⟨rfl, rfl, Or.inr ⟨_, _, _, by rw [← hres, if_pos (by omega)], b1⟩⟩
  rw [if_neg (by omega)] at hres
  refine bX12_readsWall_14 (hS := m_isGood_g g) (kk := ?_)
  rintro y h3 ⟨e3, hy⟩
  rw [e3, hy]; clear e3 h3 hy y
  refine bX12_readsWall_18 (kf := fun z => by omega) (kt := fun _ => ?_)
  refine bX12_readsWall_22 (hS := m_steps_g (by omega) ht g) (kk := ?_)
  intro h1 g1
  have f28 : h1 98 28 = w := by rw [← hw]; exact g1.cnt (i := 1) (by decide)
  refine bX12_readsWall_26 (kk := ?_)
  rw [f28]
  have b76 : ∀ (h2 : AH) (k q c x : Int) (x2 x3 : AV), res = .inl (k, q) → bdM h0 h2 T n k q c → Wp mX12_readsWall (kR fr 0 0) Q (0, 0) 76 [zR 98, zI (6 * w), x2, x3] [zI x, zI (6 * w + 3), zR 109] 137 h2 := fun h2 k q c x _ _ er b => by
    have b3 := ((b.w (c' := 109) (i := 6 * w + 3) (v := x) (by decide)).w (c' := 109) (i := 6 * w + 4) (v := 0) (by decide)).w (c' := 109) (i := 6 * w + 5) (v := 1) (by decide)
    refine bX12_readsWall_76 (c1 := e109) (r1 := by omega) (r2 := by omega) (r3 := by omega) (hS := m_isGood_b b3) (kk := ?_)
    rintro y h3 ⟨e3, hy⟩
    rw [e3, hy]; clear e3 h3 hy y
    exact bX12_readsWall_99 (kf := fun z => absurd rfl z) (kt := fun _ => b228 _ _ _ _ _ _ _ er b3)
  have b36 : ∀ (d : Nat) (e : Int) (h2 : AH) (k q c : Int) (x3 : AV), e + d = 3 → 0 ≤ e → res = .inl (k, q) → bdM h0 h2 T n k q c → Wp mX12_readsWall (kR fr 0 0) Q (0, 0) 36 [zR 98, zI (6 * w), zI e, x3] [] 137 h2 := by
    intro d
    induction d with
    | zero =>
      intro e h2 k q c _ he e0 er b
      refine bX12_readsWall_36 (kf := fun z => by omega) (kt := fun _ => ?_)
      refine bX12_readsWall_62 (hS := m_number_b (by omega) b) (kk := ?_)
      rintro y h3 ⟨e3, hy⟩
      rw [e3]
      exact b76 h2 _ _ _ _ _ _ er b
    | succ d ih =>
      intro e h2 k q c _ he e0 er b
      refine bX12_readsWall_36 (kt := fun z => by omega) (kf := fun _ => ?_)
      refine bX12_readsWall_41 (hS := m_number_b (by omega) b) (kk := ?_)
      rintro y h3 ⟨e3, hy⟩
      rw [e3]
      exact bX12_readsWall_55 (c1 := e109) (r1 := by omega) (kk := ih (e + 1) _ _ _ _ _ (by omega) (by omega) er (b.w (by decide)))
  -- one delay
  have ear : ∀ (d : Nat) (e : Int) (h2 : AH) (q : Int) (E1 : DT) (K : Int → RES) (x3 : AV), e + d = 2 → 0 ≤ e → gM h0 h2 T n q E1 a s m → numK T n q 1 40 K = res → (∀ h3 : AH, gM h0 h3 T n (bh T n q) (upD E1 4 (w * 3 + e) (vl T n q)) a s m → K (vl T n q) = res → ∀ x3 : AV, Wp mX12_readsWall (kR fr 0 0) Q (0, 0) 36 [zR 98, zI (6 * w), zI (e + 1), x3] [] 137 h3) → Wp mX12_readsWall (kR fr 0 0) Q (0, 0) 36 [zR 98, zI (6 * w), zI e, x3] [] 137 h2 := by
    intro d e h2 q E1 K x3 he e0 g2 hK go
    refine bX12_readsWall_36 (kt := fun z => by omega) (kf := fun _ => ?_)
    refine bX12_readsWall_41 (hS := m_number_g (by omega) ht R32_1 (R32_z (by decide)) g2) (kk := ?_)
    rintro x h3 (⟨n1, hx, g3⟩ | ⟨n1, b3⟩)
    rotate_left
    · exact bX12_readsWall_55 (c1 := e109) (r1 := by omega) (kk := b36 d (e + 1) _ _ _ _ _ (by omega) (by omega) (by rw [← hK]; exact numK_no n1) (b3.w (by decide)))
    rw [numK_ok n1] at hK
    rw [hx]
    refine bX12_readsWall_55 (c1 := e109) (r1 := by omega) (kk := go _ ((g3.w (by decide)).eqE ?_) hK _)
    rw [dN_4 _ (by omega), g3.2.2.2.2.1]
  refine ear 2 0 h1 _ _ _ _ (by decide) (by decide) g1 hres (fun h2 g2 hres x3 => ?_)
  refine ear 1 1 h2 _ _ _ _ (by decide) (by decide) g2 hres (fun h3 g3 hres x3 => ?_)
  refine ear 0 2 h3 _ _ _ _ (by decide) (by decide) g3 hres (fun h4 g4 hres x3 => ?_)
  refine bX12_readsWall_36 (kf := fun z => by omega) (kt := fun _ => ?_)
  refine bX12_readsWall_62 (hS := m_number_g (by omega) ht R32_0 (R32_z (by decide)) g4) (kk := ?_)
  rintro x h5 (⟨n4, hx, g5⟩ | ⟨n4, b5⟩)
  rotate_left
  · exact b76 h5 _ _ _ _ _ _ (by rw [← hres]; exact numK_no n4) b5
  rw [numK_ok n4] at hres
  rw [hx]; clear hx x
  have g6 := (((g5.w (c := 109) (i := 6 * w + 3) (v := vl T n (bh T n (bh T n (bh T n (bh T n p))))) (by decide)).w (c := 109) (i := 6 * w + 4) (v := 0) (by decide)).w (c := 109) (i := 6 * w + 5) (v := 1) (by decide))
  rw [dN_7, dN_6, dN_5, g5.2.2.2.2.1] at g6
  refine bX12_readsWall_76 (c1 := e109) (r1 := by omega) (r2 := by omega) (r3 := by omega) (hS := m_isGood_g g6) (kk := ?_)
  rintro y h3 ⟨e3, hy⟩
  rw [e3, hy]; clear e3 h3 hy y
  generalize up (up (up h5 109 (6 * w + 3) (vl T n (bh T n (bh T n (bh T n (bh T n p)))))) 109 (6 * w + 4) 0) 109 (6 * w + 5) 1 = h6 at *
  unfold wallE at hres
  generalize hDD : upD (upD (upD (upD (upD (upD E 4 (w * 3 + 0) (vl T n (bh T n p))) 4 (w * 3 + 1) (vl T n (bh T n (bh T n p)))) 4 (w * 3 + 2) (vl T n (bh T n (bh T n (bh T n p))))) 5 w (vl T n (bh T n (bh T n (bh T n (bh T n p)))))) 6 w 0) 7 w 1 = DD at *
  have D1 : DD 0 1 = w := by rw [← hDD, ← hw]; rfl
  have D6 : DD 6 w = 0 := by rw [← hDD, upD_n (by decide), upD_ci]
  generalize bh T n (bh T n (bh T n (bh T n (bh T n p)))) = p5 at *
  clear g1 g2 g3 g4 g5 hDD
  -- again, the end
  have fin : ∀ (h7 : AH) (q : Int) (D : DT) (x1 x2 x3 : AV), gM h0 h7 T n q D a s m → D 0 1 = w → endR T n q (upD D 0 1 (w + 1)) a s m = res → Wp mX12_readsWall (kR fr 0 0) Q (0, 0) 262 [zR 98, x1, x2, x3] [] 137 h7 := fun h7 q D _ _ _ g7 D1 er => by
    refine bX12_readsWall_262 (hS := m_isGood_g g7) (kk := ?_)
    rintro y h3 ⟨e3, hy⟩
    rw [e3, hy]; clear e3 h3 hy y
    refine bX12_readsWall_266 (kt := fun z => by omega) (kf := fun _ => bX12_readsWall_269 (kk := bX12_readsWall_279 (hq := ?_)))
    have f4 : h7 98 28 = w := by rw [← D1]; exact g7.cnt (i := 1) (by decide)
    rw [← hQ]
    refine ⟨rfl, rfl, Or.inl ⟨_, _, _, _, _, er.symm, (g7.cw (by decide)).eqE ?_⟩⟩
    rw [f4, ← g7.2.2.2.2.1]
    exact dN_0 h7 (i := 1) (by decide)
  have tail : ∀ (h7 : AH) (q : Int) (D : DT) (x2 x3 : AV), gM h0 h7 T n q D a s m → D 0 1 = w → agR T n w a s m q (upD D 0 1 (w + 1)) = res → Wp mX12_readsWall (kR fr 0 0) Q (0, 0) 228 [zR 98, zI (6 * w), x2, x3] [] 137 h7 := fun h7 q D _ _ g7 D1 er => by
    unfold agR at er
    refine bX12_readsWall_228 (hS := m_isGood_g g7) (kk := ?_)
    rintro y h3 ⟨e3, hy⟩
    rw [e3, hy]; clear e3 h3 hy y
    refine bX12_readsWall_232 (kt := fun z => by omega) (kf := fun _ => ?_)
    refine bX12_readsWall_235 (hS := m_is_g (j := 9) (i := 3) (by omega) (by decide) ht g7) (kk := ?_)
    rintro y h3 ⟨e3, hy⟩
    rw [e3]; clear e3 h3
    rcases hy with ⟨ey, hy⟩ | ⟨ey, hy⟩
    rotate_left
    · rw [ey]
      rw [if_neg (by rw [cl_neg hy]; decide)] at er
      exact bX12_readsWall_241 (kf := fun z => absurd rfl z) (kt := fun _ => fin h7 _ _ _ _ _ g7 D1 er)
    rw [ey]
    rw [if_pos (cl_pos hy)] at er
    refine bX12_readsWall_241 (kt := fun z => by omega) (kf := fun _ => ?_)
    refine bX12_readsWall_244 (hS := m_steps_g (by omega) ht g7) (kk := fun h8 g8 => ?_)
    refine bX12_readsWall_248 (hS := m_number_g (by omega) ht R32_1 (R32_z (by decide)) g8) (kk := ?_)
    rintro x h9 (⟨n1, hx, g9⟩ | ⟨n1, b9⟩)
    rotate_left
    · exact bX12_readsWall_261 (c1 := e109) (r1 := by omega) (kk := b262 _ _ _ _ _ _ _ (by rw [← er]; exact numK_no n1) (b9.w (by decide)))
    rw [numK_ok n1, upD_comm D (k := 0) (k' := 7) (Or.inl (by decide))] at er
    rw [hx]
    refine bX12_readsWall_261 (c1 := e109) (r1 := by omega) (kk := fin _ _ _ _ _ _ ((g9.w (by decide)).eqE (F := upD D 7 w (vl T n (bh T n q))) ?_) (by rw [upD_n (by decide)]; exact D1) er)
    rw [dN_7, g9.2.2.2.2.1]
  refine bX12_readsWall_99 (kt := fun z => by omega) (kf := fun _ => ?_)
  refine bX12_readsWall_102 (hS := m_is_g (j := 8) (i := 2) (by omega) (by decide) ht g6) (kk := ?_)
  rintro y h3 ⟨e3, hy⟩
  rw [e3]; clear e3 h3
  rcases hy with ⟨ey, hy⟩ | ⟨ey, hy⟩
  rotate_left
  · rw [ey]
    rw [if_neg (by rw [cl_neg hy]; decide)] at hres
    exact bX12_readsWall_108 (kf := fun z => absurd rfl z) (kt := fun _ => tail h6 _ _ _ _ g6 D1 hres)
  rw [ey]
  rw [if_pos (cl_pos hy)] at hres
  refine bX12_readsWall_108 (kt := fun z => by omega) (kf := fun _ => ?_)
  refine bX12_readsWall_111 (hS := m_steps_g (by omega) ht g6) (kk := fun h7 g7 => bX12_readsWall_115 (kk := ?_))
  suffices L : ∀ (d : Nat) (h2 : AH) (q : Int) (D : DT) (x3 : AV), gM h0 h2 T n q D a s m → D 0 1 = w → (0 ≤ D 6 w ∧ D 6 w < 16) → pop4 (D 6 w) + d = 5 → swL T n w (agR T n w a s m) d q (upD D 0 1 (w + 1)) = res → Wp mX12_readsWall (kR fr 0 0) Q (0, 0) 117 [zR 98, zI (6 * w), zI 1, x3] [] 137 h2 by
    exact L 5 h7 _ _ _ g7 D1 (by rw [D6]; decide) (by rw [D6]; decide) hres
  clear hres g6 g7 D1 D6
  intro d
  induction d with
  | zero => intro h2 q D x3 gg D1 D6 hp; have := pop4_le (D 6 w); omega
  | succ d ih =>
    intro h2 q D x3 gg D1 D6 hp hr
    rw [swL, show (upD D 0 1 (w + 1)) 6 w = D 6 w from rfl] at hr
    have e6 : h2 109 (6 * w + 4) = D 6 w := gg.at (k := 6) (i := w) (by decide)
    obtain ⟨⟨t22, t24, t25⟩, kr, vr, pr1, pr2, pr3⟩ := gg.tok
    have p0 := gg.2.1
    have good : (numF T n q 0 3 = 0 → ¬ bt (D 6 w) (vl T n q).toNat = true) → ∀ x2 x3 : AV, Wp mX12_readsWall (kR fr 0 0) Q (0, 0) 176 [zR 98, zI (6 * w), x2, x3] [] 137 h2 := fun nb _ _ => by
      refine bX12_readsWall_176 (hS := m_number_g (by omega) ht R32_0 (R32_z (by decide)) gg) (kk := ?_)
      rintro x h3 (⟨n1, hx, g3⟩ | ⟨n1, b3⟩)
      rotate_left
      · exact b182 h3 _ _ _ _ _ _ _ (by rw [← hr]; exact numK_no n1) b3
      have bit := nb n1
      have v1 := (numF_ok n1).2.1
      rw [numK_ok n1, if_neg bit] at hr
      rw [hx]; clear hx x
      refine bX12_readsWall_182 (hS := m_isGood_g g3) (kk := ?_)
      rintro y h4 ⟨e4, hy⟩
      rw [e4, hy]; clear e4 h4 hy y
      refine bX12_readsWall_187 (kt := fun z => by omega) (kf := fun _ => ?_)
      have e6' : h3 109 (6 * w + 4) = D 6 w := g3.at (k := 6) (i := w) (by decide)
      refine bX12_readsWall_190 (r1 := by omega) (r2 := by omega) (kk := ?_)
      rw [e6']
      have bs := bit_set (x := D 6 w) (s := vl T n q) (N := 4) D6.1 (by exact D6.2) v1.1 (by omega) (by decide)
      have ps := pop4_set D6 v1 bit
      generalize bOr (D 6 w) (1 * 2 ^ (vl T n q).toNat) = x6 at *
      have g4 := (g3.w (c := 109) (i := 6 * w + 4) (v := x6) (by decide)).eqE (F := upD D 6 w x6) (by rw [dN_6, g3.2.2.2.2.1])
      rw [upD_comm D (k := 0) (k' := 6) (Or.inl (by decide))] at hr
      have D1' : (upD D 6 w x6) 0 1 = w := by rw [upD_n (by decide)]; exact D1
      have D6' : (upD D 6 w x6) 6 w = x6 := upD_ci _ _ _ _
      obtain ⟨⟨u22, -, -⟩, kr2, -⟩ := g4.tok
      refine bX12_readsWall_204 (hS := m_isGood_g g4) (kk := ?_)
      rintro y h5 ⟨e5, hy⟩
      rw [e5, hy]; clear e5 h5 hy y
      refine bX12_readsWall_208 (kt := fun z => by omega) (kf := fun _ => ?_)
      refine bX12_readsWall_211 (kf := fun z => ?_) (kt := fun z => ?_)
      rotate_left
      · rw [if_pos (by omega)] at hr
        exact bX12_readsWall_219 (kk := bX12_readsWall_224 (kk := ih _ _ _ _ g4 D1' (by rw [D6']; exact ⟨bs.2.1, bs.2.2.1⟩) (by rw [D6', ps]; omega) hr))
      · rw [if_neg (by omega)] at hr
        refine bX12_readsWall_223 (kk := bX12_readsWall_224 (kk := ?_))
        exact bX12_readsWall_117 (kf := fun z => absurd rfl z) (kt := fun _ => tail _ _ _ _ _ g4 D1' hr)
    have n0 : ∀ {z : Prop}, (kd T n q ≠ 2 ∨ 4 < bh T n q - pl T n q ∨ 3 < vl T n q) → numF T n q 0 3 = 0 → z := fun y z => by
      have := numF_ok z
      omega
    refine bX12_readsWall_117 (kt := fun z => by omega) (kf := fun _ => ?_)
    refine bX12_readsWall_121 (hS := m_isGood_g gg) (kk := ?_)
    rintro y h5 ⟨e5, hy⟩
    rw [e5, hy]; clear e5 h5 hy y
    refine bX12_readsWall_125 (kt := fun z => by omega) (kf := fun _ => ?_)
    refine bX12_readsWall_128 (kt := fun z => good (fun y => n0 (by omega) y) _ _) (kf := fun z1 => ?_)
    refine bX12_readsWall_136 (kt := fun z => good (fun y => n0 (by omega) y) _ _) (kf := fun z2 => ?_)
    refine bX12_readsWall_144 (kt := fun z => good (fun y => n0 (by omega) y) _ _) (kf := fun z3 => ?_)
    have nf : numF T n q 0 3 = 0 := by unfold numF; rw [if_neg (by omega), if_neg (by omega)]
    have el := bit_look (x := D 6 w) (s := vl T n q) D6.1 vr.1
    refine bX12_readsWall_152 (r1 := by omega) (r2 := by omega) (r3 := by omega) (r4 := by rw [e6, t25, el]; split <;> decide) (kt := fun z => ?_) (kf := fun z => ?_)
    · rw [e6, t25, el] at z
      exact good (fun _ y => z (by rw [if_pos y])) _ _
    · rw [e6, t25, el] at z
      have bit : bt (D 6 w) (vl T n q).toNat = true := by
        by_cases y : bt (D 6 w) (vl T n q).toNat = true
        · exact y
        · rw [if_neg y] at z; omega
      refine bX12_readsWall_171 (hS := m_wrong_g (by decide) gg) (kk := fun h3 b3 => ?_)
      refine bX12_readsWall_176 (hS := m_number_b (by omega) b3) (kk := ?_)
      rintro x h4 ⟨e4, hx⟩
      rw [e4]
      exact b182 h3 4 _ _ _ _ _ _ (by rw [← hr, numK_ok nf, if_pos bit]) b3
end
