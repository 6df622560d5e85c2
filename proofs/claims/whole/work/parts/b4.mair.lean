/-! ===== the model's reader: air, sweet, form ===== -/
/-- before the line's end: the same continuation, or wrong -/
def PR (h0 h : AH) (T : Int → Int) (n : Int) (r : RES) : Prop := (∃ p E a s m, r = endR T n p E a s m ∧ gM h0 h T n p E a s m) ∨ (∃ k q c, r = .inl (k, q) ∧ bdM h0 h T n k q c)
theorem gM.eqE {h0 h : AH} {T : Int → Int} {n p a s m : Int} {E F : DT} (g : gM h0 h T n p E a s m) (e : E = F) : gM h0 h T n p F a s m := by rw [← e]; exact g
theorem R32_z {x : Int} (h : 0 ≤ x ∧ x ≤ 9999) : R32 x := by unfold R32; omega
section
variable {h0 h : AH} {T : Int → Int} {n p a s m k q c : Int} {E : DT} {fr : Nat}
theorem m_readsAir (hf : 3 ≤ fr) (ha : 0 ≤ a ∧ a < 16777216) (ht : txM h0 T n) (g : gM h0 h T n p E a s m) : Sp mX12_readsAir true fr 0 0 [zR 98] 137 h (rV (fun h' => PR h0 h' T n (rAir T n p E a s m))) := by
  refine Sp.mk yX12_readsAir_ok rfl rfl ?_
  have tn := ht.2.1
  unfold rAir
  refine bX12_readsAir_0 (hS := m_steps_g (by omega) ht g) (kk := ?_)
  intro h1 g1
  generalize bh T n p = p1 at *
  generalize hres : (numK T n p1 0 23 fun o => if bt a o.toNat = true then .inl (5, pl T n p1) else numK T n (bh T n p1) 0 100 fun v => endR T n (bh T n (bh T n p1)) (upD E 9 o v) (bOr a (1 * 2 ^ o.toNat)) s m) = res
  obtain ⟨⟨t22, t24, t25⟩, kr, vr, pr1, pr2, pr3⟩ := g1.tok
  have p0 := g1.2.1
  have bad : ∀ (h2 : AH) (k q c : Int) (x1 : AV), res = .inl (k, q) → bdM h0 h2 T n k q c → Wp mX12_readsAir (kR fr 0 0) (rV (fun h' => PR h0 h' T n res)) (0, 0) 49 [zR 98, x1] [] 137 h2 := fun h2 k q c _ er b => by
    refine bX12_readsAir_49 (hS := m_number_b (by omega) b) (kk := ?_)
    rintro x h3 ⟨e3, hx⟩
    rw [e3, hx]; clear e3 h3 hx x
    refine bX12_readsAir_56 (hS := m_isGood_b b) (kk := ?_)
    rintro x h3 ⟨e3, hx⟩
    rw [e3, hx]; clear e3 h3 hx x
    exact bX12_readsAir_61 (kt := fun z => absurd rfl z) (kf := fun _ => bX12_readsAir_64 (hq := ⟨rfl, rfl, Or.inr ⟨_, _, _, er, b⟩⟩))
  have good : (numF T n p1 0 23 = 0 → ¬ bt a (vl T n p1).toNat = true) → ∀ x1 : AV, Wp mX12_readsAir (kR fr 0 0) (rV (fun h' => PR h0 h' T n res)) (0, 0) 49 [zR 98, x1] [] 137 h1 := fun nb _ => by
    refine bX12_readsAir_49 (hS := m_number_g (by omega) ht R32_0 (R32_z (by decide)) g1) (kk := ?_)
    rintro x h3 (⟨n1, hx, g3⟩ | ⟨n1, b3⟩)
    rotate_left
    · refine bX12_readsAir_56 (hS := m_isGood_b b3) (kk := ?_)
      rintro y h4 ⟨e4, hy⟩
      rw [e4, hy]; clear e4 h4 hy y
      exact bX12_readsAir_61 (kt := fun z => absurd rfl z) (kf := fun _ => bX12_readsAir_64 (hq := ⟨rfl, rfl, Or.inr ⟨_, _, _, by rw [← hres]; exact numK_no n1, b3⟩⟩))
    have v1 := (numF_ok n1).2.1
    rw [numK_ok n1, if_neg (nb n1)] at hres
    rw [hx]; clear hx x
    refine bX12_readsAir_56 (hS := m_isGood_g g3) (kk := ?_)
    rintro y h4 ⟨e4, hy⟩
    rw [e4, hy]; clear e4 h4 hy y
    refine bX12_readsAir_61 (kf := fun z => by omega) (kt := fun _ => ?_)
    have g4 : gM h0 (up h3 98 34 (bOr (h3 98 34) (1 * 2 ^ (vl T n p1).toNat))) T n (bh T n p1) E (bOr a (1 * 2 ^ (vl T n p1).toNat)) s m := by
      obtain ⟨k, r, t, g17, gE, ga, gs, gm, g18⟩ := g3
      exact ⟨k.w (Or.inr (by decide)), r, t.w (Or.inr (by decide)), by rw [up_cn (by decide)]; exact g17, by rw [dN_98n h3 (by decide)]; exact gE, by rw [up_ci, ga], by rw [up_cn (by decide)]; exact gs, by rw [up_cn (by decide)]; exact gm, by rw [up_cn (by decide)]; exact g18⟩
    refine bX12_readsAir_65 (hS := m_number_g (by omega) ht R32_0 (R32_z (by decide)) g4) (kk := ?_)
    rintro x h5 (⟨n2, hx, g5⟩ | ⟨n2, b5⟩)
    rotate_left
    · exact bX12_readsAir_89 (c1 := e113) (hq := ⟨rfl, rfl, Or.inr ⟨_, _, _, by rw [← hres]; exact numK_no n2, b5.w (by decide)⟩⟩)
    rw [numK_ok n2] at hres
    rw [hx]
    refine bX12_readsAir_89 (c1 := e113) (hq := ⟨rfl, rfl, Or.inl ⟨_, _, _, _, _, hres.symm, (g5.w (by decide)).eqE ?_⟩⟩)
    rw [dN_9, g5.2.2.2.2.1]
  have n0 : ∀ {z : Prop}, (kd T n p1 ≠ 2 ∨ 4 < bh T n p1 - pl T n p1 ∨ 23 < vl T n p1) → numF T n p1 0 23 = 0 → z := fun w z => by
    have := numF_ok z
    omega
  refine bX12_readsAir_4 (kt := fun z => good (fun y => n0 (by omega) y) _) (kf := fun z1 => ?_)
  refine bX12_readsAir_12 (kt := fun z => good (fun y => n0 (by omega) y) _) (kf := fun z2 => ?_)
  refine bX12_readsAir_20 (kt := fun z => good (fun y => n0 (by omega) y) _) (kf := fun z3 => ?_)
  have nf : numF T n p1 0 23 = 0 := by unfold numF; rw [if_neg (by omega), if_neg (by omega)]
  have e34 : h1 98 34 = a := g1.2.2.2.2.2.1
  have el := bit_look (x := a) (s := vl T n p1) ha.1 vr.1
  refine bX12_readsAir_29 (r1 := by omega) (r3 := by rw [e34, t25, el]; split <;> decide) (kt := fun z => ?_) (kf := fun z => ?_)
  · rw [e34, t25, el] at z
    exact good (fun _ w => z (by rw [if_pos w])) _
  · rw [e34, t25, el] at z
    have bit : bt a (vl T n p1).toNat = true := by
      by_cases w : bt a (vl T n p1).toNat = true
      · exact w
      · rw [if_neg w] at z; omega
    refine bX12_readsAir_44 (hS := m_wrong_g (by decide) g1) (kk := fun h2 b2 => bad h2 5 _ _ _ ?_ b2)
    rw [← hres, numK_ok nf, if_pos bit]
theorem m_readsSweet (hf : 3 ≤ fr) (hd : okD E) (ht : txM h0 T n) (g : gM h0 h T n p E a s m) : Sp mX12_readsSweet true fr 0 0 [zR 98] 137 h (rV (fun h' => PR h0 h' T n (rSweet T n p E a s m))) := by
  refine Sp.mk yX12_readsSweet_ok rfl rfl ?_
  have tn := ht.2.1
  have d0 := hd.1
  unfold rSweet
  refine bX12_readsSweet_0 (hS := m_steps_g (by omega) ht g) (kk := ?_)
  intro h1 g1
  generalize bh T n p = p1 at *
  generalize hres : (sndK T n p1 E fun x => sndK T n (bh T n p1) E fun y => if x = y then .inl (4, pl T n (bh T n p1)) else endR T n (bh T n (bh T n p1)) (sweetE E x y) a s m) = res
  have bad : ∀ (h2 : AH) (k q c : Int) (l1 : Int), res = .inl (k, q) → bdM h0 h2 T n k q c → Wp mX12_readsSweet (kR fr 0 0) (rV (fun h' => PR h0 h' T n res)) (0, 0) 51 [zR 98, zI l1] [] 137 h2 := fun h2 k q c _ er b => by
    refine bX12_readsSweet_51 (hS := m_isGood_b b) (kk := ?_)
    rintro x h3 ⟨e3, hx⟩
    rw [e3, hx]; clear e3 h3 hx x
    exact bX12_readsSweet_55 (kt := fun z => absurd rfl z) (kf := fun _ => bX12_readsSweet_58 (hq := ⟨rfl, rfl, Or.inr ⟨_, _, _, er, b⟩⟩))
  refine bX12_readsSweet_4 (hS := m_sound_g (by omega) d0 ht g1) (kk := ?_)
  rintro x h2 (⟨f1, hx, e2⟩ | ⟨f1, hx, b2⟩)
  rotate_left
  · rw [hx]; clear hx x
    have er : res = .inl (sndF T n p1 E, pl T n p1) := by rw [← hres]; exact sndK_no f1
    refine bX12_readsSweet_8 (kf := fun z => absurd rfl z) (kt := fun _ => bX12_readsSweet_18 (kk := ?_))
    refine bX12_readsSweet_19 (hS := m_isGood_b b2) (kk := ?_)
    rintro x h3 ⟨e3, hx⟩
    rw [e3, hx]; clear e3 h3 hx x
    refine bX12_readsSweet_24 (kf := fun z => absurd rfl z) (kt := fun _ => ?_)
    refine bX12_readsSweet_31 (hS := m_sound_b (by omega) b2) (kk := ?_)
    rintro x h3 ⟨e3, hx⟩
    rw [e3, hx]; clear e3 h3 hx x
    exact bX12_readsSweet_35 (kf := fun z => absurd rfl z) (kt := fun _ => bad h2 _ _ _ _ er b2)
  rw [hx, e2]; clear hx x e2 h2
  rw [sndK_ok f1] at hres
  have o1 := sndF_ok f1
  obtain ⟨⟨t22, t24, t25⟩, kr, vr, pr1, pr2, pr3⟩ := g1.tok
  refine bX12_readsSweet_8 (kt := fun z => by omega) (kf := fun _ => bX12_readsSweet_11 (kk := ?_))
  refine bX12_readsSweet_19 (hS := m_isGood_g g1) (kk := ?_)
  rintro x h3 ⟨e3, hx⟩
  rw [e3, hx]; clear e3 h3 hx x
  rw [t25]
  refine bX12_readsSweet_24 (kt := fun z => by omega) (kf := fun _ => ?_)
  refine bX12_readsSweet_27 (hS := m_steps_g (by omega) ht g1) (kk := ?_)
  intro h2 g2
  generalize hv1 : vl T n p1 = x at *
  generalize bh T n p1 = p2 at *
  obtain ⟨⟨u22, u24, u25⟩, kr2, vr2, -, -, -⟩ := g2.tok
  refine bX12_readsSweet_31 (hS := m_sound_g (by omega) d0 ht g2) (kk := ?_)
  rintro y h3 (⟨f2, hy, e3⟩ | ⟨f2, hy, b3⟩)
  rotate_left
  · rw [hy]
    exact bX12_readsSweet_35 (kf := fun z => absurd rfl z) (kt := fun _ => bad h3 _ _ _ _ (by rw [← hres]; exact sndK_no f2) b3)
  rw [hy, e3]; clear hy y e3 h3
  rw [sndK_ok f2] at hres
  have o2 := sndF_ok f2
  refine bX12_readsSweet_35 (kt := fun z => by omega) (kf := fun _ => ?_)
  refine bX12_readsSweet_38 (kf := fun z => ?_) (kt := fun z => ?_)
  rotate_left
  · rw [u25] at z
    exact bX12_readsSweet_46 (hS := m_wrong_g (by decide) g2) (kk := fun h3 b3 => bad h3 4 _ _ _ (by rw [← hres, if_pos z.symm]) b3)
  rw [u25] at z
  rw [if_neg (fun w => z w.symm)] at hres
  refine bX12_readsSweet_51 (hS := m_isGood_g g2) (kk := ?_)
  rintro w h3 ⟨e3, hw⟩
  rw [e3, hw]; clear e3 h3 hw w
  refine bX12_readsSweet_55 (kf := fun z => by omega) (kt := fun _ => ?_)
  rw [← u25] at hres z
  have g3 := ((g2.w (c := 114) (i := x) (v := bOr (h2 114 x) (1 * 2 ^ (h2 98 25).toNat)) (by decide)).w (c := 114) (i := h2 98 25) (v := bOr ((up h2 114 x (bOr (h2 114 x) (1 * 2 ^ (h2 98 25).toNat))) 114 (h2 98 25)) (1 * 2 ^ x.toNat)) (by decide)).eqE (F := sweetE E x (h2 98 25)) (by
    have q : ∀ i, h2 114 i = E 3 i := fun i => by rw [← g2.2.2.2.2.1]; unfold dN; rw [if_pos ⟨by decide, fun w => absurd w (by decide)⟩]; rfl
    rw [dN_3, dN_3, g2.2.2.2.2.1, up_cn z, q, q]
    rfl)
  refine bX12_readsSweet_59 (r2 := by omega) (r3 := by omega) (hS := m_steps_g (by omega) ht g3) (kk := ?_)
  intro h3 g4
  exact bX12_readsSweet_93 (hq := ⟨rfl, rfl, Or.inl ⟨_, _, _, _, _, hres.symm, g4⟩⟩)
end
