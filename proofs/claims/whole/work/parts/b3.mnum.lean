/-! ===== the model's reader: need, number, soundHere ===== -/
section
variable {h0 h : AH} {T : Int → Int} {n p a s m k q c : Int} {E : DT} {fr : Nat}
theorem gM.tok (g : gM h0 h T n p E a s m) : (h 98 22 = kd T n p ∧ h 98 24 = bh T n p - pl T n p ∧ h 98 25 = vl T n p) ∧ (0 ≤ kd T n p ∧ kd T n p ≤ 4) ∧ (0 ≤ vl T n p ∧ vl T n p ≤ 9999) ∧ p ≤ pl T n p ∧ pl T n p ≤ bh T n p ∧ bh T n p ≤ n := by
  obtain ⟨k, r, t, g17, gE, ga, gs, gm, g18⟩ := g
  exact ⟨⟨t.2.1, t.2.2.2.1, t.2.2.2.2.1⟩, kd_rng T n p, vl_rng T r.2, (pl_rng T r.2).1, (bh_rng T r.2).1, (bh_rng T r.2).2.1⟩
theorem bdM.tok (g : bdM h0 h T n k q c) (hn : n ≤ 700) : (0 ≤ h 98 22 ∧ h 98 22 ≤ 4) ∧ (0 ≤ h 98 24 ∧ h 98 24 ≤ 700) ∧ (0 ≤ h 98 25 ∧ h 98 25 ≤ 9999) := by
  obtain ⟨kk, ⟨p, r, t⟩, g17, g18, kr, g27⟩ := g
  have a := kd_rng T n p
  have b := vl_rng T r.2
  have c := (pl_rng T r.2).1
  have d := (bh_rng T r.2)
  rw [t.2.1, t.2.2.2.1, t.2.2.2.2.1]
  omega
theorem m_need_g {x : Int} (hf : 2 ≤ fr) (ht : txM h0 T n) (hx : x = 0 ∨ x = 1) (g : gM h0 h T n p E a s m) : Sp mX12_need true fr 0 0 [zR 98, zI x] 137 h (rV (fun h' => (x = 0 ∧ bdM h0 h' T n 1 (pl T n p) (E 0 0)) ∨ (x = 1 ∧ gM h0 h' T n (bh T n p) E a s m))) := by
  refine Sp.mk yX12_need_ok rfl rfl ?_
  refine bX12_need_0 (hS := m_isGood_g g) (kk := ?_)
  rintro y h1 ⟨e1, hy⟩
  rw [e1, hy]; clear e1 h1 hy y
  refine bX12_need_4 (kf := fun z => by omega) (kt := fun _ => ?_)
  refine bX12_need_8 (kt := fun z => ?_) (kf := fun z => ?_)
  · exact bX12_need_19 (hS := m_wrong_g (by decide) g) (kk := fun h1 b1 => bX12_need_24 (hq := ⟨rfl, rfl, Or.inl ⟨z, b1⟩⟩))
  · exact bX12_need_12 (hS := m_steps_g (by omega) ht g) (kk := fun h1 b1 => bX12_need_16 (kk := bX12_need_24 (hq := ⟨rfl, rfl, Or.inr ⟨by omega, b1⟩⟩)))
theorem m_need_b {x : Int} (hf : 2 ≤ fr) (g : bdM h0 h T n k q c) : Sp mX12_need true fr 0 0 [zR 98, zI x] 137 h (rV (fun h' => bdM h0 h' T n k q c)) := by
  refine Sp.mk yX12_need_ok rfl rfl ?_
  refine bX12_need_0 (hS := m_isGood_b g) (kk := ?_)
  rintro y h1 ⟨e1, hy⟩
  rw [e1, hy]; clear e1 h1 hy y
  exact bX12_need_4 (kt := fun z => absurd rfl z) (kf := fun _ => bX12_need_7 (hq := ⟨rfl, rfl, g⟩))
theorem m_number_b {lo hi : Int} (hf : 2 ≤ fr) (g : bdM h0 h T n k q c) : Sp mX12_number true fr 0 0 [zR 98, zI lo, zI hi] 137 h (rI (fun x h' => h' = h ∧ x = 0)) := by
  refine Sp.mk yX12_number_ok rfl rfl ?_
  refine bX12_number_0 (hS := m_isGood_b g) (kk := ?_)
  rintro y h1 ⟨e1, hy⟩
  rw [e1, hy]; clear e1 h1 hy y
  exact bX12_number_4 (kt := fun z => absurd rfl z) (kf := fun _ => bX12_number_7 (hq := ⟨_, rfl, rfl, rfl, rfl⟩))
theorem m_number_g {lo hi : Int} (hf : 2 ≤ fr) (ht : txM h0 T n) (hl : R32 lo) (hh : R32 hi) (g : gM h0 h T n p E a s m) : Sp mX12_number true fr 0 0 [zR 98, zI lo, zI hi] 137 h (rI (fun x h' => (numF T n p lo hi = 0 ∧ x = vl T n p ∧ gM h0 h' T n (bh T n p) E a s m) ∨ (numF T n p lo hi ≠ 0 ∧ bdM h0 h' T n (numF T n p lo hi) (pl T n p) (E 0 0)))) := by
  refine Sp.mk yX12_number_ok rfl rfl ?_
  obtain ⟨⟨t22, t24, t25⟩, kr, vr, pr1, pr2, pr3⟩ := g.tok
  have p0 := g.2.1
  have tn := ht.2.1
  unfold R32 at hl hh
  generalize hQ : (rI (fun (x : Int) (h' : AH) => (numF T n p lo hi = 0 ∧ x = vl T n p ∧ gM h0 h' T n (bh T n p) E a s m) ∨ (numF T n p lo hi ≠ 0 ∧ bdM h0 h' T n (numF T n p lo hi) (pl T n p) (E 0 0)))) = Q
  have bad : ∀ (h1 : AH) (f : Int) (x1 x2 x3 : AV), numF T n p lo hi = f → f ≠ 0 → bdM h0 h1 T n f (pl T n p) (E 0 0) → Wp mX12_number (kR fr 0 0) Q (0, 0) 54 [zR 98, x1, x2, x3] [] 137 h1 := fun h1 f x1 x2 x3 ef f0 b => by
    refine bX12_number_54 (hS := m_isGood_b b) (kk := ?_)
    rintro y h2 ⟨e2, hy⟩
    rw [e2, hy]; clear e2 h2 hy y
    refine bX12_number_63 (kf := fun z => absurd rfl z) (kt := fun _ => bX12_number_70 (hq := ?_))
    rw [← hQ]
    exact ⟨_, rfl, rfl, Or.inr ⟨by omega, by rw [ef]; exact b⟩⟩
  refine bX12_number_0 (hS := m_isGood_g g) (kk := ?_)
  rintro y h1 ⟨e1, hy⟩
  rw [e1, hy]; clear e1 h1 hy y
  refine bX12_number_4 (kf := fun z => by omega) (kt := fun _ => ?_)
  refine bX12_number_9 (kt := fun z => ?_) (kf := fun z => ?_)
  rotate_left
  · have ef : numF T n p lo hi = 1 := by unfold numF; rw [if_pos (by omega)]
    exact bX12_number_17 (hS := m_wrong_g (by decide) g) (kk := fun h1 b1 => bX12_number_22 (kk := bad h1 1 _ _ _ ef (by decide) b1))
  have k2 : ¬ kd T n p ≠ 2 := by omega
  have e2 : ∀ {x : Prop}, (4 < bh T n p - pl T n p ∨ vl T n p < lo ∨ hi < vl T n p) → numF T n p lo hi = 2 := fun z => by unfold numF; rw [if_neg k2, if_pos z]
  have tw : (4 < bh T n p - pl T n p ∨ vl T n p < lo ∨ hi < vl T n p) → ∀ (x1 x2 x3 : AV), Wp mX12_number (kR fr 0 0) Q (0, 0) 49 [zR 98, x1, x2, x3] [] 137 h := fun w x1 x2 x3 =>
    bX12_number_49 (hS := m_wrong_g (by decide) g) (kk := fun h1 b1 => bad h1 2 _ _ _ (e2 (x := True) w) (by decide) b1)
  refine bX12_number_25 (kt := fun z => tw (by omega) _ _ _) (kf := fun z1 => ?_)
  refine bX12_number_33 (kt := fun z => tw (by omega) _ _ _) (kf := fun z2 => ?_)
  refine bX12_number_41 (kf := fun z => tw (by omega) _ _ _) (kt := fun z3 => ?_)
  have ef : numF T n p lo hi = 0 := by unfold numF; rw [if_neg k2, if_neg (by omega)]
  refine bX12_number_54 (hS := m_isGood_g g) (kk := ?_)
  rintro y h1 ⟨e1, hy⟩
  rw [e1, hy]; clear e1 h1 hy y
  refine bX12_number_63 (kt := fun z => by omega) (kf := fun _ => ?_)
  refine bX12_number_66 (hS := m_steps_g (by omega) ht g) (kk := fun h1 b1 => bX12_number_70 (hq := ?_))
  rw [← hQ]
  exact ⟨_, rfl, rfl, Or.inl ⟨ef, t25, b1⟩⟩
theorem m_sound_b (hf : 2 ≤ fr) (g : bdM h0 h T n k q c) : Sp mX12_soundHere true fr 0 0 [zR 98] 137 h (rI (fun x h' => h' = h ∧ x = 0)) := by
  refine Sp.mk yX12_soundHere_ok rfl rfl ?_
  refine bX12_soundHere_0 (hS := m_isGood_b g) (kk := ?_)
  rintro y h1 ⟨e1, hy⟩
  rw [e1, hy]; clear e1 h1 hy y
  exact bX12_soundHere_4 (kt := fun z => absurd rfl z) (kf := fun _ => bX12_soundHere_7 (hq := ⟨_, rfl, rfl, rfl, rfl⟩))
theorem m_sound_g (hf : 2 ≤ fr) (hE : 0 ≤ E 0 0 ∧ E 0 0 ≤ 8) (ht : txM h0 T n) (g : gM h0 h T n p E a s m) : Sp mX12_soundHere true fr 0 0 [zR 98] 137 h (rI (fun x h' => (sndF T n p E = 0 ∧ x = 1 ∧ h' = h) ∨ (sndF T n p E ≠ 0 ∧ x = 0 ∧ bdM h0 h' T n (sndF T n p E) (pl T n p) (E 0 0)))) := by
  refine Sp.mk yX12_soundHere_ok rfl rfl ?_
  obtain ⟨⟨t22, t24, t25⟩, kr, vr, pr1, pr2, pr3⟩ := g.tok
  have p0 := g.2.1
  have tn := ht.2.1
  have e27 := g.cnt (i := 0) (by decide)
  rw [show (0 : Int) + 27 = 27 from rfl] at e27
  generalize hQ : (rI (fun (x : Int) (h' : AH) => (sndF T n p E = 0 ∧ x = 1 ∧ h' = h) ∨ (sndF T n p E ≠ 0 ∧ x = 0 ∧ bdM h0 h' T n (sndF T n p E) (pl T n p) (E 0 0)))) = Q
  have bad : ∀ (h1 : AH) (f : Int), sndF T n p E = f → f ≠ 0 → bdM h0 h1 T n f (pl T n p) (E 0 0) → Wp mX12_soundHere (kR fr 0 0) Q (0, 0) 57 [zR 98] [] 137 h1 := fun h1 f ef f0 b => by
    refine bX12_soundHere_57 (hS := m_isGood_b b) (kk := ?_)
    rintro y h2 ⟨e2, hy⟩
    rw [e2, hy]; clear e2 h2 hy y
    refine bX12_soundHere_61 (hq := ?_)
    rw [← hQ]
    exact ⟨_, rfl, rfl, Or.inr ⟨by omega, rfl, by rw [ef]; exact b⟩⟩
  refine bX12_soundHere_0 (hS := m_isGood_g g) (kk := ?_)
  rintro y h1 ⟨e1, hy⟩
  rw [e1, hy]; clear e1 h1 hy y
  refine bX12_soundHere_4 (kf := fun z => by omega) (kt := fun _ => ?_)
  refine bX12_soundHere_9 (kt := fun z => ?_) (kf := fun z => ?_)
  rotate_left
  · have ef : sndF T n p E = 1 := by
      have : numF T n p 0 9999 = 1 := by unfold numF; rw [if_pos (by omega)]
      unfold sndF; rw [if_pos (by omega), this]
    exact bX12_soundHere_17 (hS := m_wrong_g (by decide) g) (kk := fun h1 b1 => bX12_soundHere_22 (kk := bad h1 1 ef (by decide) b1))
  have k2 : ¬ kd T n p ≠ 2 := by omega
  refine bX12_soundHere_25 (kt := fun z => ?_) (kf := fun z => ?_)
  rotate_left
  · have ef : sndF T n p E = 2 := by
      have : numF T n p 0 9999 = 2 := by unfold numF; rw [if_neg k2, if_pos (by omega)]
      unfold sndF; rw [if_pos (by omega), this]
    exact bX12_soundHere_33 (hS := m_wrong_g (by decide) g) (kk := fun h1 b1 => bX12_soundHere_38 (kk := bad h1 2 ef (by decide) b1))
  have nf : numF T n p 0 9999 = 0 := by unfold numF; rw [if_neg k2, if_neg (by omega)]
  refine bX12_soundHere_41 (kt := fun z => ?_) (kf := fun z => ?_)
  rotate_left
  · have ef : sndF T n p E = 3 := by unfold sndF; rw [if_neg (by omega), if_pos (by omega)]
    exact bX12_soundHere_52 (hS := m_wrong_g (by decide) g) (kk := fun h1 b1 => bad h1 3 ef (by decide) b1)
  have ef : sndF T n p E = 0 := by unfold sndF; rw [if_neg (by omega), if_neg (by omega)]
  refine bX12_soundHere_57 (hS := m_isGood_g g) (kk := ?_)
  rintro y h1 ⟨e1, hy⟩
  rw [e1, hy]; clear e1 h1 hy y
  refine bX12_soundHere_61 (hq := ?_)
  rw [← hQ]
  exact ⟨_, rfl, rfl, Or.inl ⟨ef, rfl, rfl⟩⟩
end
