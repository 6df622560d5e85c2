/-! ===== say(): both sides ===== -/
theorem c_addSaid {fr : Nat} {s t : Int} {h : AH} (hs : 0 ≤ s ∧ s < 8) (rt : R32 t) (hm : 0 ≤ h 34 1 ∧ h 34 1 ≤ 200) (hb : ∀ t, 0 ≤ t → t < 200 → 0 ≤ h 35 t ∧ h 35 t < 256) : Sp mX8_addSaid true fr 0 0 [zR 34, zI s, zI t] 137 h (rI (fun x h' => ((h 34 1 < 200 ∧ (0 ≤ t ∧ t < 200) ∧ bt (h 35 t) s.toNat = false) ∧ x = 1 ∧ h' = up (up h 35 t (bOr (h 35 t) (1 * 2 ^ s.toNat))) 34 1 (h 34 1 + 1)) ∨ (¬ (h 34 1 < 200 ∧ (0 ≤ t ∧ t < 200) ∧ bt (h 35 t) s.toNat = false) ∧ x = 0 ∧ h' = h))) := by
  refine Sp.mk yX8_addSaid_ok rfl rfl ?_
  obtain ⟨t1, t2⟩ := id rt
  have hc := e34
  refine bX8_addSaid_0 (l0 := 34) (kt := fun q => ?_) (kf := fun q => ?_)
  · exact bX8_addSaid_21 (hq := ⟨_, rfl, rfl, Or.inr ⟨by omega, rfl, rfl⟩⟩)
  refine bX8_addSaid_10 (l0 := 34) (kt := fun q2 => ?_) (kf := fun q2 => ?_)
  · exact bX8_addSaid_21 (hq := ⟨_, rfl, rfl, Or.inr ⟨by omega, rfl, rfl⟩⟩)
  refine bX8_addSaid_14 (l0 := 34) (kt := fun q3 => ?_) (kf := fun q3 => ?_)
  rotate_left
  · exact bX8_addSaid_21 (hq := ⟨_, rfl, rfl, Or.inr ⟨by omega, rfl, rfl⟩⟩)
  obtain ⟨b1, b2⟩ := hb t q2 q3
  have el : bAnd (h (34 + 1) t / 2 ^ s.toNat) 1 = if bt (h 35 t) s.toNat = true then 1 else 0 := bit_look b1 hs.1
  refine bX8_addSaid_23 (l0 := 34) (r3 := by show _ ≤ h 35 t ∧ h 35 t < _; omega) (r4 := by rw [el]; split <;> omega) (kt := fun q4 => ?_) (kf := fun q4 => ?_)
  · rw [el] at q4
    have q5 : bt (h 35 t) s.toNat = false := by
      cases hbt : bt (h 35 t) s.toNat with
      | false => rfl
      | true => rw [hbt] at q4; simp at q4
    exact bX8_addSaid_38 (l0 := 34) (hq := ⟨_, rfl, rfl, Or.inl ⟨⟨q, ⟨q2, q3⟩, q5⟩, rfl, rfl⟩⟩)
  · rw [el] at q4
    refine bX8_addSaid_36 (hq := ⟨_, rfl, rfl, Or.inr ⟨fun z => ?_, rfl, rfl⟩⟩)
    rw [z.2.2] at q4
    simp at q4
/-- it can be said -/
def sayOk (h : AH) (s t : Int) : Prop := h 34 1 < 200 ∧ (0 ≤ t ∧ t < 200) ∧ bt (h 35 t) s.toNat = false
theorem c_say {fr : Nat} {s t : Int} {h : AH} (hf : 9 ≤ fr) (rs : R32 s) (rt : R32 t) (hn : nowOk h) (hm : 0 ≤ h 34 1 ∧ h 34 1 ≤ 200) (hb : ∀ t, 0 ≤ t → t < 200 → 0 ≤ h 35 t ∧ h 35 t < 256) : Sp mX11_say true fr 8 48 [zR 1, zI s, zI t] 137 h (rIx (fun x h' => (0 ≤ s ∧ s < h (h 1 4) 0) ∧ ((sayOk h s t ∧ x = h 34 1 + 1 ∧ h' = up (up (up h 35 t (bOr (h 35 t) (1 * 2 ^ s.toNat))) 34 1 (h 34 1 + 1)) 82 2 0) ∨ (¬ sayOk h s t ∧ x = -1 ∧ h' = up h 3 1 (h 3 1 + 1)))) (fun E h' => h' = h ∧ E = NSE ∧ ¬ (0 ≤ s ∧ s < h (h 1 4) 0))) := by
  refine Sp.mk yX11_say_ok rfl rfl ?_
  have h8 := hn.2.1.2
  refine bX11_say_0 (hS := c_needSound (by omega) rs hn) (kk := ?_) (kx := ?_)
  · rintro h' ⟨rfl, s1, s2⟩
    refine bX11_say_5 (hS := c_addSaid ⟨s1, by omega⟩ rt hm hb) (kk := ?_)
    rintro x h1 (⟨ok, rfl, rfl⟩ | ⟨ok, rfl, rfl⟩)
    · refine bX11_say_14 (kt := fun _ => ?_) (kf := fun q => absurd q (by decide))
      refine bX11_say_29 (hS := c_forgetG) (kk := ?_)
      rintro h1 rfl
      exact bX11_say_36 (hq := ⟨rfl, Or.inl ⟨_, rfl, ⟨s1, s2⟩, Or.inl ⟨ok, rfl, rfl⟩⟩⟩)
    · refine bX11_say_14 (kt := fun q => absurd rfl q) (kf := fun _ => ?_)
      exact bX11_say_17 (hq := ⟨rfl, Or.inl ⟨_, rfl, ⟨s1, s2⟩, Or.inr ⟨ok, rfl, rfl⟩⟩⟩)
  · rintro E h' ⟨rfl, rfl, z⟩
    exact ⟨rfl, Or.inr ⟨_, rfl, rfl, rfl, by omega⟩⟩
/-- the model's words for it -/
def saidIn (h : AH) (n : Int) (s t : Int) : Prop := ∃ k : Int, 0 ≤ k ∧ k < n ∧ h 116 k = s ∧ h 117 k = t
def sayOkM (h : AH) (s t : Int) : Prop := h 98 50 < 200 ∧ (0 ≤ t ∧ t ≤ 199) ∧ ¬ saidIn h (h 98 50) s t
theorem m_say {fr : Nat} {s t : Int} {h : AH} (hf : 2 ≤ fr) (rs : R32 s) (rt : R32 t) (hs : 0 ≤ h 98 1 ∧ h 98 1 ≤ 8) (hm : 0 ≤ h 98 50 ∧ h 98 50 ≤ 200) (hr : ∀ k, 0 ≤ k → k < h 98 50 → R32 (h 116 k) ∧ R32 (h 117 k)) : Sp mX12_say true fr 0 0 [zR 98, zI s, zI t] 137 h (rI (fun x h' => ((0 ≤ s ∧ s < h 98 1) ∧ ((sayOkM h s t ∧ x = h 98 50 + 1 ∧ h' = up (up (up (up h 98 0 0) 116 (h 98 50) s) 117 (h 98 50) t) 98 50 (h 98 50 + 1)) ∨ (¬ sayOkM h s t ∧ x = -1 ∧ h' = up (up h 98 0 0) 107 1 (h 107 1 + 1)))) ∨ (¬ (0 ≤ s ∧ s < h 98 1) ∧ h' = up h 98 0 1))) := by
  refine Sp.mk yX12_say_ok rfl rfl ?_
  obtain ⟨s1, s2⟩ := id rs
  obtain ⟨t1, t2⟩ := id rt
  refine bX12_say_0 (hS := m_isSound (by omega) rs hs rfl) (kk := ?_)
  rintro x h' (⟨z, rfl, rfl⟩ | ⟨z, rfl, rfl⟩)
  rotate_left
  · refine bX12_say_10 (kt := fun w => absurd rfl w) (kf := fun _ => ?_)
    exact bX12_say_13 (hq := ⟨_, rfl, rfl, Or.inr ⟨z, up_up _ _ _ _ _⟩⟩)
  refine bX12_say_10 (kt := fun _ => ?_) (kf := fun w => absurd w (by decide))
  -- the loop
  have loop : ∀ (d : Nat) (k l : Int) {b1 b2 : Nat}, 0 ≤ k → k + d = h 98 50 → (l = 0 ∨ l = 1) → (l = 1 ↔ h 98 50 < 200 ∧ (0 ≤ t ∧ t ≤ 199) ∧ ¬ saidIn h k s t) →
      Wp mX12_say (kR fr 0 0) (rI (fun x h' => ((0 ≤ s ∧ s < h 98 1) ∧ ((sayOkM h s t ∧ x = h 98 50 + 1 ∧ h' = up (up (up (up h 98 0 0) 116 (h 98 50) s) 117 (h 98 50) t) 98 50 (h 98 50 + 1)) ∨ (¬ sayOkM h s t ∧ x = -1 ∧ h' = up (up h 98 0 0) 107 1 (h 107 1 + 1)))) ∨ (¬ (0 ≤ s ∧ s < h 98 1) ∧ h' = up h 98 0 1))) (b1, b2) 45 [zR 98, zI s, zI t, zI l, zI k] [] 137 (up h 98 0 0) := by
    intro d
    induction d with
    | zero =>
      intro k l b1 b2 k0 hk hl hi
      have hk2 : k = h 98 50 := by omega
      refine bX12_say_45 (r2 := by show _ ≤ h 98 50 ∧ h 98 50 < _; omega) (kt := fun q => ?_) (kf := fun q => by have : k < h 98 50 := q; omega)
      refine bX12_say_92 (kt := fun q2 => ?_) (kf := fun q2 => ?_)
      · have hok : sayOkM h s t := by
          have := hi.mp (by omega)
          rw [hk2] at this
          exact this
        exact bX12_say_108 (r1 := by show 0 ≤ h 98 50 ∧ h 98 50 < 200; have := hok.1; omega) (hq := ⟨_, rfl, rfl, Or.inl ⟨z, Or.inl ⟨hok, rfl, rfl⟩⟩⟩)
      · refine bX12_say_96 (hq := ⟨_, rfl, rfl, Or.inl ⟨z, Or.inr ⟨fun hok => ?_, rfl, rfl⟩⟩⟩)
        have := hi.mpr (by rw [hk2]; exact hok)
        omega
    | succ d ih =>
      intro k l b1 b2 k0 hk hl hi
      have hstep : ∀ l2 : Int, (l2 = 0 ∨ l2 = 1) → (l2 = 1 ↔ l = 1 ∧ ¬ (h 116 k = s ∧ h 117 k = t)) → Wp mX12_say (kR fr 0 0) (rI (fun x h' => ((0 ≤ s ∧ s < h 98 1) ∧ ((sayOkM h s t ∧ x = h 98 50 + 1 ∧ h' = up (up (up (up h 98 0 0) 116 (h 98 50) s) 117 (h 98 50) t) 98 50 (h 98 50 + 1)) ∨ (¬ sayOkM h s t ∧ x = -1 ∧ h' = up (up h 98 0 0) 107 1 (h 107 1 + 1)))) ∨ (¬ (0 ≤ s ∧ s < h 98 1) ∧ h' = up h 98 0 1))) (b1, b2) 45 [zR 98, zI s, zI t, zI l2, zI (k + 1)] [] 137 (up h 98 0 0) := by
        intro l2 h2 hi2
        refine ih (k + 1) l2 (by omega) (by omega) h2 (hi2.trans ?_)
        rw [hi]
        constructor
        · rintro ⟨⟨a, b, c⟩, d⟩
          refine ⟨a, b, ?_⟩
          rintro ⟨j, j0, j1, j2, j3⟩
          by_cases e : j = k
          · subst e; exact d ⟨j2, j3⟩
          · exact c ⟨j, j0, by omega, j2, j3⟩
        · rintro ⟨a, b, c⟩
          refine ⟨⟨a, b, ?_⟩, ?_⟩
          · rintro ⟨j, j0, j1, j2, j3⟩
            exact c ⟨j, j0, by omega, j2, j3⟩
          · rintro ⟨j2, j3⟩
            exact c ⟨k, k0, by omega, j2, j3⟩
      obtain ⟨⟨ra1, ra2⟩, rb1, rb2⟩ := hr k k0 (by omega)
      refine bX12_say_45 (r2 := by show _ ≤ h 98 50 ∧ h 98 50 < _; omega) (kt := fun q => by have : h 98 50 ≤ k := q; omega) (kf := fun q => ?_)
      refine bX12_say_54 (kt := fun q2 => ?_) (kf := fun q2 => ?_)
      · exact bX12_say_84 (kk := bX12_say_85 (kk := hstep 0 (Or.inl rfl) (by omega)))
      refine bX12_say_58 (r2 := by show _ ≤ h 116 k ∧ h 116 k < _; omega) (kt := fun q3 => ?_) (kf := fun q3 => ?_)
      · have q4 : ¬ h 116 k = s := q3
        exact bX12_say_80 (kk := bX12_say_85 (kk := hstep 1 (Or.inr rfl) ⟨fun _ => ⟨by omega, fun w => q4 w.1⟩, fun _ => rfl⟩))
      have q4 : h 116 k = s := q3
      refine bX12_say_69 (r2 := by show _ ≤ h 117 k ∧ h 117 k < _; omega) (kt := fun q5 => ?_) (kf := fun q5 => ?_)
      · have q6 : h 117 k = t := q5
        exact bX12_say_84 (kk := bX12_say_85 (kk := hstep 0 (Or.inl rfl) ⟨fun w => absurd w (by decide), fun w => absurd ⟨q4, q6⟩ w.2⟩))
      · have q6 : ¬ h 117 k = t := q5
        exact bX12_say_80 (kk := bX12_say_85 (kk := hstep 1 (Or.inr rfl) ⟨fun _ => ⟨by omega, fun w => q6 w.2⟩, fun _ => rfl⟩))
  have none0 : ¬ saidIn h 0 s t := by rintro ⟨j, j0, j1, -⟩; omega
  refine bX12_say_15 (r1 := by show _ ≤ h 98 50 ∧ h 98 50 < _; omega) (kt := fun q => ?_) (kf := fun q => ?_)
  · have q2 : 200 ≤ h 98 50 := q
    exact bX12_say_40 (kk := bX12_say_41 (kk := loop (h 98 50).toNat 0 0 (by omega) (by omega) (Or.inl rfl) ⟨fun w => absurd w (by decide), fun w => by omega⟩))
  have q2 : h 98 50 < 200 := q
  refine bX12_say_25 (hS := m_within rt R32_0 (by constructor <;> decide)) (kk := ?_)
  rintro x h' ⟨rfl, ⟨rfl, w1⟩ | ⟨rfl, w1⟩⟩
  · refine bX12_say_33 (kt := fun w => absurd w (by decide)) (kf := fun _ => ?_)
    exact bX12_say_36 (kk := bX12_say_41 (kk := loop (h 98 50).toNat 0 1 (by omega) (by omega) (Or.inr rfl) ⟨fun _ => ⟨q2, w1, none0⟩, fun _ => rfl⟩))
  · refine bX12_say_33 (kt := fun _ => ?_) (kf := fun w => absurd rfl w)
    exact bX12_say_40 (kk := bX12_say_41 (kk := loop (h 98 50).toNat 0 0 (by omega) (by omega) (Or.inl rfl) ⟨fun w => absurd w (by decide), fun w => absurd w.2.1 w1⟩))
