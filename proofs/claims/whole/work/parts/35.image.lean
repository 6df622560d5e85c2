/-! ===== image, restore: both sides; sing, stand of the model ===== -/
theorem cpy_0 (h : AH) (a b : Int) : cpy h a 0 b 0 0 = h := by
  funext c i
  unfold cpy
  by_cases e : c = b
  · rw [if_pos e, if_neg (by omega), e]
  · rw [if_neg e]
theorem cpy_s {h : AH} {a b : Int} (hab : a ≠ b) {k : Int} (hk : 0 ≤ k) : up (cpy h a 0 b 0 k) b k (cpy h a 0 b 0 k a k) = cpy h a 0 b 0 (k + 1) := by
  funext c i
  unfold cpy up
  by_cases e : c = b
  · simp only [e, if_true, if_neg hab]
    by_cases e2 : i = k
    · rw [if_pos e2, if_pos (by omega), e2]
      congr 1
      omega
    · rw [if_neg e2]
      by_cases e3 : 0 ≤ i ∧ i < 0 + k
      · rw [if_pos e3, if_pos (by omega)]
      · rw [if_neg e3, if_neg (by omega)]
  · simp only [e, if_false]
theorem m_copies {fr N : Nat} {a b : Int} {h : AH} (ha : cel 137 a (100, N)) (hb : cel 137 b (100, N)) (hab : a ≠ b) : Sp mX12_copies true fr 0 0 [zR 98, zR a, zR b] 137 h (rV (fun h' => h' = cpy h a 0 b 0 N)) := by
  refine Sp.mk yX12_copies_ok rfl rfl ?_
  have hN : N < 4000 := cel_small ha
  refine bX12_copies_0 (kk := ?_)
  suffices H : ∀ (d : Nat) (k : Int) {b1 b2 : Nat}, 0 ≤ k → k + d = N → Wp mX12_copies (kR fr 0 0) (rV (fun h' => h' = cpy h a 0 b 0 N)) (b1, b2) 2 [none, zR a, zR b, zI k] [] 137 (cpy h a 0 b 0 k) by
    have := H N 0 (b1 := 0) (b2 := 0) (by omega) (by omega)
    rw [cpy_0] at this
    exact this
  intro d
  induction d with
  | zero =>
    intro k b1 b2 k0 hk
    refine bX12_copies_2 (kt := fun q => ?_) (kf := fun q => by omega)
    exact bX12_copies_20 (hq := ⟨rfl, rfl, by rw [show k = N by omega]⟩)
  | succ d ih =>
    intro k b1 b2 k0 hk
    refine bX12_copies_2 (kt := fun q => by omega) (kf := fun q => ?_)
    refine bX12_copies_8 (c1 := ha) (c2 := hb) (kk := ?_)
    rw [cpy_s hab k0]
    exact ih (k + 1) (by omega) (by omega)
theorem c_copy {fr : Nat} {o p : Int} {h : AH} (hf : 1 ≤ fr) (hop : o = 34 ∧ p = 40 ∨ o = 40 ∧ p = 34) : Sp mX8_copy true fr 0 0 [zR o, zR p] 137 h (rV (fun h' => h' = cpy (cpy (up (cpy (up (cpy (up (cpy h (p + 1) 0 (o + 1) 0 200) o 1 (h p 1)) (p + 2) 0 (o + 2) 0 60) o 3 (h p 3)) (p + 3) 0 (o + 3) 0 16) o 5 (h p 5)) (p + 4) 0 (o + 4) 0 3) (p + 5) 0 (o + 5) 0 3)) := by
  refine Sp.mk yX8_copy_ok rfl rfl ?_
  rcases hop with ⟨rfl, rfl⟩ | ⟨rfl, rfl⟩
  · exact bX8_copy_0 (c1 := e40) (c2 := e34) (hq := ⟨rfl, rfl, rfl⟩)
  · exact bX8_copy_0 (c1 := e34) (c2 := e40) (hq := ⟨rfl, rfl, rfl⟩)
/-- the class's image, taken and given back -/
def takenC (h : AH) : AH := up (cpy (cpy (up (cpy (up (cpy (up (cpy h 35 0 41 0 200) 40 1 (h 34 1)) 36 0 42 0 60) 40 3 (h 34 3)) 37 0 43 0 16) 40 5 (h 34 5)) 38 0 44 0 3) 39 0 45 0 3) 1 8 1
def givenC (h : AH) : AH := up (up (cpy (cpy (up (cpy (up (cpy (up (cpy h 41 0 35 0 200) 34 1 (h 40 1)) 42 0 36 0 60) 34 3 (h 40 3)) 43 0 37 0 16) 34 5 (h 40 5)) 44 0 38 0 3) 45 0 39 0 3) 82 2 0) 88 1 0
theorem c_image {fr : Nat} {h : AH} (hf : 2 ≤ fr) : Sp mX11_image true fr 0 0 [zR 1] 137 h (rV (fun h' => h' = takenC h)) := by
  refine Sp.mk yX11_image_ok rfl rfl ?_
  refine bX11_image_0 (hS := c_copy (by omega) (Or.inr ⟨rfl, rfl⟩)) (kk := ?_)
  rintro h' rfl
  exact bX11_image_11 (hq := ⟨rfl, rfl, rfl⟩)
theorem c_restore {fr : Nat} {h : AH} (hf : 2 ≤ fr) (hk : h 1 8 = 0 ∨ h 1 8 = 1) : Sp mX11_restore true fr 0 0 [zR 1] 137 h (rI (fun x h' => (h 1 8 = 0 ∧ x = 0 ∧ h' = h) ∨ (h 1 8 = 1 ∧ x = 1 ∧ h' = givenC h))) := by
  refine Sp.mk yX11_restore_ok rfl rfl ?_
  refine bX11_restore_0 (kt := fun q => ?_) (kf := fun q => ?_)
  · refine bX11_restore_9 (hS := c_copy (by omega) (Or.inl ⟨rfl, rfl⟩)) (kk := ?_)
    rintro h' rfl
    refine bX11_restore_20 (hS := c_forgetG) (kk := ?_)
    rintro h' rfl
    refine bX11_restore_27 (hS := c_forgetT) (kk := ?_)
    rintro h' rfl
    exact bX11_restore_34 (hq := ⟨_, rfl, rfl, Or.inr ⟨by omega, rfl, rfl⟩⟩)
  · exact bX11_restore_7 (hq := ⟨_, rfl, rfl, Or.inl ⟨q, rfl, rfl⟩⟩)
def takenM (h : AH) : AH := cpy (cpy (cpy (cpy (cpy (up (up (up (up (up h 98 0 0) 98 78 1) 98 79 (h 98 50)) 98 80 (h 98 68)) 98 81 (h 98 66)) 116 0 132 0 200) 117 0 133 0 200) 124 0 134 0 60) 123 0 135 0 16) 128 0 136 0 6
def givenM (h : AH) : AH := cpy (cpy (cpy (cpy (cpy (up (up (up (up h 98 0 0) 98 50 (h 98 79)) 98 68 (h 98 80)) 98 66 (h 98 81)) 132 0 116 0 200) 133 0 117 0 200) 134 0 124 0 60) 135 0 123 0 16) 136 0 128 0 6
theorem m_image {fr : Nat} {h : AH} (hf : 1 ≤ fr) : Sp mX12_image true fr 0 0 [zR 98] 137 h (rV (fun h' => h' = takenM h)) := by
  refine Sp.mk yX12_image_ok rfl rfl ?_
  refine bX12_image_0 (hS := m_copies e116 e132 (by decide)) (kk := ?_)
  rintro h' rfl
  refine bX12_image_46 (hS := m_copies e117 e133 (by decide)) (kk := ?_)
  rintro h' rfl
  refine bX12_image_58 (hS := m_copies e124 e134 (by decide)) (kk := ?_)
  rintro h' rfl
  refine bX12_image_70 (hS := m_copies e123 e135 (by decide)) (kk := ?_)
  rintro h' rfl
  refine bX12_image_82 (hS := m_copies e128 e136 (by decide)) (kk := ?_)
  rintro h' rfl
  exact bX12_image_94 (hq := ⟨rfl, rfl, rfl⟩)
theorem m_restore {fr : Nat} {h : AH} (hf : 1 ≤ fr) (hk : h 98 78 = 0 ∨ h 98 78 = 1) : Sp mX12_restore true fr 0 0 [zR 98] 137 h (rI (fun x h' => (h 98 78 = 0 ∧ x = 0 ∧ h' = up h 98 0 0) ∨ (h 98 78 = 1 ∧ x = 1 ∧ h' = givenM h))) := by
  refine Sp.mk yX12_restore_ok rfl rfl ?_
  refine bX12_restore_0 (kt := fun q => ?_) (kf := fun q => ?_)
  · refine bX12_restore_14 (hS := m_copies e132 e116 (by decide)) (kk := ?_)
    rintro h' rfl
    refine bX12_restore_50 (hS := m_copies e133 e117 (by decide)) (kk := ?_)
    rintro h' rfl
    refine bX12_restore_62 (hS := m_copies e134 e124 (by decide)) (kk := ?_)
    rintro h' rfl
    refine bX12_restore_74 (hS := m_copies e135 e123 (by decide)) (kk := ?_)
    rintro h' rfl
    refine bX12_restore_86 (hS := m_copies e136 e128 (by decide)) (kk := ?_)
    rintro h' rfl
    exact bX12_restore_98 (hq := ⟨_, rfl, rfl, Or.inr ⟨by omega, rfl, rfl⟩⟩)
  · exact bX12_restore_12 (hq := ⟨_, rfl, rfl, Or.inl ⟨q, rfl, rfl⟩⟩)
theorem m_sing {fr : Nat} {t s : Int} {h : AH} (hf : 2 ≤ fr) (rt : R32 t) (rs : R32 s) (hs : 0 ≤ h 98 1 ∧ h 98 1 ≤ 8) (hr : 0 ≤ h 98 66 ∧ h 98 66 ≤ 16) : Sp mX12_sing true fr 0 0 [zR 98, zI t, zI s] 137 h (rI (fun x h' => (((0 ≤ t ∧ t < 16) ∧ (s = -1 ∨ 0 ≤ s ∧ s < h 98 1)) ∧ x = max (h 98 66) (t + 1) ∧ h' = up (up (up h 98 0 0) 123 t s) 98 66 (max (h 98 66) (t + 1))) ∨ (¬ ((0 ≤ t ∧ t < 16) ∧ (s = -1 ∨ 0 ≤ s ∧ s < h 98 1)) ∧ h' = up h 98 0 1))) := by
  refine Sp.mk yX12_sing_ok rfl rfl ?_
  obtain ⟨s1, s2⟩ := id rs
  obtain ⟨t1, t2⟩ := id rt
  have yes : ∀ {b1 b2 : Nat}, (0 ≤ t ∧ t < 16) → (s = -1 ∨ 0 ≤ s ∧ s < h 98 1) → Wp mX12_sing (kR fr 0 0) (rI (fun x h' => (((0 ≤ t ∧ t < 16) ∧ (s = -1 ∨ 0 ≤ s ∧ s < h 98 1)) ∧ x = max (h 98 66) (t + 1) ∧ h' = up (up (up h 98 0 0) 123 t s) 98 66 (max (h 98 66) (t + 1))) ∨ (¬ ((0 ≤ t ∧ t < 16) ∧ (s = -1 ∨ 0 ≤ s ∧ s < h 98 1)) ∧ h' = up h 98 0 1))) (b1, b2) 35 [zR 98, zI t, zI s] [] 137 (up h 98 0 0) := by
    intro b1 b2 ht hs2
    refine bX12_sing_35 (r3 := by show _ ≤ h 98 66 ∧ h 98 66 < _; omega) (kt := fun q => ?_) (kf := fun q => ?_)
    · have q2 : t < h 98 66 := q
      have e : h 98 66 = max (h 98 66) (t + 1) := by omega
      exact bX12_sing_57 (kk := bX12_sing_61 (hq := ⟨_, rfl, rfl, Or.inl ⟨⟨ht, hs2⟩, e, congrArg (up (up (up h 98 0 0) 123 t s) 98 66) e⟩⟩))
    · have q2 : h 98 66 ≤ t := q
      have e : t + 1 = max (h 98 66) (t + 1) := by omega
      exact bX12_sing_51 (kk := bX12_sing_61 (hq := ⟨_, rfl, rfl, Or.inl ⟨⟨ht, hs2⟩, e, congrArg (up (up (up h 98 0 0) 123 t s) 98 66) e⟩⟩))
  refine bX12_sing_0 (hS := m_within rt R32_0 (by constructor <;> decide)) (kk := ?_)
  rintro x h' ⟨rfl, w⟩
  refine bX12_sing_13 (hS := m_right (by rcases w with ⟨rfl, -⟩ | ⟨rfl, -⟩ <;> constructor <;> decide) R32_1 (by decide) R32_0) (kk := ?_)
  rintro y h' (⟨-, w2, rfl, rfl⟩ | ⟨-, w2, rfl, rfl⟩ | ⟨w2, -⟩)
  · refine bX12_sing_17 (kt := fun w => absurd w (by decide)) (kf := fun _ => ?_)
    refine bX12_sing_20 (kt := fun q => yes (by omega) (Or.inl q)) (kf := fun q => ?_)
    refine bX12_sing_25 (hS := m_isSound (by omega) rs hs rfl) (kk := ?_)
    rintro z h' (⟨v, rfl, rfl⟩ | ⟨v, rfl, rfl⟩)
    · exact bX12_sing_30 (kt := fun _ => yes (by omega) (Or.inr v)) (kf := fun w => absurd w (by decide))
    · have v2 : ¬ (0 ≤ s ∧ s < h 98 1) := v
      refine bX12_sing_30 (kt := fun w => absurd rfl w) (kf := fun _ => ?_)
      exact bX12_sing_33 (hq := ⟨_, rfl, rfl, Or.inr ⟨by omega, up_up _ _ _ _ _⟩⟩)
  · refine bX12_sing_17 (kt := fun _ => ?_) (kf := fun w => absurd rfl w)
    exact bX12_sing_33 (hq := ⟨_, rfl, rfl, Or.inr ⟨by omega, up_up _ _ _ _ _⟩⟩)
  · exact absurd rfl w2
theorem m_stand {fr : Nat} {e x y : Int} {h : AH} (hf : 1 ≤ fr) (re : R32 e) (rx : R32 x) (ry : R32 y) : Sp mX12_stand true fr 0 0 [zR 98, zI e, zI x, zI y] 137 h (rI (fun r h' => ((0 ≤ e ∧ e < 3) ∧ ((((0 ≤ x ∧ x < 31) ∧ 0 ≤ y ∧ y < 31) ∧ r = 1 ∧ h' = up (up (up h 98 0 0) 128 (2 * e) x) 128 (2 * e + 1) y) ∨ (¬ ((0 ≤ x ∧ x < 31) ∧ 0 ≤ y ∧ y < 31) ∧ r = 0 ∧ h' = up h 98 0 0))) ∨ (¬ (0 ≤ e ∧ e < 3) ∧ h' = up h 98 0 1))) := by
  refine Sp.mk yX12_stand_ok rfl rfl ?_
  refine bX12_stand_0 (hS := m_within re R32_0 (by constructor <;> decide)) (kk := ?_)
  rintro z h' ⟨rfl, w⟩
  refine bX12_stand_12 (hS := m_right (by rcases w with ⟨rfl, -⟩ | ⟨rfl, -⟩ <;> constructor <;> decide) R32_1 (by decide) R32_0) (kk := ?_)
  rintro r h' (⟨-, w2, rfl, rfl⟩ | ⟨-, w2, rfl, rfl⟩ | ⟨w2, -⟩)
  · refine bX12_stand_16 (kt := fun w => absurd w (by decide)) (kf := fun _ => ?_)
    refine bX12_stand_19 (hS := m_within rx R32_0 (by constructor <;> decide)) (kk := ?_)
    rintro z2 h' ⟨rfl, ⟨rfl, v⟩ | ⟨rfl, v⟩⟩
    rotate_left
    · refine bX12_stand_26 (kt := fun _ => ?_) (kf := fun w => absurd rfl w)
      exact bX12_stand_39 (hq := ⟨_, rfl, rfl, Or.inl ⟨by omega, Or.inr ⟨by omega, rfl, rfl⟩⟩⟩)
    refine bX12_stand_26 (kt := fun w => absurd w (by decide)) (kf := fun _ => ?_)
    refine bX12_stand_29 (hS := m_within ry R32_0 (by constructor <;> decide)) (kk := ?_)
    rintro z3 h' ⟨rfl, ⟨rfl, v2⟩ | ⟨rfl, v2⟩⟩
    rotate_left
    · refine bX12_stand_36 (kt := fun w => absurd rfl w) (kf := fun _ => ?_)
      exact bX12_stand_39 (hq := ⟨_, rfl, rfl, Or.inl ⟨by omega, Or.inr ⟨by omega, rfl, rfl⟩⟩⟩)
    refine bX12_stand_36 (kt := fun _ => ?_) (kf := fun w => absurd w (by decide))
    exact bX12_stand_41 (hq := ⟨_, rfl, rfl, Or.inl ⟨by omega, Or.inl ⟨by omega, rfl, rfl⟩⟩⟩)
  · refine bX12_stand_16 (kt := fun _ => ?_) (kf := fun w => absurd rfl w)
    exact bX12_stand_39 (hq := ⟨_, rfl, rfl, Or.inr ⟨by omega, up_up _ _ _ _ _⟩⟩)
  · exact absurd rfl w2
