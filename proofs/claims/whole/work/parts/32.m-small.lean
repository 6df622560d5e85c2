/-! ===== contracts: the model's small methods ===== -/
theorem up_up (h : AH) (c i v w : Int) : up (up h c i v) c i w = up h c i w := by
  funext c' i'
  simp only [up]
  by_cases e : c' = c
  · simp only [e, if_true]
    by_cases e2 : i' = i
    · simp [e2]
    · simp [e2]
  · simp only [e, if_false]
theorem m_thrown {fr : Nat} {h : AH} : Sp mX12_thrown true fr 0 0 [zR 98] 137 h (rI (fun x h' => h' = h ∧ x = h 98 0)) :=
  Sp.mk yX12_thrown_ok rfl rfl (bX12_thrown_0 (hq := ⟨_, rfl, rfl, rfl, rfl⟩))
theorem m_within {fr : Nat} {v lo hi : Int} {h : AH} (rv : R32 v) (rl : R32 lo) (rh : R32 hi) : Sp mX12_within true fr 0 0 [zI v, zI lo, zI hi] 137 h (rI (fun x h' => h' = h ∧ ((x = 1 ∧ lo ≤ v ∧ v ≤ hi) ∨ (x = 0 ∧ ¬ (lo ≤ v ∧ v ≤ hi))))) := by
  refine Sp.mk yX12_within_ok rfl rfl ?_
  obtain ⟨a1, a2⟩ := rv
  obtain ⟨b1, b2⟩ := rl
  obtain ⟨c1, c2⟩ := rh
  refine bX12_within_0 (kt := fun q => ?_) (kf := fun q => ?_)
  · exact bX12_within_14 (kk := bX12_within_15 (hq := ⟨_, rfl, rfl, rfl, Or.inr ⟨rfl, by omega⟩⟩))
  refine bX12_within_5 (kt := fun q2 => ?_) (kf := fun q2 => ?_)
  · exact bX12_within_14 (kk := bX12_within_15 (hq := ⟨_, rfl, rfl, rfl, Or.inr ⟨rfl, by omega⟩⟩))
  · exact bX12_within_10 (kk := bX12_within_15 (hq := ⟨_, rfl, rfl, rfl, Or.inl ⟨rfl, q, q2⟩⟩))
/-- right(): the first wrong is kept -/
def rightR (h : AH) (b w x : Int) (h' : AH) : Prop := (h 98 0 = 0 ∧ b ≠ 0 ∧ x = 1 ∧ h' = h) ∨ (h 98 0 = 0 ∧ b = 0 ∧ x = 0 ∧ h' = up h 98 0 w) ∨ (h 98 0 ≠ 0 ∧ x = 0 ∧ h' = h)
theorem m_right {fr : Nat} {b w : Int} {h : AH} (rb : R32 b) (rw_ : R32 w) (hw : w ≠ 0) (rt : R32 (h 98 0)) : Sp mX12_right true fr 0 0 [zR 98, zI b, zI w] 137 h (rI (rightR h b w)) := by
  refine Sp.mk yX12_right_ok rfl rfl ?_
  obtain ⟨a1, a2⟩ := rb
  obtain ⟨b1, b2⟩ := rw_
  obtain ⟨c1, c2⟩ := rt
  refine bX12_right_0 (kt := fun q => ?_) (kf := fun q => ?_)
  · refine bX12_right_16 (kt := fun q2 => ?_) (kf := fun q2 => absurd q2 q)
    exact bX12_right_27 (kk := bX12_right_28 (hq := ⟨_, rfl, rfl, Or.inr (Or.inr ⟨q, rfl, rfl⟩)⟩))
  refine bX12_right_7 (kt := fun q2 => ?_) (kf := fun q2 => ?_)
  · refine bX12_right_16 (kt := fun q3 => absurd q q3) (kf := fun q3 => ?_)
    exact bX12_right_23 (kk := bX12_right_28 (hq := ⟨_, rfl, rfl, Or.inl ⟨q, q2, rfl, rfl⟩⟩))
  · refine bX12_right_11 (kk := ?_)
    have e : up h 98 0 w 98 0 = w := up_ci _ _ _ _
    refine bX12_right_16 (r1 := by rw [e]; omega) (kt := fun q3 => ?_) (kf := fun q3 => absurd (e.symm.trans q3) hw)
    exact bX12_right_27 (kk := bX12_right_28 (hq := ⟨_, rfl, rfl, Or.inr (Or.inl ⟨q, q2, rfl, rfl⟩)⟩))
theorem m_fault {fr : Nat} {h : AH} : Sp mX12_fault true fr 0 0 [zR 98] 137 h (rI (fun x h' => h' = up h 98 0 0 ∧ x = h 98 18)) :=
  Sp.mk yX12_fault_ok rfl rfl (bX12_fault_0 (hq := ⟨_, rfl, rfl, rfl, rfl⟩))
theorem m_hush {fr : Nat} {h : AH} : Sp mX12_hush true fr 0 0 [zR 98] 137 h (rI (fun x h' => h' = up (up h 98 0 0) 98 50 0 ∧ x = h 98 50)) :=
  Sp.mk yX12_hush_ok rfl rfl (bX12_hush_0 (hq := ⟨_, rfl, rfl, rfl, rfl⟩))
theorem m_untell {fr : Nat} {h : AH} : Sp mX12_untell true fr 0 0 [zR 98] 137 h (rI (fun x h' => h' = up (up h 98 0 0) 98 68 0 ∧ x = h 98 68)) :=
  Sp.mk yX12_untell_ok rfl rfl (bX12_untell_0 (hq := ⟨_, rfl, rfl, rfl, rfl⟩))
theorem R32_1 : R32 1 := by constructor <;> decide
theorem m_wall {fr : Nat} {w k : Int} {h : AH} (hf : 1 ≤ fr) (rw_ : R32 w) (rk : R32 k) (hw : 0 ≤ h 98 2 ∧ h 98 2 ≤ 6) : Sp mX12_wall true fr 0 0 [zR 98, zI w, zI k] 137 h (rI (fun x h' => (((0 ≤ w ∧ w < h 98 2) ∧ 0 ≤ k ∧ k ≤ 5) ∧ h' = up h 98 0 0 ∧ x = h 100 (6 * w + k)) ∨ (¬ ((0 ≤ w ∧ w < h 98 2) ∧ 0 ≤ k ∧ k ≤ 5) ∧ h' = up h 98 0 1))) := by
  refine Sp.mk yX12_wall_ok rfl rfl ?_
  obtain ⟨a1, a2⟩ := id rw_
  obtain ⟨b1, b2⟩ := id rk
  have e0 : up h 98 0 0 98 0 = 0 := rfl
  have no : ∀ {b1 b2 : Nat}, ¬ ((0 ≤ w ∧ w < h 98 2) ∧ 0 ≤ k ∧ k ≤ 5) → Wp mX12_wall (kR fr 0 0) (rI (fun x h' => (((0 ≤ w ∧ w < h 98 2) ∧ 0 ≤ k ∧ k ≤ 5) ∧ h' = up h 98 0 0 ∧ x = h 100 (6 * w + k)) ∨ (¬ ((0 ≤ w ∧ w < h 98 2) ∧ 0 ≤ k ∧ k ≤ 5) ∧ h' = up h 98 0 1))) (b1, b2) 31 [zR 98, zI w, zI k] [zR 98] 137 (up h 98 0 0) := by
    intro b1 b2 hn
    refine bX12_wall_31 (kk := bX12_wall_32 (hS := m_right R32_0 R32_1 (by decide) (by rw [e0]; exact R32_0)) (kk := ?_))
    rintro x h' (⟨-, z, -⟩ | ⟨-, -, rfl, rfl⟩ | ⟨z, -⟩)
    · exact absurd rfl z
    · refine bX12_wall_36 (kt := fun _ => ?_) (kf := fun q => absurd rfl q)
      exact bX12_wall_53 (kk := bX12_wall_54 (hq := ⟨_, rfl, rfl, Or.inr ⟨hn, up_up _ _ _ _ _⟩⟩))
    · exact absurd rfl z
  refine bX12_wall_0 (kt := fun q => no (by omega)) (kf := fun q => ?_)
  refine bX12_wall_10 (r2 := by show -2147483648 ≤ h 98 2 ∧ h 98 2 < 2147483648; omega) (kt := fun q2 => no (by have q3 : h 98 2 ≤ w := q2; omega)) (kf := fun q2 => ?_)
  have q2' : w < h 98 2 := q2
  refine bX12_wall_18 (hS := m_within rk R32_0 (by constructor <;> decide)) (kk := ?_)
  rintro x h' ⟨rfl, ⟨rfl, k1, k2⟩ | ⟨rfl, z⟩⟩
  · refine bX12_wall_24 (kt := fun z => absurd z (by decide)) (kf := fun _ => ?_)
    refine bX12_wall_27 (kk := bX12_wall_32 (hS := m_right R32_1 R32_1 (by decide) (by rw [e0]; exact R32_0)) (kk := ?_))
    rintro x h' (⟨-, -, rfl, rfl⟩ | ⟨-, z, -⟩ | ⟨z, -⟩)
    · refine bX12_wall_36 (kt := fun z => absurd z (by decide)) (kf := fun _ => ?_)
      exact bX12_wall_39 (kk := bX12_wall_54 (hq := ⟨_, rfl, rfl, Or.inl ⟨by omega, rfl, rfl⟩⟩))
    · exact absurd z (by decide)
    · exact absurd rfl z
  · refine bX12_wall_24 (kt := fun _ => no (by omega)) (kf := fun z => absurd rfl z)
theorem m_word {fr : Nat} {w k : Int} {h : AH} (hf : 1 ≤ fr) (rw_ : R32 w) (rk : R32 k) (hw : 0 ≤ h 98 3 ∧ h 98 3 ≤ 8) (hl : ∀ w, 0 ≤ w → w < h 98 3 → 1 ≤ h 101 (6 * w + 1) ∧ h 101 (6 * w + 1) ≤ 4) : Sp mX12_word true fr 0 0 [zR 98, zI w, zI k] 137 h (rI (fun x h' => (((0 ≤ w ∧ w < h 98 3) ∧ 0 ≤ k ∧ k < 2 + h 101 (6 * w + 1)) ∧ h' = up h 98 0 0 ∧ x = h 101 (6 * w + k)) ∨ (¬ ((0 ≤ w ∧ w < h 98 3) ∧ 0 ≤ k ∧ k < 2 + h 101 (6 * w + 1)) ∧ h' = up h 98 0 1))) := by
  refine Sp.mk yX12_word_ok rfl rfl ?_
  obtain ⟨a1, a2⟩ := id rw_
  obtain ⟨b1, b2⟩ := id rk
  have e0 : up h 98 0 0 98 0 = 0 := rfl
  have no : ∀ {b1 b2 : Nat}, ¬ ((0 ≤ w ∧ w < h 98 3) ∧ 0 ≤ k ∧ k < 2 + h 101 (6 * w + 1)) → Wp mX12_word (kR fr 0 0) (rI (fun x h' => (((0 ≤ w ∧ w < h 98 3) ∧ 0 ≤ k ∧ k < 2 + h 101 (6 * w + 1)) ∧ h' = up h 98 0 0 ∧ x = h 101 (6 * w + k)) ∨ (¬ ((0 ≤ w ∧ w < h 98 3) ∧ 0 ≤ k ∧ k < 2 + h 101 (6 * w + 1)) ∧ h' = up h 98 0 1))) (b1, b2) 43 [zR 98, zI w, zI k] [zR 98] 137 (up h 98 0 0) := by
    intro b1 b2 hn
    refine bX12_word_43 (kk := bX12_word_44 (hS := m_right R32_0 R32_1 (by decide) (by rw [e0]; exact R32_0)) (kk := ?_))
    rintro x h' (⟨-, z, -⟩ | ⟨-, -, rfl, rfl⟩ | ⟨z, -⟩)
    · exact absurd rfl z
    · refine bX12_word_48 (kt := fun _ => ?_) (kf := fun q => absurd rfl q)
      exact bX12_word_65 (kk := bX12_word_66 (hq := ⟨_, rfl, rfl, Or.inr ⟨hn, up_up _ _ _ _ _⟩⟩))
    · exact absurd rfl z
  refine bX12_word_0 (kt := fun q => no (by omega)) (kf := fun q => ?_)
  refine bX12_word_10 (r2 := by show -2147483648 ≤ h 98 3 ∧ h 98 3 < 2147483648; omega) (kt := fun q2 => no (by have q3 : h 98 3 ≤ w := q2; omega)) (kf := fun q2 => ?_)
  have q2' : w < h 98 3 := q2
  have hl9 := hl w q q2'
  refine bX12_word_18 (kt := fun q3 => no (by omega)) (kf := fun q3 => ?_)
  refine bX12_word_22 (r3 := by show -2147483648 ≤ 2 + h 101 (6 * w + 1) ∧ 2 + h 101 (6 * w + 1) < 2147483648; omega) (kt := fun q4 => no (by have q5 : 2 + h 101 (6 * w + 1) ≤ k := q4; omega)) (kf := fun q4 => ?_)
  have q5 : k < 2 + h 101 (6 * w + 1) := q4
  refine bX12_word_39 (kk := bX12_word_44 (hS := m_right R32_1 R32_1 (by decide) (by rw [e0]; exact R32_0)) (kk := ?_))
  rintro x h' (⟨-, -, rfl, rfl⟩ | ⟨-, z, -⟩ | ⟨z, -⟩)
  · refine bX12_word_48 (kt := fun z => absurd z (by decide)) (kf := fun _ => ?_)
    exact bX12_word_51 (kk := bX12_word_66 (hq := ⟨_, rfl, rfl, Or.inl ⟨by omega, rfl, rfl⟩⟩))
  · exact absurd z (by decide)
  · exact absurd rfl z
/-- a check that is the first to be made: its answer, and what is thrown -/
def chk (h : AH) (ok : Prop) (x : Int) (h' : AH) : Prop := (ok ∧ x = 1 ∧ h' = h) ∨ (¬ ok ∧ x = 0 ∧ h' = up h 98 0 1)
theorem m_isSound {fr : Nat} {s : Int} {h : AH} (hf : 1 ≤ fr) (rs : R32 s) (hs : 0 ≤ h 98 1 ∧ h 98 1 ≤ 8) (h0 : h 98 0 = 0) : Sp mX12_isSound true fr 0 0 [zR 98, zI s] 137 h (rI (chk h (0 ≤ s ∧ s < h 98 1))) := by
  refine Sp.mk yX12_isSound_ok rfl rfl ?_
  obtain ⟨a1, a2⟩ := id rs
  have no : ∀ {b1 b2 : Nat} {x0 x1 : AV}, ¬ (0 ≤ s ∧ s < h 98 1) → Wp mX12_isSound (kR fr 0 0) (rI (chk h (0 ≤ s ∧ s < h 98 1))) (b1, b2) 17 [x0, x1] [zR 98] 137 h := by
    intro b1 b2 x0 x1 hn
    refine bX12_isSound_17 (kk := bX12_isSound_18 (hS := m_right R32_0 R32_1 (by decide) (by rw [h0]; exact R32_0)) (kk := ?_))
    rintro x h' (⟨-, z, -⟩ | ⟨-, -, rfl, rfl⟩ | ⟨z, -⟩)
    · exact absurd rfl z
    · exact bX12_isSound_22 (hq := ⟨_, rfl, rfl, Or.inr ⟨hn, rfl, rfl⟩⟩)
    · exact absurd h0 z
  refine bX12_isSound_0 (kt := fun q => no (by omega)) (kf := fun q => ?_)
  refine bX12_isSound_5 (kt := fun q2 => no (by omega)) (kf := fun q2 => ?_)
  refine bX12_isSound_13 (kk := bX12_isSound_18 (hS := m_right R32_1 R32_1 (by decide) (by rw [h0]; exact R32_0)) (kk := ?_))
  rintro x h' (⟨-, -, rfl, rfl⟩ | ⟨-, z, -⟩ | ⟨z, -⟩)
  · exact bX12_isSound_22 (hq := ⟨_, rfl, rfl, Or.inl ⟨⟨q, q2⟩, rfl, rfl⟩⟩)
  · exact absurd z (by decide)
  · exact absurd h0 z
theorem m_isHour {fr : Nat} {s : Int} {h : AH} (hf : 1 ≤ fr) (rs : R32 s) (h0 : h 98 0 = 0) : Sp mX12_isHour true fr 0 0 [zR 98, zI s] 137 h (rI (chk h (0 ≤ s ∧ s ≤ 23))) := by
  refine Sp.mk yX12_isHour_ok rfl rfl ?_
  refine bX12_isHour_0 (hS := m_within rs R32_0 (by constructor <;> decide)) (kk := ?_)
  rintro x h' ⟨rfl, z⟩
  refine bX12_isHour_8 (hS := m_right (by rcases z with ⟨rfl, -⟩ | ⟨rfl, -⟩ <;> constructor <;> decide) R32_1 (by decide) (by rw [h0]; exact R32_0)) (kk := ?_)
  rintro y h' (⟨-, w, rfl, rfl⟩ | ⟨-, w, rfl, rfl⟩ | ⟨w, -⟩)
  · exact bX12_isHour_12 (hq := ⟨_, rfl, rfl, Or.inl ⟨by omega, rfl, rfl⟩⟩)
  · exact bX12_isHour_12 (hq := ⟨_, rfl, rfl, Or.inr ⟨by omega, rfl, rfl⟩⟩)
  · exact absurd h0 w
theorem m_isWhere {fr : Nat} {e o t : Int} {h : AH} (hf : 1 ≤ fr) (re : R32 e) (ro : R32 o) (rt : R32 t) (h0 : h 98 0 = 0) : Sp mX12_isWhere true fr 0 0 [zR 98, zI e, zI o, zI t] 137 h (rI (chk h ((0 ≤ e ∧ e ≤ 2) ∧ (0 ≤ o ∧ o ≤ 23) ∧ 0 ≤ t ∧ t ≤ 399))) := by
  refine Sp.mk yX12_isWhere_ok rfl rfl ?_
  have no : ∀ {b1 b2 : Nat} {x0 x1 x2 x3 : AV}, ¬ ((0 ≤ e ∧ e ≤ 2) ∧ (0 ≤ o ∧ o ≤ 23) ∧ 0 ≤ t ∧ t ≤ 399) → Wp mX12_isWhere (kR fr 0 0) (rI (chk h ((0 ≤ e ∧ e ≤ 2) ∧ (0 ≤ o ∧ o ≤ 23) ∧ 0 ≤ t ∧ t ≤ 399))) (b1, b2) 35 [x0, x1, x2, x3] [zR 98] 137 h := by
    intro b1 b2 x0 x1 x2 x3 hn
    refine bX12_isWhere_35 (kk := bX12_isWhere_36 (hS := m_right R32_0 R32_1 (by decide) (by rw [h0]; exact R32_0)) (kk := ?_))
    rintro x h' (⟨-, z, -⟩ | ⟨-, -, rfl, rfl⟩ | ⟨z, -⟩)
    · exact absurd rfl z
    · exact bX12_isWhere_40 (hq := ⟨_, rfl, rfl, Or.inr ⟨hn, rfl, rfl⟩⟩)
    · exact absurd h0 z
  refine bX12_isWhere_0 (hS := m_within re R32_0 (by constructor <;> decide)) (kk := ?_)
  rintro x h' ⟨rfl, ⟨rfl, z⟩ | ⟨rfl, z⟩⟩
  rotate_left
  · exact bX12_isWhere_7 (kt := fun _ => no (by omega)) (kf := fun w => absurd rfl w)
  refine bX12_isWhere_7 (kt := fun w => absurd w (by decide)) (kf := fun _ => ?_)
  refine bX12_isWhere_10 (hS := m_within ro R32_0 (by constructor <;> decide)) (kk := ?_)
  rintro x h' ⟨rfl, ⟨rfl, z2⟩ | ⟨rfl, z2⟩⟩
  rotate_left
  · exact bX12_isWhere_17 (kt := fun _ => no (by omega)) (kf := fun w => absurd rfl w)
  refine bX12_isWhere_17 (kt := fun w => absurd w (by decide)) (kf := fun _ => ?_)
  refine bX12_isWhere_20 (hS := m_within rt R32_0 (by constructor <;> decide)) (kk := ?_)
  rintro x h' ⟨rfl, ⟨rfl, z3⟩ | ⟨rfl, z3⟩⟩
  rotate_left
  · exact bX12_isWhere_28 (kt := fun _ => no (by omega)) (kf := fun w => absurd rfl w)
  refine bX12_isWhere_28 (kt := fun w => absurd w (by decide)) (kf := fun _ => ?_)
  refine bX12_isWhere_31 (kk := bX12_isWhere_36 (hS := m_right R32_1 R32_1 (by decide) (by rw [h0]; exact R32_0)) (kk := ?_))
  rintro x h' (⟨-, -, rfl, rfl⟩ | ⟨-, z9, -⟩ | ⟨z9, -⟩)
  · exact bX12_isWhere_40 (hq := ⟨_, rfl, rfl, Or.inl ⟨⟨z, z2, z3⟩, rfl, rfl⟩⟩)
  · exact absurd z9 (by decide)
  · exact absurd h0 z9
theorem m_toldAt {fr : Nat} {t : Int} {h : AH} (ht : 0 ≤ t ∧ t < 60) (hT : 0 ≤ h 98 68 ∧ h 98 68 ≤ 60) : Sp mX12_toldAt true fr 0 0 [zR 98, zI t] 137 h (rI (fun x h' => h' = h ∧ x = if t < h 98 68 then h 124 t else -1)) := by
  refine Sp.mk yX12_toldAt_ok rfl rfl ?_
  refine bX12_toldAt_0 (kt := fun q => ?_) (kf := fun q => ?_)
  · exact bX12_toldAt_17 (kk := bX12_toldAt_18 (hq := ⟨_, rfl, rfl, rfl, by rw [if_neg (by omega)]⟩))
  · exact bX12_toldAt_8 (kk := bX12_toldAt_18 (hq := ⟨_, rfl, rfl, rfl, by rw [if_pos q]⟩))
theorem m_tell {fr : Nat} {s : Int} {h : AH} (hf : 2 ≤ fr) (rs : R32 s) (hs : 0 ≤ h 98 1 ∧ h 98 1 ≤ 8) (hT : 0 ≤ h 98 68 ∧ h 98 68 ≤ 60) : Sp mX12_tell true fr 0 0 [zR 98, zI s] 137 h (rI (fun x h' => ((s = -1 ∨ 0 ≤ s ∧ s < h 98 1) ∧ ((h 98 68 = 60 ∧ x = -1 ∧ h' = up (up h 98 0 0) 107 2 (h 107 2 + 1)) ∨ (h 98 68 < 60 ∧ x = h 98 68 + 1 ∧ h' = up (up (up h 98 0 0) 124 (h 98 68) s) 98 68 (h 98 68 + 1)))) ∨ (¬ (s = -1 ∨ 0 ≤ s ∧ s < h 98 1) ∧ h' = up h 98 0 1))) := by
  refine Sp.mk yX12_tell_ok rfl rfl ?_
  obtain ⟨a1, a2⟩ := id rs
  have yes : ∀ {b1 b2 : Nat}, (s = -1 ∨ 0 ≤ s ∧ s < h 98 1) → Wp mX12_tell (kR fr 0 0) (rI (fun x h' => ((s = -1 ∨ 0 ≤ s ∧ s < h 98 1) ∧ ((h 98 68 = 60 ∧ x = -1 ∧ h' = up (up h 98 0 0) 107 2 (h 107 2 + 1)) ∨ (h 98 68 < 60 ∧ x = h 98 68 + 1 ∧ h' = up (up (up h 98 0 0) 124 (h 98 68) s) 98 68 (h 98 68 + 1)))) ∨ (¬ (s = -1 ∨ 0 ≤ s ∧ s < h 98 1) ∧ h' = up h 98 0 1))) (b1, b2) 20 [zR 98, zI s] [] 137 (up h 98 0 0) := by
    intro b1 b2 hy
    refine bX12_tell_20 (r1 := by show -2147483648 ≤ h 98 68 ∧ h 98 68 < 2147483648; omega) (kt := fun q => ?_) (kf := fun q => ?_)
    · have q2 : ¬ h 98 68 = 60 := q
      exact bX12_tell_41 (r1 := by show 0 ≤ h 98 68 ∧ h 98 68 < 60; omega) (hq := ⟨_, rfl, rfl, Or.inl ⟨hy, Or.inr ⟨by omega, rfl, rfl⟩⟩⟩)
    · exact bX12_tell_29 (hq := ⟨_, rfl, rfl, Or.inl ⟨hy, Or.inl ⟨q, rfl, rfl⟩⟩⟩)
  refine bX12_tell_0 (kt := fun q => yes (Or.inl q)) (kf := fun q => ?_)
  refine bX12_tell_10 (hS := m_isSound (by omega) rs hs rfl) (kk := ?_)
  rintro x h' (⟨z, rfl, rfl⟩ | ⟨z, rfl, rfl⟩)
  · exact bX12_tell_15 (kt := fun _ => yes (Or.inr z)) (kf := fun w => absurd w (by decide))
  · refine bX12_tell_15 (kt := fun w => absurd rfl w) (kf := fun _ => ?_)
    have z2 : ¬ (0 ≤ s ∧ s < h 98 1) := z
    exact bX12_tell_18 (hq := ⟨_, rfl, rfl, Or.inr ⟨by omega, up_up _ _ _ _ _⟩⟩)
