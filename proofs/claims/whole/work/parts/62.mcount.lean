/-! ===== the model: count ===== -/
def countM (h : AH) (k : Int) : Int := if k ≤ 3 then h 98 (k + 1) else if k = 4 then h 98 50 else if k = 5 then h 98 68 else if k = 6 then h 98 16 else if k = 10 then allD (dM h) else h 107 (k - 7)
theorem m_count {fr : Nat} {k : Int} {h : AH} (hf : 3 ≤ fr) (rk : R32 k) (hd : okD (dM h)) : Sp mX12_count true fr 0 0 [zR 98, zI k] 137 h (rI (fun x h' => ((0 ≤ k ∧ k ≤ 10) ∧ x = countM h k ∧ h' = up h 98 0 0) ∨ (¬ (0 ≤ k ∧ k ≤ 10) ∧ h' = up h 98 0 1))) := by
  refine Sp.mk yX12_count_ok rfl rfl ?_
  have e0 : up h 98 0 0 98 0 = 0 := rfl
  have eD : dM (up h 98 0 0) = dM h := (keepM.up98 (by unfold perF; omega)).dM
  refine bX12_count_0 (hS := m_within rk R32_0 (by constructor <;> decide)) (kk := ?_)
  rintro x h1 ⟨e1, z⟩
  rw [e1]; clear e1 h1
  refine bX12_count_13 (hS := m_right (by rcases z with ⟨rfl, -⟩ | ⟨rfl, -⟩ <;> constructor <;> decide) R32_1 (by decide) (by rw [e0]; exact R32_0)) (kk := ?_)
  rintro y h1 (⟨-, w, rfl, rfl⟩ | ⟨-, w, rfl, rfl⟩ | ⟨w, -⟩)
  rotate_left
  · refine bX12_count_17 (kt := fun w => absurd rfl w) (kf := fun _ => bX12_count_20 (hq := ⟨_, rfl, rfl, Or.inr ⟨by omega, up_up _ _ _ _ _⟩⟩))
  · exact absurd e0 w
  have hk : 0 ≤ k ∧ k ≤ 10 := by omega
  refine bX12_count_17 (kt := fun _ => ?_) (kf := fun w => absurd w (by decide))
  have c7 : 7 ≤ k → k ≤ 9 → countM h k = h 107 (k - 7) := fun a b => by
    unfold countM
    rw [if_neg (by omega), if_neg (by omega), if_neg (by omega), if_neg (by omega), if_neg (by omega)]
  have ten : 7 ≤ k → k ≤ 9 → Wp mX12_count (kR fr 0 0) (rI (fun x h' => ((0 ≤ k ∧ k ≤ 10) ∧ x = countM h k ∧ h' = up h 98 0 0) ∨ (¬ (0 ≤ k ∧ k ≤ 10) ∧ h' = up h 98 0 1))) (0, 0) 120 [zR 98, zI k] [] 137 (up h 98 0 0) := fun a b =>
    bX12_count_120 (hq := ⟨_, rfl, rfl, Or.inl ⟨hk, by rw [c7 a b]; rfl, rfl⟩⟩)
  refine bX12_count_22 (k0 := fun q => ?_) (k1 := fun q => ?_) (k2 := fun q => ?_) (k3 := fun q => ?_) (k4 := fun q => ?_) (k5 := fun q => ?_) (k6 := fun q => ?_) (k7 := fun q => ten (by omega) (by omega)) (k8 := fun q => ten (by omega) (by omega)) (k9 := fun q => ten (by omega) (by omega)) (k10 := fun q => ?_) (kd := fun q => ?_)
  · exact bX12_count_80 (hq := ⟨_, rfl, rfl, Or.inl ⟨hk, by rw [q]; rfl, rfl⟩⟩)
  · exact bX12_count_85 (hq := ⟨_, rfl, rfl, Or.inl ⟨hk, by rw [q]; rfl, rfl⟩⟩)
  · exact bX12_count_90 (hq := ⟨_, rfl, rfl, Or.inl ⟨hk, by rw [q]; rfl, rfl⟩⟩)
  · exact bX12_count_95 (hq := ⟨_, rfl, rfl, Or.inl ⟨hk, by rw [q]; rfl, rfl⟩⟩)
  · exact bX12_count_100 (hq := ⟨_, rfl, rfl, Or.inl ⟨hk, by rw [q]; rfl, rfl⟩⟩)
  · exact bX12_count_105 (hq := ⟨_, rfl, rfl, Or.inl ⟨hk, by rw [q]; rfl, rfl⟩⟩)
  · exact bX12_count_110 (hq := ⟨_, rfl, rfl, Or.inl ⟨hk, by rw [q]; rfl, rfl⟩⟩)
  · refine bX12_count_115 (hS := m_allLines (by omega) (by rw [eD]; exact hd)) (kk := ?_)
    rintro x h1 ⟨e1, hx⟩
    rw [e1]; clear e1 h1
    exact bX12_count_119 (hq := ⟨_, rfl, rfl, Or.inl ⟨hk, by rw [hx, eD, q]; rfl, rfl⟩⟩)
  · exact ten (by omega) (by omega)
