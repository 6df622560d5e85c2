/-! ===== the model: linesOf, allLines ===== -/
def pr (f : Nat → Int) : Nat → Int
  | 0 => 1
  | n + 1 => pr f n * f n
def linesD (D : DT) (f : Nat) : Int := pr (fun i => kindsD D (D 14 ((f : Int) * 3 + i))) (D 13 f).toNat
def allD (D : DT) : Int := sg (linesD D) (D 0 3).toNat
theorem m_kindOf {fr : Nat} {f i : Int} {h : AH} (hf : 0 ≤ f ∧ f < 6) (hi : 0 ≤ i ∧ i < 3) : Sp mX12_kindOf true fr 0 0 [zR 98, zI f, zI i] 137 h (rI (fun r h' => h' = h ∧ r = dM h 14 (f * 3 + i))) := by
  refine Sp.mk yX12_kindOf_ok rfl rfl ?_
  refine bX12_kindOf_0 (hq := ⟨_, rfl, rfl, rfl, ?_⟩)
  show h 102 (4 * f + 1 + i) = h 102 (4 * ((f * 3 + i) / 3) + 1 + (f * 3 + i) % 3)
  congr 1
  omega
theorem m_linesOf {fr : Nat} {f : Nat} {h : AH} (hfr : 1 ≤ fr) (hd : okD (dM h)) (hf : (f : Int) < h 98 4) : Sp mX12_linesOf true fr 0 0 [zR 98, zI f] 137 h (rI (fun r h' => h' = h ∧ r = linesD (dM h) f)) := by
  refine Sp.mk yX12_linesOf_ok rfl rfl ?_
  have F : 0 ≤ h 98 4 ∧ h 98 4 ≤ 6 := hd.2.2.2.1
  obtain ⟨hl, hk⟩ := hd.2.2.2.2.2.2.2.2.2.2.2.2.2.2 f (by omega) hf
  have hl' : 1 ≤ h 102 (4 * f) ∧ h 102 (4 * f) ≤ 3 := hl
  refine bX12_linesOf_0 (kk := ?_)
  suffices H : ∀ (d i : Nat), (i : Int) + d = h 102 (4 * f) → Wp mX12_linesOf (kR fr 0 0) (rI (fun r h' => h' = h ∧ r = linesD (dM h) f)) (0, 0) 4 [zR 98, zI f, zI (pr (fun i => kindsD (dM h) (dM h 14 ((f : Int) * 3 + i))) i), zI i] [] 137 h by
    exact H (h 102 (4 * f)).toNat 0 (by omega)
  intro d
  induction d with
  | zero =>
    intro i hi
    refine bX12_linesOf_4 (kt := fun _ => ?_) (kf := fun z => by omega)
    refine bX12_linesOf_35 (hq := ⟨_, rfl, rfl, rfl, ?_⟩)
    rw [show i = (h 102 (4 * f)).toNat by omega]
    rfl
  | succ d ih =>
    intro i hi
    refine bX12_linesOf_4 (kt := fun z => by omega) (kf := fun _ => ?_)
    have hki := hk i (by omega) (show (i : Int) < h 102 (4 * f) by omega)
    refine bX12_linesOf_16 (hS := m_kindOf (by omega) (by omega)) (kk := ?_)
    rintro x h1 ⟨e1, rfl⟩
    rw [e1]; clear e1 h1
    refine bX12_linesOf_24 (hS := m_wordsOf hd (by unfold R32; omega)) (kk := ?_)
    rintro y h1 ⟨e1, rfl⟩
    rw [e1]; clear e1 h1
    exact bX12_linesOf_27 (kk := ih (i + 1) (by omega))
theorem m_allLines {fr : Nat} {h : AH} (hfr : 2 ≤ fr) (hd : okD (dM h)) : Sp mX12_allLines true fr 0 0 [zR 98] 137 h (rI (fun r h' => h' = h ∧ r = allD (dM h))) := by
  refine Sp.mk yX12_allLines_ok rfl rfl ?_
  have F : 0 ≤ h 98 4 ∧ h 98 4 ≤ 6 := hd.2.2.2.1
  refine bX12_allLines_0 (kk := ?_)
  suffices H : ∀ (d f : Nat), (f : Int) + d = h 98 4 → Wp mX12_allLines (kR fr 0 0) (rI (fun r h' => h' = h ∧ r = allD (dM h))) (0, 0) 4 [zR 98, zI (sg (linesD (dM h)) f), zI f] [] 137 h by
    exact H (h 98 4).toNat 0 (by omega)
  intro d
  induction d with
  | zero =>
    intro f hf
    refine bX12_allLines_4 (kt := fun _ => ?_) (kf := fun z => by omega)
    refine bX12_allLines_26 (hq := ⟨_, rfl, rfl, rfl, ?_⟩)
    rw [show f = (h 98 4).toNat by omega]
    rfl
  | succ d ih =>
    intro f hf
    refine bX12_allLines_4 (kt := fun z => by omega) (kf := fun _ => ?_)
    refine bX12_allLines_12 (hS := m_linesOf (by omega) hd (by omega)) (kk := ?_)
    rintro x h1 ⟨e1, rfl⟩
    rw [e1]; clear e1 h1
    exact bX12_allLines_18 (kk := ih (f + 1) (by omega))
