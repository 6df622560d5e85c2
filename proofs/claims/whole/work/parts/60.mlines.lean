/-! ===== the model: bits, wordsOf ===== -/
def pop (x : Int) (n : Nat) : Int := cnt (fun j => bt x j) n
theorem m_bits {fr : Nat} {x : Int} {h : AH} (x0 : 0 ≤ x) (x1 : x < 2147483648) : Sp mX12_bits true fr 0 0 [zI x] 137 h (rI (fun r h' => h' = h ∧ r = pop x 31)) := by
  refine Sp.mk yX12_bits_ok rfl rfl ?_
  refine bX12_bits_0 (kk := ?_)
  suffices H : ∀ (d k : Nat), k + d = 31 → Wp mX12_bits (kR fr 0 0) (rI (fun r h' => h' = h ∧ r = pop x 31)) (0, 0) 4 [zI x, zI (pop x k), zI k] [] 137 h by
    exact H 31 0 (by omega)
  intro d
  induction d with
  | zero =>
    intro k hk
    refine bX12_bits_4 (kt := fun _ => ?_) (kf := fun w => by omega)
    exact bX12_bits_24 (hq := ⟨_, rfl, rfl, rfl, by rw [show k = 31 by omega]⟩)
  | succ d ih =>
    intro k hk
    refine bX12_bits_4 (kt := fun w => by omega) (kf := fun _ => ?_)
    refine bX12_bits_10 (kk := ?_)
    have el := bit_look (x := x) (s := (k : Int)) x0 (by omega)
    rw [Int.toNat_natCast] at el ⊢
    rw [el]
    exact ih (k + 1) (by omega)
/-- how many words of a kind -/
def kindsD (D : DT) (k : Int) : Int := cnt (fun w => decide (D 10 w = k)) (D 0 2).toNat
theorem m_wordsOf {fr : Nat} {k : Int} {h : AH} (hd : okD (dM h)) (rk : R32 k) : Sp mX12_wordsOf true fr 0 0 [zR 98, zI k] 137 h (rI (fun r h' => h' = h ∧ r = kindsD (dM h) k)) := by
  refine Sp.mk yX12_wordsOf_ok rfl rfl ?_
  obtain ⟨rk1, rk2⟩ := rk
  have W : 0 ≤ h 98 3 ∧ h 98 3 ≤ 8 := hd.2.2.1
  have hk : ∀ w, 0 ≤ w → w < h 98 3 → 0 ≤ h 101 (6 * w) ∧ h 101 (6 * w) ≤ 3 := fun w a b => (hd.2.2.2.2.2.2.2.2.2.2.2.2.2.1 w a b).1
  refine bX12_wordsOf_0 (kk := ?_)
  suffices H : ∀ (d w : Nat), (w : Int) + d = h 98 3 → Wp mX12_wordsOf (kR fr 0 0) (rI (fun r h' => h' = h ∧ r = kindsD (dM h) k)) (0, 0) 4 [zR 98, zI k, zI (cnt (fun w => decide (h 101 (6 * w) = k)) w), zI w] [] 137 h by
    exact H (h 98 3).toNat 0 (by omega)
  intro d
  induction d with
  | zero =>
    intro w hw
    refine bX12_wordsOf_4 (kt := fun _ => ?_) (kf := fun z => by omega)
    refine bX12_wordsOf_39 (hq := ⟨_, rfl, rfl, rfl, ?_⟩)
    rw [show w = (h 98 3).toNat by omega]
    rfl
  | succ d ih =>
    intro w hw
    have hkw := hk w (by omega) (by omega)
    refine bX12_wordsOf_4 (kt := fun z => by omega) (kf := fun _ => ?_)
    have this := ih (w + 1) (by omega)
    rw [show cnt (fun w => decide (h 101 (6 * w) = k)) (w + 1) = cnt (fun w => decide (h 101 (6 * w) = k)) w + if decide (h 101 (6 * w) = k) = true then 1 else 0 from rfl] at this
    refine bX12_wordsOf_12 (kt := fun q => ?_) (kf := fun q => ?_)
    · rw [if_neg (by rw [decide_eq_false q]; decide)] at this
      exact bX12_wordsOf_30 (kk := bX12_wordsOf_31 (kk := this))
    · rw [if_pos (decide_eq_true q)] at this
      exact bX12_wordsOf_26 (kk := bX12_wordsOf_31 (kk := this))
