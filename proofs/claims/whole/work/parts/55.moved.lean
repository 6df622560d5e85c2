/-! ===== the class: countCouples, moved ===== -/
def coupRow (p q : Int → Int → Bool) (st : Int) (y : Nat) : Nat → Int := fun x => if p x y = true then nearAll q st x y else 0
def coup (p q : Int → Int → Bool) (st : Int) : Int := sg (fun y => sg (coupRow p q st y) 31) 31
theorem c_countCouples {fr : Nat} {a b st : Int} {q : Int → Int → Bool} {h : AH} (hf : 3 ≤ fr) (hr : rootsC h) (hi : earsIn h 34) (ra : R32 a) (rb : R32 b) (hs : 0 ≤ st ∧ st ≤ 60) (hC : ∀ y' x, 0 ≤ y' → y' < 31 → 0 ≤ x → x ≤ 31 → h 94 (y' * 32 + x) = cnt (fun j => q j y') x.toNat) : Sp mX5_countCouples true fr 0 0 [zR 92, zR 34, zI a, zI b, zI st] 137 h (rI (fun r h' => h' = h ∧ r = coup (mat (fun e => h 38 e) (fun e => h 39 e) a b) q st)) := by
  refine Sp.mk yX5_countCouples_ok rfl rfl ?_
  refine bX5_countCouples_0 (kk := ?_)
  suffices H : ∀ (d y : Nat) (x7 : AV), y + d = 31 → Wp mX5_countCouples (kR fr 0 0) (rI (fun r h' => h' = h ∧ r = coup (mat (fun e => h 38 e) (fun e => h 39 e) a b) q st)) (0, 0) 6 [zR 92, zR 34, zI a, zI b, zI st, zI (sg (fun y => sg (coupRow (mat (fun e => h 38 e) (fun e => h 39 e) a b) q st y) 31) y), zI y, x7] [] 137 h by
    exact H 31 0 _ (by omega)
  intro d
  induction d with
  | zero =>
    intro y x7 hy
    refine bX5_countCouples_6 (kt := fun q => ?_) (kf := fun q => by omega)
    exact bX5_countCouples_64 (hq := ⟨_, rfl, rfl, rfl, by rw [show y = 31 by omega]; rfl⟩)
  | succ d ih =>
    intro y x7 hy
    refine bX5_countCouples_6 (kt := fun q => by omega) (kf := fun _ => ?_)
    refine bX5_countCouples_13 (kk := ?_)
    suffices K : ∀ (dx x : Nat), x + dx = 31 → Wp mX5_countCouples (kR fr 0 0) (rI (fun r h' => h' = h ∧ r = coup (mat (fun e => h 38 e) (fun e => h 39 e) a b) q st)) (0, 0) 16 [zR 92, zR 34, zI a, zI b, zI st, zI (sg (fun y => sg (coupRow (mat (fun e => h 38 e) (fun e => h 39 e) a b) q st y) 31) y + sg (coupRow (mat (fun e => h 38 e) (fun e => h 39 e) a b) q st y) x), zI y, zI x] [] 137 h by
      have := K 31 0 (by omega)
      rw [show sg (coupRow (mat (fun e => h 38 e) (fun e => h 39 e) a b) q st y) 0 = 0 from rfl, Int.add_zero] at this
      exact this
    intro dx
    induction dx with
    | zero =>
      intro x hx
      refine bX5_countCouples_16 (kt := fun _ => ?_) (kf := fun w => by omega)
      refine bX5_countCouples_58 (kk := ?_)
      have ex : x = 31 := by omega
      subst ex
      exact ih (y + 1) _ (by omega)
    | succ dx ihx =>
      intro x hx
      refine bX5_countCouples_16 (kt := fun w => by omega) (kf := fun _ => ?_)
      refine bX5_countCouples_23 (hS := c_matches (by omega) e34 hr hi ra rb (by omega) (by omega)) (kk := ?_)
      rintro r h3 ⟨e1, hr1⟩
      rw [e1]; clear e1 h3
      have hr2 : r = if mat (fun e => h 38 e) (fun e => h 39 e) a b x y = true then 1 else 0 := hr1
      have this := ihx (x + 1) (by omega)
      rw [sg, ← Int.add_assoc] at this
      refine bX5_countCouples_34 (r1 := by rw [hr2]; split <;> decide) (kt := fun q2 => ?_) (kf := fun q2 => ?_)
      · have hn : ¬ mat (fun e => h 38 e) (fun e => h 39 e) a b x y = true := fun z => by rw [if_pos z] at hr2; omega
        rw [show coupRow (mat (fun e => h 38 e) (fun e => h 39 e) a b) q st y x = 0 from if_neg hn, Int.add_zero] at this
        exact bX5_countCouples_52 (kk := this)
      · have hm : mat (fun e => h 38 e) (fun e => h 39 e) a b x y = true := by
          by_cases c : mat (fun e => h 38 e) (fun e => h 39 e) a b x y = true
          · exact c
          · rw [if_neg c] at hr2; exact absurd hr2 q2
        rw [show coupRow (mat (fun e => h 38 e) (fun e => h 39 e) a b) q st y x = nearAll q st x y from if_pos hm] at this
        refine bX5_countCouples_37 (hS := c_chartedNear (by omega) (by omega) (by omega) hs hC) (kk := ?_)
        rintro n h3 ⟨e1, rfl⟩
        rw [e1]; clear e1 h3
        exact bX5_countCouples_49 (kk := bX5_countCouples_52 (kk := this))
theorem c_moved {fr : Nat} {a b c d st : Int} {h : AH} (hf : 8 ≤ fr) (hr : rootsC h) (hi : earsIn h 34) (ra : R32 a) (rb : R32 b) (rc : R32 c) (rd : R32 d) (rs : R32 st) : Sp mX11_moved true fr 8 48 [zR 1, zI a, zI b, zI c, zI d, zI st] 137 h (rIx (fun x h' => (0 ≤ st ∧ st ≤ 60) ∧ x = coup (mat (fun e => h 38 e) (fun e => h 39 e) a b) (mat (fun e => h 38 e) (fun e => h 39 e) c d) st ∧ ∀ c, c ≠ 94 → h' c = h c) (fun E h' => h' = h ∧ E = IAE ∧ ¬ (0 ≤ st ∧ st ≤ 60))) := by
  refine Sp.mk yX11_moved_ok rfl rfl ?_
  obtain ⟨rs1, rs2⟩ := id rs
  refine bX11_moved_0 (kt := fun q => bX11_moved_12 (hq := ⟨rfl, Or.inr ⟨_, rfl, rfl, rfl, by omega⟩⟩)) (kf := fun q => ?_)
  refine bX11_moved_5 (kt := fun q2 => ?_) (kf := fun q2 => bX11_moved_12 (hq := ⟨rfl, Or.inr ⟨_, rfl, rfl, rfl, by omega⟩⟩))
  refine bX11_moved_20 (hS := c_chart (by omega) hr hi rc rd) (kk := ?_)
  rintro h1 ⟨k1, k2⟩
  have kr : rootsC h1 := by
    unfold rootsC at *
    rw [k1 93 (by decide)]
    exact hr
  have ke : earsIn h1 34 := by
    unfold earsIn at *
    rw [k1 (34 + 4) (by decide), k1 (34 + 5) (by decide)]
    exact hi
  refine bX11_moved_34 (hS := c_countCouples (by omega) kr ke ra rb ⟨q, q2⟩ k2) (kk := ?_)
  rintro x h2 ⟨e1, hx⟩
  rw [e1]; clear e1 h2
  rw [k1 38 (by decide), k1 39 (by decide)] at hx
  exact bX11_moved_49 (hq := ⟨rfl, Or.inl ⟨_, rfl, ⟨q, q2⟩, hx, k1⟩⟩)
