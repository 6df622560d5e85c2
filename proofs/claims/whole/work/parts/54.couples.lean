/-! ===== the class: couples; moved ===== -/
def ad (d : Int) : Int := if 0 ≤ d then d else 0 - d
theorem cnt_range {p : Nat → Bool} {a b : Nat} (hab : a ≤ b) : ∀ n, sg (fun j => if p j = true ∧ a ≤ j ∧ j < b then 1 else 0) n = cnt p (min b n) - cnt p (min a n)
  | 0 => by
    rw [Nat.min_zero, Nat.min_zero]
    exact (Int.sub_self _).symm
  | n + 1 => by
    rw [sg, cnt_range hab n]
    by_cases c1 : n < a
    · rw [if_neg (by omega), show min b (n + 1) = min b n + 1 by omega, show min a (n + 1) = min a n + 1 by omega, show min b n = n by omega, show min a n = n by omega]
      omega
    · rw [show min a (n + 1) = min a n by omega]
      by_cases c2 : n < b
      · rw [show min b (n + 1) = n + 1 by omega, show min b n = n by omega]
        have : cnt p (n + 1) = cnt p n + if p n = true then 1 else 0 := rfl
        rw [this]
        by_cases c3 : p n = true
        · rw [if_pos c3, if_pos ⟨c3, by omega, c2⟩]; omega
        · rw [if_neg c3, if_neg (fun z => c3 z.1)]; omega
      · rw [show min b (n + 1) = min b n by omega, if_neg (by omega)]; omega
/-- how many of p are in a row, so near -/
def nearRow (p : Int → Int → Bool) (st x y : Int) (row : Nat) : Int := sg (fun j : Nat => if p j row = true ∧ ad (x - j) + ad (y - row) ≤ st then 1 else 0) 31
def nearAll (p : Int → Int → Bool) (st x y : Int) : Int := sg (nearRow p st x y) 31
theorem c_chartedNear {fr : Nat} {x y st : Int} {p : Int → Int → Bool} {h : AH} (hf : 1 ≤ fr) (hx : 0 ≤ x ∧ x ≤ 30) (hy : 0 ≤ y ∧ y ≤ 30) (hs : 0 ≤ st ∧ st ≤ 60) (hC : ∀ y' x, 0 ≤ y' → y' < 31 → 0 ≤ x → x ≤ 31 → h 94 (y' * 32 + x) = cnt (fun j => p j y') x.toNat) : Sp mX5_chartedNear true fr 0 0 [zR 92, zI x, zI y, zI st] 137 h (rI (fun r h' => h' = h ∧ r = nearAll p st x y)) := by
  refine Sp.mk yX5_chartedNear_ok rfl rfl ?_
  refine bX5_chartedNear_0 (kk := ?_)
  have zero : ∀ row : Nat, st < ad (y - row) → nearRow p st x y row = 0 := fun row hrow => by
    refine sg_zero (fun j _ => ?_)
    have : 0 ≤ ad (x - j) := by unfold ad; split <;> omega
    rw [if_neg (fun z => by omega)]
  suffices H : ∀ (d row : Nat) (x7 x8 x9 : AV), (row : Int) + d = min 30 (y + st) + 1 → y - st ≤ row → Wp mX5_chartedNear (kR fr 0 0) (rI (fun r h' => h' = h ∧ r = nearAll p st x y)) (0, 0) 22 [zR 92, zI x, zI y, zI st, zI (sg (nearRow p st x y) row), zI (min 30 (y + st)), zI row, x7, x8, x9] [] 137 h by
    have := H (min 30 (y + st) + 1 - max 0 (y - st)).toNat (max 0 (y - st)).toNat none none none (by omega) (by omega)
    rw [sg_zero (fun i hi => zero i (by unfold ad; split <;> omega)), show (((max 0 (y - st)).toNat : Nat) : Int) = max 0 (y - st) by omega] at this
    exact this
  intro d
  induction d with
  | zero =>
    intro row x7 x8 x9 hrow hlo
    refine bX5_chartedNear_22 (kt := fun q => ?_) (kf := fun q => by omega)
    refine bX5_chartedNear_101 (hq := ⟨_, rfl, rfl, rfl, ?_⟩)
    unfold nearAll
    refine (sg_tail (by omega) (fun i a b => zero i (by unfold ad; split <;> omega))).symm
  | succ d ih =>
    intro row x7 x8 x9 hrow hlo
    refine bX5_chartedNear_22 (kt := fun q => by omega) (kf := fun q => ?_)
    have hre : 0 ≤ st - (if 0 ≤ y - (row : Int) then y - row else 0 - (y - row)) := by split <;> omega
    have hre2 : st - (if 0 ≤ y - (row : Int) then y - row else 0 - (y - row)) ≤ 60 := by split <;> omega
    have had : ad (y - row) = if 0 ≤ y - (row : Int) then y - row else 0 - (y - row) := rfl
    generalize hG : (if 0 ≤ y - (row : Int) then y - row else 0 - (y - row)) = A at *
    have st2 : sg (nearRow p st x y) (row + 1) = sg (nearRow p st x y) row + (h 94 (((row : Int) * 32 + min 30 (x + (st - A))) + 1) - h 94 ((row : Int) * 32 + max 0 (x - (st - A)))) := by
      rw [sg]
      congr 1
      rw [show (row : Int) * 32 + min 30 (x + (st - A)) + 1 = (row : Int) * 32 + (min 30 (x + (st - A)) + 1) by omega, hC row _ (by omega) (by omega) (by omega) (by omega), hC row _ (by omega) (by omega) (by omega) (by omega)]
      have hcr := cnt_range (p := fun j => p j row) (a := (max 0 (x - (st - A))).toNat) (b := (min 30 (x + (st - A)) + 1).toNat) (by omega) 31
      rw [show min (min 30 (x + (st - A)) + 1).toNat 31 = (min 30 (x + (st - A)) + 1).toNat by omega, show min (max 0 (x - (st - A))).toNat 31 = (max 0 (x - (st - A))).toNat by omega] at hcr
      rw [← hcr]
      unfold nearRow
      refine sg_cong (fun j hj => ?_)
      rw [had]
      by_cases c : p j row = true
      · by_cases c2 : ad (x - j) + A ≤ st
        · rw [if_pos ⟨c, c2⟩, if_pos ⟨c, by unfold ad at c2; split at c2 <;> omega⟩]
        · rw [if_neg (fun z => c2 z.2), if_neg (fun z => c2 (by unfold ad; split <;> omega))]
      · rw [if_neg (fun z => c z.1), if_neg (fun z => c z.1)]
    refine bX5_chartedNear_29 (r2 := by omega) (r3 := by rw [hG]; omega) (r4 := by rw [hG]; omega) (r5 := by rw [hG]; omega) (r6 := by rw [hG]; omega) (kk := ?_)
    rw [hG, ← st2]
    exact ih (row + 1) _ _ _ (by omega) (by omega)
