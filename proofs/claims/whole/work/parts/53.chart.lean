/-! ===== the class: chart ===== -/
def charted (h h1 : AH) (p : Int → Int → Bool) (y : Int) : Prop := (∀ c, c ≠ 94 → h1 c = h c) ∧ ∀ y' x, 0 ≤ y' → y' < y → 0 ≤ x → x ≤ 31 → h1 94 (y' * 32 + x) = cnt (fun j => p j y') x.toNat
theorem c_chart {fr : Nat} {a b : Int} {h : AH} (hf : 3 ≤ fr) (hr : rootsC h) (hi : earsIn h 34) (ra : R32 a) (rb : R32 b) : Sp mX5_chart true fr 0 0 [zR 92, zR 34, zI a, zI b] 137 h (rV (fun h' => charted h h' (mat (fun e => h 38 e) (fun e => h 39 e) a b) 31)) := by
  refine Sp.mk yX5_chart_ok rfl rfl ?_
  have keep : ∀ h1 : AH, (∀ c, c ≠ 94 → h1 c = h c) → rootsC h1 ∧ earsIn h1 34 ∧ h1 38 = h 38 ∧ h1 39 = h 39 := by
    intro h1 hc
    refine ⟨?_, ?_, hc 38 (by decide), hc 39 (by decide)⟩
    · unfold rootsC at *
      rw [hc 93 (by decide)]
      exact hr
    · unfold earsIn at *
      rw [hc (34 + 4) (by decide), hc (34 + 5) (by decide)]
      exact hi
  refine bX5_chart_0 (kk := ?_)
  suffices H : ∀ (d y : Nat) (h1 : AH) (x5 x6 : AV), y + d = 31 → charted h h1 (mat (fun e => h 38 e) (fun e => h 39 e) a b) y → Wp mX5_chart (kR fr 0 0) (rV (fun h' => charted h h' (mat (fun e => h 38 e) (fun e => h 39 e) a b) 31)) (0, 0) 3 [zR 92, zR 34, zI a, zI b, zI y, x5, x6] [] 137 h1 by
    exact H 31 0 h _ _ (by omega) ⟨fun _ _ => rfl, fun y' x p q => by omega⟩
  intro d
  induction d with
  | zero =>
    intro y h1 x5 x6 hy hC
    refine bX5_chart_3 (kt := fun q => ?_) (kf := fun q => by omega)
    exact bX5_chart_82 (hq := ⟨rfl, rfl, by rw [show ((y : Nat) : Int) = 31 by omega] at hC; exact hC⟩)
  | succ d ih =>
    intro y h1 x5 x6 hy hC
    refine bX5_chart_3 (kt := fun q => by omega) (kf := fun q => ?_)
    refine bX5_chart_10 (kk := ?_)
    suffices K : ∀ (dx x : Nat) (h2 : AH), x + dx = 31 → charted h h2 (mat (fun e => h 38 e) (fun e => h 39 e) a b) y → (∀ x' : Int, 0 ≤ x' → x' < x → h2 94 ((y : Int) * 32 + x') = cnt (fun j => mat (fun e => h 38 e) (fun e => h 39 e) a b j y) x'.toNat) → Wp mX5_chart (kR fr 0 0) (rV (fun h' => charted h h' (mat (fun e => h 38 e) (fun e => h 39 e) a b) 31)) (0, 0) 16 [zR 92, zR 34, zI a, zI b, zI y, zI (cnt (fun j => mat (fun e => h 38 e) (fun e => h 39 e) a b j y) x), zI x] [] 137 h2 by
      exact K 31 0 h1 (by omega) hC (fun x' p q => by omega)
    intro dx
    induction dx with
    | zero =>
      intro x h2 hx hC2 hrow
      refine bX5_chart_16 (kt := fun q => ?_) (kf := fun q => by omega)
      have ex : x = 31 := by omega
      subst ex
      refine bX5_chart_61 (kk := ih (y + 1) _ _ _ (by omega) ⟨fun c hc => by rw [up_n hc, hC2.1 c hc], fun y' x' p q r s => ?_⟩)
      by_cases e : y' = y ∧ x' = 31
      · rw [e.1, e.2, up_ci]
        rfl
      · rw [up_cn (by omega)]
        by_cases e2 : y' = y
        · rw [e2]
          exact hrow x' r (by omega)
        · exact hC2.2 y' x' p (by omega) r s
    | succ dx ihx =>
      intro x h2 hx hC2 hrow
      refine bX5_chart_16 (kt := fun q => by omega) (kf := fun q => ?_)
      have hc3 : ∀ c, c ≠ 94 → up h2 94 ((y : Int) * 32 + x) (cnt (fun j => mat (fun e => h 38 e) (fun e => h 39 e) a b j y) x) c = h c := fun c hc => by rw [up_n hc, hC2.1 c hc]
      obtain ⟨kr, ke, k38, k39⟩ := keep _ hc3
      refine bX5_chart_23 (hS := c_matches (by omega) e34 kr ke ra rb (by omega) (by omega)) (kk := ?_)
      rintro r h3 ⟨e1, hr1⟩
      rw [e1]; clear e1 h3
      have hr2 : r = if mat (fun e => h 38 e) (fun e => h 39 e) a b x y = true then 1 else 0 := by
        rw [hr1]
        show (if mat (fun e => up h2 94 _ _ 38 e) (fun e => up h2 94 _ _ 39 e) a b x y = true then (1 : Int) else 0) = _
        rw [k38, k39]
      have st : cnt (fun j => mat (fun e => h 38 e) (fun e => h 39 e) a b j y) (x + 1) = cnt (fun j => mat (fun e => h 38 e) (fun e => h 39 e) a b j y) x + r := by
        rw [hr2]; rfl
      have this := ihx (x + 1) (up h2 94 ((y : Int) * 32 + x) (cnt (fun j => mat (fun e => h 38 e) (fun e => h 39 e) a b j y) x)) (by omega) ⟨hc3, fun y' x' p q r s => by rw [up_cn (by omega)]; exact hC2.2 y' x' p q r s⟩ (fun x' p q => by
        by_cases e : x' = x
        · rw [e, up_ci]
          rfl
        · rw [up_cn (by omega)]
          exact hrow x' p (by omega))
      rw [st] at this
      refine bX5_chart_49 (r1 := by rw [hr2]; split <;> decide) (kt := fun q2 => ?_) (kf := fun q2 => ?_)
      · rw [q2, Int.add_zero] at this
        exact bX5_chart_55 (kk := this)
      · have r1 : r = 1 := by
          by_cases c : mat (fun e => h 38 e) (fun e => h 39 e) a b x y = true
          · rw [if_pos c] at hr2; exact hr2
          · rw [if_neg c] at hr2; exact absurd hr2 q2
        rw [r1] at this
        exact bX5_chart_52 (kk := bX5_chart_55 (kk := this))
