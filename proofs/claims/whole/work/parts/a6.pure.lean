/-! ===== what a text tells stays in its ranges; each line passes a byte ===== -/
theorem bh_mono (T : Int → Int) {n p : Int} (hp : p ≤ n) : p ≤ bh T n p ∧ bh T n p ≤ n := by
  have a := pl_rng T hp
  have b := bh_rng T hp
  omega
def okS (E : DT) (a s m : Int) : Prop := okD E ∧ (0 ≤ a ∧ a < 16777216) ∧ (s = 0 ∨ s = 1) ∧ (m = 0 ∨ m = 1)
theorem ok_sound {E : DT} {x y : Int} (hd : okD E) (h8 : E 0 0 < 8) (hx : 1 ≤ x ∧ x ≤ 99) (hy : 0 ≤ y ∧ y ≤ 3) : okD (upD (upD (upD E 1 (E 0 0) x) 2 (E 0 0) y) 0 0 (E 0 0 + 1)) := by
  obtain ⟨c1, c2, c3, c4, c5, c6, c7, c8, c9, c10, c11, c12, c13, c14, c15⟩ := hd
  refine ⟨(show 0 ≤ E 0 0 + 1 ∧ E 0 0 + 1 ≤ 8 by omega), c2, c3, c4, c5, c6, c7, fun t t0 t1 => ?_, c9, c10, c11, c12, c13, fun w w0 w1 => ⟨(c14 w w0 w1).1, (c14 w w0 w1).2.1, fun i i0 i1 => ?_⟩, c15⟩
  · have t1' : t < E 0 0 + 1 := t1
    show (1 ≤ (if t = E 0 0 then x else E 1 t) ∧ (if t = E 0 0 then x else E 1 t) ≤ 99) ∧ (0 ≤ (if t = E 0 0 then y else E 2 t) ∧ (if t = E 0 0 then y else E 2 t) ≤ 3)
    by_cases e : t = E 0 0
    · rw [if_pos e, if_pos e]; exact ⟨hx, hy⟩
    · rw [if_neg e, if_neg e]; exact c8 t t0 (by omega)
  · have q := (c14 w w0 w1).2.2 i i0 i1
    show 0 ≤ E 12 (w * 4 + i) ∧ E 12 (w * 4 + i) < E 0 0 + 1
    omega
theorem ok_straight {E : DT} {x y : Int} (hd : okD E) (hx : 0 ≤ x ∧ x ≤ 40) (hy : 0 ≤ y ∧ y ≤ 40) : okD (upD (upD E 8 1 x) 8 2 y) := by
  obtain ⟨c1, c2, c3, c4, c5, c6, c7, c8, c9, c10, c11, c12, c13, c14, c15⟩ := hd
  refine ⟨c1, c2, c3, c4, c5, c6, c7, c8, c9, c10, fun e e0 e1 => ?_, c12, c13, c14, c15⟩
  show 0 ≤ (if e = 2 then y else if e = 1 then x else E 8 e) ∧ (if e = 2 then y else if e = 1 then x else E 8 e) ≤ 40
  by_cases h2 : e = 2
  · rw [if_pos h2]; exact hy
  · rw [if_neg h2]
    by_cases h1 : e = 1
    · rw [if_pos h1]; exact hx
    · rw [if_neg h1]; exact c11 e e0 e1
theorem ok_air {E : DT} {o v : Int} (hd : okD E) (hv : 0 ≤ v ∧ v ≤ 100) : okD (upD E 9 o v) := by
  obtain ⟨c1, c2, c3, c4, c5, c6, c7, c8, c9, c10, c11, c12, c13, c14, c15⟩ := hd
  refine ⟨c1, c2, c3, c4, c5, c6, c7, c8, c9, c10, c11, c12, fun e e0 e1 => ?_, c14, c15⟩
  show 0 ≤ (if e = o then v else E 9 e) ∧ (if e = o then v else E 9 e) ≤ 100
  split
  · exact hv
  · exact c13 e e0 e1
theorem ok_mask {E : DT} {x y z : Int} (hd : okD E) (hx : 1 ≤ x ∧ x ≤ 99) (hy : 0 ≤ y ∧ y ≤ 9) (hz : 0 ≤ z ∧ z ≤ 99) : okD (upD (upD (upD E 0 4 x) 0 5 y) 0 6 z) := by
  obtain ⟨c1, c2, c3, c4, c5, c6, c7, c8, c9, c10, c11, c12, c13, c14, c15⟩ := hd
  exact ⟨c1, c2, c3, c4, hx, hy, hz, c8, c9, c10, c11, c12, c13, c14, c15⟩
theorem ok_sweet {E : DT} {x y : Int} (hd : okD E) (hx : 0 ≤ x ∧ x < 8) (hy : 0 ≤ y ∧ y < 8) : okD (sweetE E x y) := by
  obtain ⟨c1, c2, c3, c4, c5, c6, c7, c8, c9, c10, c11, c12, c13, c14, c15⟩ := hd
  have b1 := bit_set (N := 8) (c9 x hx.1 hx.2).1 (by exact (c9 x hx.1 hx.2).2) hy.1 (by omega) (by decide)
  have b2 := bit_set (N := 8) (c9 y hy.1 hy.2).1 (by exact (c9 y hy.1 hy.2).2) hx.1 (by omega) (by decide)
  have p8 : (2 : Int) ^ 8 = 256 := by decide
  rw [p8] at b1 b2
  refine ⟨c1, c2, c3, c4, c5, c6, c7, c8, fun t t0 t1 => ?_, c10, c11, c12, c13, c14, c15⟩
  show 0 ≤ (if t = y then bOr (E 3 y) (1 * 2 ^ x.toNat) else if t = x then bOr (E 3 x) (1 * 2 ^ y.toNat) else E 3 t) ∧ (if t = y then bOr (E 3 y) (1 * 2 ^ x.toNat) else if t = x then bOr (E 3 x) (1 * 2 ^ y.toNat) else E 3 t) < 256
  split
  · exact ⟨b2.2.1, b2.2.2.1⟩
  · split
    · exact ⟨b1.2.1, b1.2.2.1⟩
    · exact c9 t t0 t1
/-- the words, but for the sounds of word w from the i-th on -/
def okW (E : DT) (w i : Int) : Prop := (0 ≤ w ∧ w < 8) ∧ E 0 2 = w + 1 ∧ okD (upD E 0 2 w) ∧ (0 ≤ E 10 w ∧ E 10 w ≤ 3) ∧ E 11 w = i ∧ ∀ j, 0 ≤ j → j < i → 0 ≤ E 12 (w * 4 + j) ∧ E 12 (w * 4 + j) < E 0 0
theorem okW.end {E : DT} {w i : Int} (h : okW E w i) (hi : 1 ≤ i ∧ i ≤ 4) : okD E := by
  obtain ⟨hw, e02, ⟨c1, c2, c3, c4, c5, c6, c7, c8, c9, c10, c11, c12, c13, c14, c15⟩, hk, hl, hs⟩ := h
  refine ⟨c1, c2, (show 0 ≤ E 0 2 ∧ E 0 2 ≤ 8 by omega), c4, c5, c6, c7, c8, c9, c10, c11, c12, c13, fun v v0 v1 => ?_, c15⟩
  by_cases e : v = w
  · rw [e]
    exact ⟨hk, by omega, fun j j0 j1 => hs j j0 (by omega)⟩
  · exact c14 v v0 (show v < w by omega)
theorem okW.next {E : DT} {w i v : Int} (h : okW E w i) (hi : 0 ≤ i ∧ i < 4) (hv : 0 ≤ v ∧ v < E 0 0) : okW (upD (upD E 12 (w * 4 + i) v) 11 w (i + 1)) w (i + 1) := by
  obtain ⟨hw, e02, ⟨c1, c2, c3, c4, c5, c6, c7, c8, c9, c10, c11, c12, c13, c14, c15⟩, hk, hl, hs⟩ := h
  refine ⟨hw, e02, ⟨c1, c2, c3, c4, c5, c6, c7, c8, c9, c10, c11, c12, c13, fun u u0 u1 => ?_, c15⟩, hk, upD_ci _ _ _ _, fun j j0 j1 => ?_⟩
  · have u1' : u < w := u1
    have q := c14 u u0 u1
    have e11 : upD (upD (upD E 12 (w * 4 + i) v) 11 w (i + 1)) 0 2 w 11 u = E 11 u := by
      show (if u = w then i + 1 else E 11 u) = _
      rw [if_neg (by omega)]
    refine ⟨q.1, by rw [e11]; exact q.2.1, fun j j0 j1 => ?_⟩
    rw [e11] at j1
    have q2 := q.2.2 j j0 j1
    have l4 : E 11 u ≤ 4 := q.2.1.2
    show 0 ≤ (if u * 4 + j = w * 4 + i then v else E 12 (u * 4 + j)) ∧ (if u * 4 + j = w * 4 + i then v else E 12 (u * 4 + j)) < E 0 0
    rw [if_neg (by omega)]
    exact q2
  · show 0 ≤ (if w * 4 + j = w * 4 + i then v else E 12 (w * 4 + j)) ∧ (if w * 4 + j = w * 4 + i then v else E 12 (w * 4 + j)) < E 0 0
    by_cases e : j = i
    · rw [e, if_pos rfl]; exact hv
    · rw [if_neg (by omega)]; exact hs j j0 (by omega)
theorem okW.first {E : DT} {w k : Int} (hd : okD E) (hw : E 0 2 = w) (h8 : w < 8) (hk : 0 ≤ k ∧ k ≤ 3) : okW (upD (upD (upD E 10 w k) 11 w 0) 0 2 (w + 1)) w 0 := by
  obtain ⟨c1, c2, c3, c4, c5, c6, c7, c8, c9, c10, c11, c12, c13, c14, c15⟩ := hd
  refine ⟨by omega, upD_ci _ _ _ _, ⟨c1, c2, (show 0 ≤ w ∧ w ≤ 8 by omega), c4, c5, c6, c7, c8, c9, c10, c11, c12, c13, fun u u0 u1 => ?_, c15⟩, ?_, by rw [upD_n (by decide), upD_ci], fun j j0 j1 => by omega⟩
  · have u1' : u < w := u1
    have q := c14 u u0 (by omega)
    have e11 : upD (upD (upD (upD E 10 w k) 11 w 0) 0 2 (w + 1)) 0 2 w 11 u = E 11 u := by
      show (if u = w then 0 else E 11 u) = _
      rw [if_neg (by omega)]
    refine ⟨?_, by rw [e11]; exact q.2.1, fun j j0 j1 => by rw [e11] at j1; exact q.2.2 j j0 j1⟩
    show 0 ≤ (if u = w then k else E 10 u) ∧ (if u = w then k else E 10 u) ≤ 3
    rw [if_neg (by omega)]; exact q.1
  · rw [upD_n (by decide), upD_n (by decide), upD_ci]; exact hk
def okF (E : DT) (f i : Int) : Prop := (0 ≤ f ∧ f < 6) ∧ E 0 3 = f + 1 ∧ okD (upD E 0 3 f) ∧ E 13 f = i ∧ ∀ j, 0 ≤ j → j < i → 0 ≤ E 14 (f * 3 + j) ∧ E 14 (f * 3 + j) ≤ 3
theorem okF.end {E : DT} {f i : Int} (h : okF E f i) (hi : 1 ≤ i ∧ i ≤ 3) : okD E := by
  obtain ⟨hw, e02, ⟨c1, c2, c3, c4, c5, c6, c7, c8, c9, c10, c11, c12, c13, c14, c15⟩, hl, hs⟩ := h
  refine ⟨c1, c2, c3, (show 0 ≤ E 0 3 ∧ E 0 3 ≤ 6 by omega), c5, c6, c7, c8, c9, c10, c11, c12, c13, c14, fun v v0 v1 => ?_⟩
  by_cases e : v = f
  · rw [e]
    exact ⟨by omega, fun j j0 j1 => hs j j0 (by omega)⟩
  · exact c15 v v0 (show v < f by omega)
theorem okF.next {E : DT} {f i v : Int} (h : okF E f i) (hi : 0 ≤ i ∧ i < 3) (hv : 0 ≤ v ∧ v ≤ 3) : okF (upD (upD E 14 (f * 3 + i) v) 13 f (i + 1)) f (i + 1) := by
  obtain ⟨hw, e02, ⟨c1, c2, c3, c4, c5, c6, c7, c8, c9, c10, c11, c12, c13, c14, c15⟩, hl, hs⟩ := h
  refine ⟨hw, e02, ⟨c1, c2, c3, c4, c5, c6, c7, c8, c9, c10, c11, c12, c13, c14, fun u u0 u1 => ?_⟩, upD_ci _ _ _ _, fun j j0 j1 => ?_⟩
  · have u1' : u < f := u1
    have q := c15 u u0 u1
    have e11 : upD (upD (upD E 14 (f * 3 + i) v) 13 f (i + 1)) 0 3 f 13 u = E 13 u := by
      show (if u = f then i + 1 else E 13 u) = _
      rw [if_neg (by omega)]
    refine ⟨by rw [e11]; exact q.1, fun j j0 j1 => ?_⟩
    rw [e11] at j1
    have q2 := q.2 j j0 j1
    have l4 : E 13 u ≤ 3 := q.1.2
    show 0 ≤ (if u * 3 + j = f * 3 + i then v else E 14 (u * 3 + j)) ∧ (if u * 3 + j = f * 3 + i then v else E 14 (u * 3 + j)) ≤ 3
    rw [if_neg (by omega)]
    exact q2
  · show 0 ≤ (if f * 3 + j = f * 3 + i then v else E 14 (f * 3 + j)) ∧ (if f * 3 + j = f * 3 + i then v else E 14 (f * 3 + j)) ≤ 3
    by_cases e : j = i
    · rw [e, if_pos rfl]; exact hv
    · rw [if_neg (by omega)]; exact hs j j0 (by omega)
theorem okF.first {E : DT} {f : Int} (hd : okD E) (hw : E 0 3 = f) (h8 : f < 6) : okF (upD (upD E 13 f 0) 0 3 (f + 1)) f 0 := by
  obtain ⟨c1, c2, c3, c4, c5, c6, c7, c8, c9, c10, c11, c12, c13, c14, c15⟩ := hd
  refine ⟨by omega, upD_ci _ _ _ _, ⟨c1, c2, c3, (show 0 ≤ f ∧ f ≤ 6 by omega), c5, c6, c7, c8, c9, c10, c11, c12, c13, c14, fun u u0 u1 => ?_⟩, by rw [upD_n (by decide), upD_ci], fun j j0 j1 => by omega⟩
  have u1' : u < f := u1
  have q := c15 u u0 (by omega)
  have e11 : upD (upD (upD E 13 f 0) 0 3 (f + 1)) 0 3 f 13 u = E 13 u := by
    show (if u = f then 0 else E 13 u) = _
    rw [if_neg (by omega)]
  exact ⟨by rw [e11]; exact q.1, fun j j0 j1 => by rw [e11] at j1; exact q.2 j j0 j1⟩
/-- the walls, all told -/
theorem ok_wall {E : DT} {w x y z v : Int} (hd : okD E) (hw : E 0 1 = w) (h6 : w < 6) (hx : 1 ≤ x ∧ x ≤ 40) (hy : 1 ≤ y ∧ y ≤ 40) (hz : 1 ≤ z ∧ z ≤ 40) (hv : 0 ≤ v ∧ v ≤ 100) : okD (wallE E w x y z v) := by
  obtain ⟨c1, c2, c3, c4, c5, c6, c7, c8, c9, c10, c11, c12, c13, c14, c15⟩ := hd
  refine ⟨c1, (show 0 ≤ w + 1 ∧ w + 1 ≤ 6 by omega), c3, c4, c5, c6, c7, c8, c9, fun u u0 u1 => ?_, c11, c12, c13, c14, c15⟩
  have u1' : u < w + 1 := u1
  have d4 : ∀ i, wallE E w x y z v 4 i = if i = w * 3 + 2 then z else if i = w * 3 + 1 then y else if i = w * 3 + 0 then x else E 4 i := fun _ => rfl
  have d5 : wallE E w x y z v 5 u = if u = w then v else E 5 u := rfl
  have d6 : wallE E w x y z v 6 u = if u = w then 0 else E 6 u := rfl
  have d7 : wallE E w x y z v 7 u = if u = w then 1 else E 7 u := rfl
  rw [d5, d6, d7]
  by_cases e : u = w
  · rw [if_pos e, if_pos e, if_pos e]
    refine ⟨fun t t0 t1 => ?_, hv, by decide, by decide⟩
    rw [d4]
    split
    · exact hz
    · split
      · exact hy
      · split
        · exact hx
        · omega
  · rw [if_neg e, if_neg e, if_neg e]
    have q := c10 u u0 (by omega)
    refine ⟨fun t t0 t1 => ?_, q.2⟩
    rw [d4, if_neg (by omega), if_neg (by omega), if_neg (by omega)]
    exact q.1 t t0 t1
theorem ok_swallow {E : DT} {w v : Int} (hd : okD E) (hw : 0 ≤ w ∧ w < E 0 1) (hv : 0 ≤ v ∧ v ≤ 3) : okD (upD E 6 w (bOr (E 6 w) (1 * 2 ^ v.toNat))) := by
  obtain ⟨c1, c2, c3, c4, c5, c6, c7, c8, c9, c10, c11, c12, c13, c14, c15⟩ := hd
  have q0 := c10 w hw.1 hw.2
  have b1 := bit_set (N := 4) q0.2.2.1.1 (by exact q0.2.2.1.2) hv.1 (by omega) (by decide)
  have p4 : (2 : Int) ^ 4 = 16 := by decide
  rw [p4] at b1
  refine ⟨c1, c2, c3, c4, c5, c6, c7, c8, c9, fun u u0 u1 => ?_, c11, c12, c13, c14, c15⟩
  have q := c10 u u0 u1
  refine ⟨q.1, q.2.1, ?_, q.2.2.2⟩
  show 0 ≤ (if u = w then bOr (E 6 w) (1 * 2 ^ v.toNat) else E 6 u) ∧ (if u = w then bOr (E 6 w) (1 * 2 ^ v.toNat) else E 6 u) < 16
  split
  · exact ⟨b1.2.1, b1.2.2.1⟩
  · exact q.2.2.1
theorem ok_again {E : DT} {w v : Int} (hd : okD E) (hv : 1 ≤ v ∧ v ≤ 3) : okD (upD E 7 w v) := by
  obtain ⟨c1, c2, c3, c4, c5, c6, c7, c8, c9, c10, c11, c12, c13, c14, c15⟩ := hd
  refine ⟨c1, c2, c3, c4, c5, c6, c7, c8, c9, fun u u0 u1 => ?_, c11, c12, c13, c14, c15⟩
  have q := c10 u u0 u1
  refine ⟨q.1, q.2.1, q.2.2.1, ?_⟩
  show 1 ≤ (if u = w then v else E 7 u) ∧ (if u = w then v else E 7 u) ≤ 3
  split
  · exact hv
  · exact q.2.2.2
section PureS
variable {T : Int → Int} {n p : Int} {E : DT} {a s m : Int} {S : PS}
def goodS (n p : Int) (S : PS) : Prop := okS S.2.1 S.2.2.1 S.2.2.2.1 S.2.2.2.2 ∧ p ≤ S.1 ∧ S.1 ≤ n
theorem endR_good (hp : p ≤ n) (ho : okS E a s m) (h : endR T n p E a s m = .inr S) : goodS n p S := by
  obtain ⟨k, e⟩ := endR_inr h
  rw [e]
  have := bh_mono T hp
  exact ⟨ho, this.1, this.2⟩
theorem goodS.le {q : Int} (h : goodS n q S) (hq : p ≤ q) : goodS n p S := ⟨h.1, by have := h.2.1; omega, h.2.2⟩
theorem rSound_good (hp : p ≤ n) (ho : okS E a s m) (h : rSound T n p E a s m = .inr S) : goodS n (bh T n p) S := by
  have m1 := bh_mono T hp
  have m2 := bh_mono T m1.2
  have m3 := bh_mono T m2.2
  unfold rSound at h
  split at h
  · cases h
  obtain ⟨n1, h⟩ := numK_inr h
  obtain ⟨n2, h⟩ := numK_inr h
  exact (endR_good m3.2 ⟨ok_sound ho.1 (by omega) (numF_ok n1).2.1 (numF_ok n2).2.1, ho.2⟩ h).le (by omega)
theorem rStraight_good (hp : p ≤ n) (ho : okS E a s m) (h : rStraight T n p E a s m = .inr S) : goodS n (bh T n p) S := by
  have m1 := bh_mono T hp
  have m2 := bh_mono T m1.2
  have m3 := bh_mono T m2.2
  unfold rStraight at h
  split at h
  · cases h
  obtain ⟨n1, h⟩ := numK_inr h
  obtain ⟨n2, h⟩ := numK_inr h
  exact (endR_good m3.2 ⟨ok_straight ho.1 (numF_ok n1).2.1 (numF_ok n2).2.1, ho.2.1, Or.inr rfl, ho.2.2.2⟩ h).le (by omega)
theorem rAir_good (hp : p ≤ n) (ho : okS E a s m) (h : rAir T n p E a s m = .inr S) : goodS n (bh T n p) S := by
  have m1 := bh_mono T hp
  have m2 := bh_mono T m1.2
  have m3 := bh_mono T m2.2
  unfold rAir at h
  obtain ⟨n1, h⟩ := numK_inr h
  split at h
  · cases h
  obtain ⟨n2, h⟩ := numK_inr h
  have v1 := (numF_ok n1).2.1
  have b := bit_set (N := 24) ho.2.1.1 (by exact ho.2.1.2) v1.1 (by omega) (by decide)
  have p24 : (2 : Int) ^ 24 = 16777216 := by decide
  rw [p24] at b
  exact (endR_good m3.2 ⟨ok_air ho.1 (numF_ok n2).2.1, ⟨b.2.1, b.2.2.1⟩, ho.2.2⟩ h).le (by omega)
theorem rMask_good (hp : p ≤ n) (ho : okS E a s m) (h : rMask T n p E a s m = .inr S) : goodS n (bh T n p) S := by
  have m1 := bh_mono T hp
  have m2 := bh_mono T m1.2
  have m3 := bh_mono T m2.2
  have m4 := bh_mono T m3.2
  unfold rMask at h
  split at h
  · cases h
  obtain ⟨n1, h⟩ := numK_inr h
  obtain ⟨n2, h⟩ := numK_inr h
  obtain ⟨n3, h⟩ := numK_inr h
  exact (endR_good m4.2 ⟨ok_mask ho.1 (numF_ok n1).2.1 (numF_ok n2).2.1 (numF_ok n3).2.1, ho.2.1, ho.2.2.1, Or.inr rfl⟩ h).le (by omega)
theorem rSweet_good (hp : p ≤ n) (ho : okS E a s m) (h : rSweet T n p E a s m = .inr S) : goodS n (bh T n p) S := by
  have m1 := bh_mono T hp
  have m2 := bh_mono T m1.2
  have m3 := bh_mono T m2.2
  have d0 := ho.1.1
  unfold rSweet at h
  obtain ⟨n1, h⟩ := sndK_inr h
  obtain ⟨n2, h⟩ := sndK_inr h
  have v1 := vl_rng T m1.2
  have v2 := vl_rng T m2.2
  have w1 := (sndF_ok n1).2
  have w2 := (sndF_ok n2).2
  split at h
  · cases h
  exact (endR_good m3.2 ⟨ok_sweet ho.1 (by omega) (by omega), ho.2⟩ h).le (by omega)
theorem wordL_good {w : Int} (ho : okS E a s m) : ∀ (d : Nat) (q : Int) (E1 : DT), d ≤ 4 → q ≤ n → okW E1 w (4 - d) → wordL T n w a s m d q E1 = .inr S → goodS n q S
  | 0, q, E1, _, _, _, h => by cases h
  | d + 1, q, E1, hd, hq, hw, h => by
    have m1 := bh_mono T hq
    have v1 := vl_rng T hq
    rw [wordL] at h
    obtain ⟨n1, h⟩ := sndK_inr h
    have w1 := (sndF_ok n1).2
    have nx := hw.next (v := vl T n q) (by omega) ⟨v1.1, w1⟩
    have e : (4 : Int) - ((d + 1 : Nat) : Int) = 3 - d := by omega
    rw [e] at nx
    split at h
    · exact (wordL_good ho d _ _ (by omega) m1.2 (by rw [show (4 : Int) - (d : Int) = 3 - d + 1 by omega]; exact nx) h).le m1.1
    · exact (endR_good m1.2 ⟨nx.end (by omega), ho.2⟩ h).le m1.1
theorem rWord_good (hp : p ≤ n) (ho : okS E a s m) (h : rWord T n p E a s m = .inr S) : goodS n (bh T n p) S := by
  have m1 := bh_mono T hp
  have m2 := bh_mono T m1.2
  unfold rWord at h
  split at h
  · cases h
  obtain ⟨n1, h⟩ := numK_inr h
  exact (wordL_good ho 4 _ _ (by omega) m2.2 (okW.first ho.1 rfl (by omega) (numF_ok n1).2.1) h).le m2.1
theorem formL_good {f : Int} (ho : okS E a s m) : ∀ (d : Nat) (q : Int) (E1 : DT), d ≤ 3 → q ≤ n → okF E1 f (3 - d) → formL T n f a s m d q E1 = .inr S → goodS n q S
  | 0, q, E1, _, _, _, h => by cases h
  | d + 1, q, E1, hd, hq, hw, h => by
    have m1 := bh_mono T hq
    rw [formL] at h
    obtain ⟨n1, h⟩ := numK_inr h
    have nx := hw.next (v := vl T n q) (by omega) (numF_ok n1).2.1
    have e : (3 : Int) - ((d + 1 : Nat) : Int) = 2 - d := by omega
    rw [e] at nx
    split at h
    · exact (formL_good ho d _ _ (by omega) m1.2 (by rw [show (3 : Int) - (d : Int) = 2 - d + 1 by omega]; exact nx) h).le m1.1
    · exact (endR_good m1.2 ⟨nx.end (by omega), ho.2⟩ h).le m1.1
theorem rForm_good (hp : p ≤ n) (ho : okS E a s m) (h : rForm T n p E a s m = .inr S) : goodS n (bh T n p) S := by
  have m1 := bh_mono T hp
  unfold rForm at h
  split at h
  · cases h
  exact formL_good ho 3 _ _ (by omega) m1.2 (okF.first ho.1 rfl (by omega)) h
theorem agR_good {w q : Int} (hq : q ≤ n) (ho : okS E a s m) (h : agR T n w a s m q E = .inr S) : goodS n q S := by
  have m1 := bh_mono T hq
  have m2 := bh_mono T m1.2
  unfold agR at h
  split at h
  · obtain ⟨n1, h⟩ := numK_inr h
    exact (endR_good m2.2 ⟨ok_again ho.1 (numF_ok n1).2.1, ho.2⟩ h).le (by omega)
  · exact endR_good hq ho h
theorem swL_good {w : Int} (hw0 : 0 ≤ w) : ∀ (d : Nat) (q : Int) (E1 : DT), q ≤ n → okS E1 a s m → w < E1 0 1 → swL T n w (agR T n w a s m) d q E1 = .inr S → goodS n q S
  | 0, q, E1, hq, ho, _, h => agR_good hq ho h
  | d + 1, q, E1, hq, ho, hw, h => by
    have m1 := bh_mono T hq
    rw [swL] at h
    obtain ⟨n1, h⟩ := numK_inr h
    have nx : okS (upD E1 6 w (bOr (E1 6 w) (1 * 2 ^ (vl T n q).toNat))) a s m := ⟨ok_swallow ho.1 ⟨hw0, hw⟩ (numF_ok n1).2.1, ho.2⟩
    split at h
    · cases h
    · split at h
      · exact (swL_good hw0 d _ _ m1.2 nx hw h).le m1.1
      · exact (agR_good m1.2 nx h).le m1.1
theorem rWall_good (hp : p ≤ n) (ho : okS E a s m) (h : rWall T n p E a s m = .inr S) : goodS n (bh T n p) S := by
  have m1 := bh_mono T hp
  have m2 := bh_mono T m1.2
  have m3 := bh_mono T m2.2
  have m4 := bh_mono T m3.2
  have m5 := bh_mono T m4.2
  have m6 := bh_mono T m5.2
  have w0 := ho.1.2.1
  unfold rWall at h
  split at h
  · cases h
  obtain ⟨n1, h⟩ := numK_inr h
  obtain ⟨n2, h⟩ := numK_inr h
  obtain ⟨n3, h⟩ := numK_inr h
  obtain ⟨n4, h⟩ := numK_inr h
  have ok : okS (wallE E (E 0 1) (vl T n (bh T n p)) (vl T n (bh T n (bh T n p))) (vl T n (bh T n (bh T n (bh T n p)))) (vl T n (bh T n (bh T n (bh T n (bh T n p)))))) a s m := ⟨ok_wall ho.1 rfl (by omega) (numF_ok n1).2.1 (numF_ok n2).2.1 (numF_ok n3).2.1 (numF_ok n4).2.1, ho.2⟩
  split at h
  · exact (swL_good w0.1 5 _ _ m6.2 ok (show E 0 1 < E 0 1 + 1 by omega) h).le (by omega)
  · exact (agR_good m5.2 ok h).le (by omega)
theorem rLine_good (hp : p ≤ n) (ho : okS E a s m) (h : rLine T n p E a s m = .inr S) : goodS n p S ∧ p < S.1 := by
  have br := bh_rng T hp
  have pr := pl_rng T hp
  have key : ∀ i, spl T n p (SW i) → goodS n (bh T n p) S → goodS n p S ∧ p < S.1 := fun i hs g => by
    have := br.2.2 (by rw [hs.1]; decide)
    exact ⟨g.le (by omega), by have := g.2.1; omega⟩
  unfold rLine at h
  split at h
  · rename_i c; exact key _ (cl_iff.mp c) (rSound_good hp ho h)
  split at h
  · rename_i c; exact key _ (cl_iff.mp c) (rWall_good hp ho h)
  split at h
  · rename_i c; exact key _ (cl_iff.mp c) (rStraight_good hp ho h)
  split at h
  · rename_i c; exact key _ (cl_iff.mp c) (rAir_good hp ho h)
  split at h
  · rename_i c; exact key _ (cl_iff.mp c) (rMask_good hp ho h)
  split at h
  · rename_i c; exact key _ (cl_iff.mp c) (rSweet_good hp ho h)
  split at h
  · rename_i c; exact key _ (cl_iff.mp c) (rWord_good hp ho h)
  split at h
  · rename_i c; exact key _ (cl_iff.mp c) (rForm_good hp ho h)
  · cases h
end PureS
