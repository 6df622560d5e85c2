/-! ===== the class: ways of return ===== -/
theorem sg_ins {f g : Nat → Int} {a : Nat} (h1 : ∀ i, i < a → g i = f i) (h2 : g a = 0) : ∀ {n : Nat}, a ≤ n → (∀ i, a ≤ i → i < n → g (i + 1) = f i) → sg g (n + 1) = sg f n
  | n, han, h3 => by
    by_cases e : a = n
    · subst e
      rw [sg, h2, sg_cong h1]
      omega
    · obtain ⟨k, rfl⟩ : ∃ k, n = k + 1 := ⟨n - 1, by omega⟩
      rw [sg, sg_ins (n := k) h1 h2 (by omega) (fun i x y => h3 i x (by omega)), h3 k (by omega) (by omega)]
      rfl
def ris (h : AH) (o m : Int) : Prop := ∀ i j, 0 ≤ i → i < j → j < m → h (o + 1) i < h (o + 1) j
def inW (h : AH) (o m : Int) : Prop := ∀ i, 0 ≤ i → i < m → 0 ≤ h (o + 1) i ∧ h (o + 1) i ≤ 120
def tabN (h : AH) (o d s : Int) (n : Nat) : Int := sg (fun i : Nat => if h (o + 1) i = d then h (o + 2) ((i : Int) * 8 + s) else 0) n
def tab (h : AH) (o d s : Int) : Int := tabN h o d s (h o 2).toNat
def ways (h : AH) (o : Int) : Prop := (0 ≤ h o 2 ∧ h o 2 ≤ 19) ∧ ris h o (h o 2) ∧ inW h o (h o 2)
def placed (h h' : AH) (o t x : Int) : Prop := (∀ c, c ≠ o → c ≠ o + 1 → c ≠ o + 2 → h' c = h c) ∧ (∀ i, i ≠ 2 → h' o i = h o i) ∧ (h o 2 ≤ h' o 2 ∧ h' o 2 ≤ h o 2 + 1) ∧ (0 ≤ x ∧ x < h' o 2) ∧ h' (o + 1) x = t ∧ ways h' o ∧ ∀ d s, 0 ≤ s → s < 8 → tab h' o d s = tab h o d s
/-- those behind w stand one further -/
def shift (h h' : AH) (o w m : Int) : Prop := (∀ c, c ≠ o + 1 → c ≠ o + 2 → h' c = h c) ∧ (∀ i, 0 ≤ i → i ≤ w → h' (o + 1) i = h (o + 1) i) ∧ (∀ i, w < i → i ≤ m → h' (o + 1) i = h (o + 1) (i - 1)) ∧ (∀ i s, 0 ≤ i → i ≤ w → 0 ≤ s → s < 8 → h' (o + 2) (i * 8 + s) = h (o + 2) (i * 8 + s)) ∧ (∀ i s, w < i → i ≤ m → 0 ≤ s → s < 8 → h' (o + 2) (i * 8 + s) = h (o + 2) ((i - 1) * 8 + s))
theorem shift_0 (h : AH) (o m : Int) : shift h h o m m := ⟨fun _ _ _ => rfl, fun _ _ _ => rfl, fun i a b => by omega, fun _ _ _ _ _ _ => rfl, fun i s a b => by omega⟩
theorem shift_s {h h1 : AH} {o w m : Int} (hw : 0 < w) (hm : w ≤ m) (hs : shift h h1 o w m) : shift h (cpy (up h1 (o + 1) w (h1 (o + 1) (w - 1))) (o + 2) ((w - 1) * 8) (o + 2) (w * 8) 8) o (w + (-1)) m := by
  obtain ⟨s1, s2, s3, s4, s5⟩ := hs
  have ec : ∀ c i, cpy (up h1 (o + 1) w (h1 (o + 1) (w - 1))) (o + 2) ((w - 1) * 8) (o + 2) (w * 8) 8 c i = if c = o + 2 then (if w * 8 ≤ i ∧ i < w * 8 + 8 then h1 (o + 2) ((w - 1) * 8 + (i - w * 8)) else h1 (o + 2) i) else up h1 (o + 1) w (h1 (o + 1) (w - 1)) c i := by
    intro c i
    unfold cpy
    by_cases e : c = o + 2
    · rw [if_pos e, if_pos e]
      rw [up_n (by omega)]
    · rw [if_neg e, if_neg e]
  refine ⟨fun c a b => ?_, fun i a b => ?_, fun i a b => ?_, fun i s a b c d => ?_, fun i s a b c d => ?_⟩
  · funext i
    rw [ec, if_neg b, up_n a, s1 c a b]
  · rw [ec, if_neg (by omega), up_cn (by omega), s2 i a (by omega)]
  · rw [ec, if_neg (by omega)]
    by_cases e : i = w
    · rw [e, up_ci, s2 (w - 1) (by omega) (by omega)]
    · rw [up_cn e, s3 i (by omega) b]
  · rw [ec, if_pos rfl, if_neg (by omega), s4 i s a (by omega) c d]
  · rw [ec, if_pos rfl]
    by_cases e : i = w
    · rw [if_pos (by omega), e, show (w - 1) * 8 + (w * 8 + s - w * 8) = (w - 1) * 8 + s by omega, s4 (w - 1) s (by omega) (by omega) c d]
    · rw [if_neg (by omega), s5 i s (by omega) b c d]
theorem c_place {fr : Nat} {o t : Int} {h : AH} (hf : 1 ≤ fr) (ho : o = 47 ∨ o = 84) (hw : ways h o) (hm : h o 2 < 19) (ht : 0 ≤ t ∧ t ≤ 120) : Sp mX7_place true fr 0 0 [zR o, zI t] 137 h (rI (fun x h' => placed h h' o t x)) := by
  refine Sp.mk yX7_place_ok rfl rfl ?_
  have hc : cel 137 o (7, 9) := by rcases ho with rfl | rfl <;> first | exact e47 | exact e84
  obtain ⟨⟨m0, m1⟩, hr, hl⟩ := id hw
  refine bX7_place_0 (kk := ?_)
  generalize hM : h o 2 = m at *
  suffices H : ∀ (d : Nat) (a : Int), a = d → a ≤ m → (∀ i, a ≤ i → i < m → t ≤ h (o + 1) i) → Wp mX7_place (kR fr 0 0) (rI (fun x h' => placed h h' o t x)) (0, 0) 5 [zR o, zI t, zI a, none] [] 137 h by
    exact H m.toNat m (by omega) (by omega) (fun i a b => by omega)
  -- once the place is found
  have F : ∀ a : Int, 0 ≤ a → a ≤ m → (∀ i, a ≤ i → i < m → t ≤ h (o + 1) i) → (∀ i, 0 ≤ i → i < a → h (o + 1) i < t) → Wp mX7_place (kR fr 0 0) (rI (fun x h' => placed h h' o t x)) (0, 0) 27 [zR o, zI t, zI a, none] [] 137 h := by
    intro a a0 am hi lo
    -- once there is none so long
    have G : (∀ i, a ≤ i → i < m → t < h (o + 1) i) → Wp mX7_place (kR fr 0 0) (rI (fun x h' => placed h h' o t x)) (0, 0) 47 [zR o, zI t, zI a, none] [] 137 h := by
      intro hi2
      refine bX7_place_47 (kk := ?_)
      rw [hM]
      suffices K : ∀ (d : Nat) (w : Int) (h1 : AH), w = a + d → w ≤ m → shift h h1 o w m → Wp mX7_place (kR fr 0 0) (rI (fun x h' => placed h h' o t x)) (0, 0) 52 [zR o, zI t, zI a, zI w] [] 137 h1 by
        exact K (m - a).toNat m h (by omega) (by omega) (shift_0 h o m)
      intro d
      induction d with
      | succ d ih =>
        intro w h1 e wm hs
        refine bX7_place_52 (kt := fun q => by omega) (kf := fun q => ?_)
        refine bX7_place_57 (kk := ?_)
        exact ih _ _ (by omega) (by omega) (shift_s (by omega) (by omega) hs)
      | zero =>
        intro w h1 e wm hs
        have ea : w = a := by omega
        subst ea
        refine bX7_place_52 (kt := fun q => ?_) (kf := fun q => by omega)
        refine bX7_place_100 (kk := ?_)
        obtain ⟨s1, s2, s3, s4, s5⟩ := hs
        suffices L : ∀ (d : Nat) (k : Int) (h2 : AH) (x1 : AV), 0 ≤ k → k + d = 8 → (∀ c, c ≠ o + 2 → h2 c = up h1 (o + 1) w t c) → (∀ i, (i < w * 8 ∨ w * 8 + k ≤ i) → h2 (o + 2) i = h1 (o + 2) i) → (∀ s, 0 ≤ s → s < k → h2 (o + 2) (w * 8 + s) = 0) → Wp mX7_place (kR fr 0 0) (rI (fun x h' => placed h h' o t x)) (0, 0) 109 [zR o, x1, zI w, zI k] [] 137 h2 by
          exact L 8 0 _ _ (by omega) (by omega) (fun c _ => rfl) (fun i _ => by rw [up_n (by omega)]) (fun s a b => by omega)
        intro d
        induction d with
        | succ d ih =>
          intro k h2 x1 k0 kd g1 g2 g3
          refine bX7_place_109 (kt := fun q => by omega) (kf := fun q => ?_)
          refine bX7_place_115 (kk := ?_)
          refine ih (k + 1) _ _ (by omega) (by omega) (fun c hc => by rw [up_n hc, g1 c hc]) (fun i hi => by rw [up_cn (by omega), g2 i (by omega)]) (fun s a b => ?_)
          by_cases e : s = k
          · rw [e, up_ci]
          · rw [up_cn (by omega), g3 s a (by omega)]
        | zero =>
          intro k h2 x1 k0 kd g1 g2 g3
          have k8 : k = 8 := by omega
          subst k8
          refine bX7_place_109 (kt := fun q => ?_) (kf := fun q => by omega)
          have eo : h2 o = h o := by rw [g1 o (by omega), up_n (by omega), s1 o (by omega) (by omega)]
          have el : h2 (o + 1) = up h1 (o + 1) w t (o + 1) := g1 _ (by omega)
          -- the new rows
          have lt : ∀ i, 0 ≤ i → i < w → h2 (o + 1) i = h (o + 1) i := fun i a b => by rw [el, up_cn (by omega), s2 i a (by omega)]
          have le : h2 (o + 1) w = t := by rw [el, up_ci]
          have lg : ∀ i, w < i → i ≤ m → h2 (o + 1) i = h (o + 1) (i - 1) := fun i a b => by rw [el, up_cn (by omega), s3 i a b]
          have vt : ∀ i s, 0 ≤ i → i < w → 0 ≤ s → s < 8 → h2 (o + 2) (i * 8 + s) = h (o + 2) (i * 8 + s) := fun i s a b c d => by rw [g2 _ (by omega), s4 i s a (by omega) c d]
          have vg : ∀ i s, w < i → i ≤ m → 0 ≤ s → s < 8 → h2 (o + 2) (i * 8 + s) = h (o + 2) ((i - 1) * 8 + s) := fun i s a b c d => by rw [g2 _ (by omega), s5 i s a b c d]
          have e2 : up h2 o 2 (h2 o 2 + 1) o 2 = m + 1 := by rw [up_ci, eo, hM]
          have e1 : up h2 o 2 (h2 o 2 + 1) (o + 1) = h2 (o + 1) := up_n (by omega)
          have e3 : up h2 o 2 (h2 o 2 + 1) (o + 2) = h2 (o + 2) := up_n (by omega)
          refine bX7_place_133 (hq := ⟨_, rfl, rfl, ⟨fun c a b d => ?_, fun i hi => ?_, ?_, ?_, ?_, ⟨?_, ?_, ?_⟩, fun d s a b => ?_⟩⟩)
          · rw [up_n a, g1 c d, up_n b, s1 c b d]
          · rw [up_cn hi, eo]
          · omega
          · omega
          · rw [e1, le]
          · omega
          · rw [e2]
            intro i j i0 ij jm
            rw [e1]
            by_cases c1 : i < w
            · rw [lt i i0 c1]
              by_cases c2 : j < w
              · rw [lt j (by omega) c2]
                exact hr i j i0 ij (by omega)
              · by_cases c3 : j = w
                · rw [c3, le]
                  exact lo i i0 c1
                · rw [lg j (by omega) (by omega)]
                  exact hr i (j - 1) i0 (by omega) (by omega)
            · by_cases c2 : i = w
              · rw [c2, le, lg j (by omega) (by omega)]
                exact hi2 (j - 1) (by omega) (by omega)
              · rw [lg i (by omega) (by omega), lg j (by omega) (by omega)]
                exact hr (i - 1) (j - 1) (by omega) (by omega) (by omega)
          · rw [e2]
            intro i i0 im
            rw [e1]
            by_cases c1 : i < w
            · rw [lt i i0 c1]
              exact hl i i0 (by omega)
            · by_cases c2 : i = w
              · rw [c2, le]
                exact ht
              · rw [lg i (by omega) (by omega)]
                exact hl (i - 1) (by omega) (by omega)
          · unfold tab tabN
            rw [e2, hM, e1, e3, show (m + 1).toNat = m.toNat + 1 by omega]
            refine sg_ins (a := w.toNat) (fun i hi => ?_) ?_ (by omega) (fun i h1 h2 => ?_)
            · rw [lt i (by omega) (by omega), vt i s (by omega) (by omega) a b]
            · rw [show ((w.toNat : Nat) : Int) = w by omega, g3 s a b]
              split <;> rfl
            · rw [show ((i + 1 : Nat) : Int) = (i : Int) + 1 by omega, lg _ (by omega) (by omega), vg _ s (by omega) (by omega) a b, show (i : Int) + 1 - 1 = i by omega]
    refine bX7_place_27 (kt := fun q => G (fun i x y => by omega)) (kf := fun q => ?_)
    rw [hM] at q
    have := hl a a0 q
    refine bX7_place_35 (kt := fun q2 => G (fun i x y => ?_)) (kf := fun q2 => ?_)
    · have := hi a (by omega) q
      by_cases e : i = a
      · rw [e]; omega
      · have := hr a i a0 (by omega) y
        omega
    · refine bX7_place_45 (hq := ⟨_, rfl, rfl, ⟨fun _ _ _ _ => rfl, fun _ _ => rfl, by omega, by omega, q2, hw, fun _ _ _ _ => rfl⟩⟩)
  intro d
  induction d with
  | zero =>
    intro a e am hi
    refine bX7_place_5 (kt := fun q => F a (by omega) am hi (fun i x y => by omega)) (kf := fun q => by omega)
  | succ d ih =>
    intro a e am hi
    refine bX7_place_5 (kt := fun q => by omega) (kf := fun q => ?_)
    have := hl (a - 1) (by omega) (by omega)
    refine bX7_place_9 (kt := fun q => F a (by omega) am hi (fun i x y => ?_)) (kf := fun q => ?_)
    · by_cases e : i = a - 1
      · rw [e]; exact q
      · have := hr i (a - 1) x (by omega) (by omega)
        omega
    · refine bX7_place_21 (kk := ih _ (by omega) (by omega) (fun i x y => ?_))
      by_cases e : i = a - 1
      · rw [e]; exact q
      · exact hi i (by omega) y
