/-! ===== the class: prepareLike, with what else stands in the row ===== -/
def liked2 (h h' : AH) (o g sh air : Int) (n : Int) : Prop := ((∀ c, c ≠ o → c ≠ o + 1 → c ≠ o + 2 → h' c = h c) ∧ ∀ i, (0 ≤ h (o + 2) i ∧ h (o + 2) i ≤ 1881) → 0 ≤ h' (o + 2) i ∧ h' (o + 2) i ≤ 1881) ∧ ∀ s, 0 ≤ s → s < n → h' (o + 2) s = h (g + 1) s ∧ ∀ w, 1 ≤ w → w ≤ 3 → h' (o + 2) (w * 8 + s) = thin h g sh air s
theorem rng_up {h : AH} {c i v j : Int} (hv : 0 ≤ v ∧ v ≤ 1881) (hi : 0 ≤ h c j ∧ h c j ≤ 1881) : 0 ≤ up h c i v c j ∧ up h c i v c j ≤ 1881 := by
  by_cases e : j = i
  · rw [e, up_ci]; exact hv
  · rw [up_cn e]; exact hi
theorem c_prepareLike2 {fr : Nat} {o g sh air : Int} {h : AH} (ho : isO o) (hg : isG g) (hd : okD (dC h g)) (hs : 0 ≤ sh ∧ sh ≤ 100) (ha : 0 ≤ air ∧ air ≤ 100) : Sp mX7_prepareLike true fr 0 0 [zR o, zR g, zI sh, zI air] 137 h (rV (fun h' => liked2 h h' o g sh air (h g 0) ∧ h' o 4 = 0 ∧ h' (o + 1) 0 = 0 ∧ h' o 2 = 1 ∧ ∀ i, i ≠ 2 → i ≠ 4 → h' o i = h o i)) := by
  refine Sp.mk yX7_prepareLike_ok rfl rfl ?_
  have co := ho.cel
  have cg := hg.cel
  have sep : (∀ k, 0 ≤ k → k ≤ 14 → g + k < o ∨ o + 3 < g + k) := by unfold isO isG at *; omega
  have sp0 := sep 0 (by decide) (by decide)
  rw [Int.add_zero] at sp0
  have sp1 := sep 1 (by decide) (by decide)
  have S0 := hd.1
  rw [dC0] at S0
  have hsnd : ∀ s, 0 ≤ s → s < h g 0 → 1 ≤ h (g + 1) s ∧ h (g + 1) s ≤ 99 := fun s a b => (hd.2.2.2.2.2.2.2.1 s a (by rw [dC0]; exact b)).1
  refine bX7_prepareLike_0 (kk := ?_)
  suffices H : ∀ (d s : Nat) (h1 : AH) (x5 x6 : AV), (s : Int) + d = h g 0 → liked2 h h1 o g sh air s → (∀ i, h1 o i = up h o 4 0 o i) → Wp mX7_prepareLike (kR fr 0 0) (rV (fun h' => liked2 h h' o g sh air (h g 0) ∧ h' o 4 = 0 ∧ h' (o + 1) 0 = 0 ∧ h' o 2 = 1 ∧ ∀ i, i ≠ 2 → i ≠ 4 → h' o i = h o i)) (0, 0) 8 [zR o, zR g, zI sh, zI air, zI s, x5, x6] [] 137 h1 by
    exact H (h g 0).toNat 0 _ _ _ (by omega) ⟨⟨fun c a _ _ => up_n a, fun i hi => by rw [up_n (by omega)]; exact hi⟩, fun s a b => by omega⟩ (fun _ => rfl)
  intro d
  induction d with
  | zero =>
    intro s h1 x5 x6 hsd hL h4
    have e0 : h1 g = h g := hL.1.1 g (by omega) (by omega) (by omega)
    refine bX7_prepareLike_8 (r2 := by rw [e0]; omega) (kt := fun _ => ?_) (kf := fun w => by rw [e0] at w; omega)
    refine bX7_prepareLike_86 (hq := ⟨rfl, rfl, ⟨⟨fun c a b e => ?_, fun i hi => ?_⟩, fun s' a b => ?_⟩, ?_, ?_, ?_, fun i a b => ?_⟩)
    · rw [up_n a, up_n b, hL.1.1 c a b e]
    · rw [up_n (by omega), up_n (by omega)]; exact hL.1.2 i hi
    · rw [up_n (by omega), up_n (by omega)]
      exact hL.2 s' a (by omega)
    · rw [up_cn (by decide), up_n (by omega), h4, up_ci]
    · rw [up_n (by omega), up_ci]
    · rw [up_ci]
    · rw [up_cn a, up_n (by omega), h4, up_cn b]
  | succ d ih =>
    intro s h1 x5 x6 hsd hL h4
    have e0 : h1 g = h g := hL.1.1 g (by omega) (by omega) (by omega)
    have e1 : h1 (g + 1) = h (g + 1) := hL.1.1 _ (by omega) (by omega) (by omega)
    refine bX7_prepareLike_8 (r2 := by rw [e0]; omega) (kt := fun w => by rw [e0] at w; omega) (kf := fun _ => ?_)
    have v := hsnd s (by omega) (by omega)
    have m1 := mul_rng (a := h (g + 1) s) (b := sh) (by omega) v.2 hs.1 hs.2
    have m2 := mul_rng (a := h (g + 1) s * sh / 100) (A := 99) (b := air) (by omega) (by omega) ha.1 ha.2
    have eu : up h1 (o + 2) s (h1 (g + 1) s) (g + 1) s = h (g + 1) s := by rw [up_n (by omega), e1]
    refine bX7_prepareLike_17 (r3 := by rw [eu]; omega) (r4 := by rw [eu]; omega) (kk := ?_)
    rw [eu, e1]
    suffices K : ∀ (dw w : Nat) (h2 : AH), w + dw = 4 → 1 ≤ w → liked2 h h2 o g sh air s → (∀ i, h2 o i = up h o 4 0 o i) → h2 (o + 2) s = h (g + 1) s → (∀ w', 1 ≤ w' → w' < (w : Int) → h2 (o + 2) (w' * 8 + s) = thin h g sh air s) → Wp mX7_prepareLike (kR fr 0 0) (rV (fun h' => liked2 h h' o g sh air (h g 0) ∧ h' o 4 = 0 ∧ h' (o + 1) 0 = 0 ∧ h' o 2 = 1 ∧ ∀ i, i ≠ 2 → i ≠ 4 → h' o i = h o i)) (0, 0) 53 [zR o, zR g, zI sh, zI air, zI s, zI (h (g + 1) s * sh / 100 * air / 100), zI w] [] 137 h2 by
      refine K 3 1 _ (by omega) (by omega) ⟨⟨fun c a b e => by rw [up_n e, hL.1.1 c a b e], fun i hi => rng_up (by omega) (hL.1.2 i hi)⟩, fun s' a b => ?_⟩ (fun i => by rw [up_n (by omega), h4]) (by rw [up_ci]) (fun w' a b => by omega)
      rw [up_cn (by omega)]
      exact ⟨(hL.2 s' a b).1, fun w a1 b1 => by rw [up_cn (by omega)]; exact (hL.2 s' a b).2 w a1 b1⟩
    intro dw
    induction dw with
    | zero =>
      intro w h2 hw w1 hL2 h42 hs2 hrow
      refine bX7_prepareLike_53 (kt := fun _ => ?_) (kf := fun w => by omega)
      refine bX7_prepareLike_80 (kk := ih (s + 1) h2 _ _ (by omega) ⟨hL2.1, fun s' a b => ?_⟩ h42)
      by_cases e : s' = s
      · rw [e]
        exact ⟨hs2, fun w' a1 b1 => hrow w' a1 (by omega)⟩
      · exact hL2.2 s' a (by omega)
    | succ dw ihw =>
      intro w h2 hw w1 hL2 h42 hs2 hrow
      refine bX7_prepareLike_53 (kt := fun w => by omega) (kf := fun _ => ?_)
      refine bX7_prepareLike_59 (kk := ihw (w + 1) _ (by omega) (by omega) ⟨⟨fun c a b e => by rw [up_n e, hL2.1.1 c a b e], fun i hi => rng_up (by omega) (hL2.1.2 i hi)⟩, fun s' a b => ?_⟩ (fun i => by rw [up_n (by omega), h42]) (by rw [up_cn (by omega), hs2]) (fun w' a b => ?_))
      · rw [up_cn (by omega)]
        exact ⟨(hL2.2 s' a b).1, fun w' a1 b1 => by rw [up_cn (by omega)]; exact (hL2.2 s' a b).2 w' a1 b1⟩
      · by_cases e : w' = w
        · rw [e, up_ci]
          rfl
        · rw [up_cn (by omega)]
          exact hrow w' a (by omega)
