/-! ===== the class: build ===== -/
theorem okD_cong {D D' : DT} (e : ∀ k, 0 ≤ k → k ≤ 14 → D' k = D k) (hd : okD D) : okD D' := by
  unfold okD at hd ⊢
  simp only [e 0 (by decide) (by decide), e 1 (by decide) (by decide), e 2 (by decide) (by decide), e 3 (by decide) (by decide), e 4 (by decide) (by decide), e 5 (by decide) (by decide), e 6 (by decide) (by decide), e 7 (by decide) (by decide), e 8 (by decide) (by decide), e 9 (by decide) (by decide), e 10 (by decide) (by decide), e 11 (by decide) (by decide), e 12 (by decide) (by decide), e 13 (by decide) (by decide), e 14 (by decide) (by decide)]
  exact hd
theorem ampN_cong {D D' : DT} (e : ∀ k, 0 ≤ k → k ≤ 14 → D' k = D k) (ear air fog s d : Int) (w : Nat) : ampN D' ear air fog s d w = ampN D ear air fog s d w := by
  unfold ampN foggy
  rw [e 1 (by decide) (by decide), e 4 (by decide) (by decide), e 5 (by decide) (by decide)]
theorem ampW_cong {D D' : DT} (e : ∀ k, 0 ≤ k → k ≤ 14 → D' k = D k) (ear air fog gone s d : Int) : ampW D' ear air fog gone s d = ampW D ear air fog gone s d := by
  funext w
  unfold ampW mute
  rw [ampN_cong e, e 2 (by decide) (by decide), e 6 (by decide) (by decide), e 7 (by decide) (by decide)]
theorem amp_cong {D D' : DT} (e : ∀ k, 0 ≤ k → k ≤ 14 → D' k = D k) (ear air fog gone s d : Int) : amp D' ear air fog gone s d = amp D ear air fog gone s d := by
  unfold amp
  rw [ampW_cong e, e 0 (by decide) (by decide), e 1 (by decide) (by decide), e 8 (by decide) (by decide)]
/-- the ways are those of this gorge, ear, air, fog, without that wall -/
def valid (h : AH) (o g ear air fog gone : Int) : Prop := ways h o ∧ ∀ d s, 0 ≤ s → s < 8 → tab h o d s = if s < h g 0 then amp (dC h g) ear air fog gone s d else 0
def retOk (h : AH) (o g : Int) : Prop := (h o 4 = 0 ∨ h o 4 = 1 ∧ valid h o g (h o 5) (h o 6) (h o 7) (h o 8)) ∧ R32 (h o 5) ∧ R32 (h o 6) ∧ R32 (h o 7) ∧ R32 (h o 8)
/-- walls up to w are in -/
def wallsIn (h h1 : AH) (o g ear air fog gone : Int) (w : Nat) : Prop := (∀ c, (c < o ∨ o + 3 < c) → h1 c = h c) ∧ (h1 o 4 = 1 ∧ h1 o 5 = ear ∧ h1 o 6 = air ∧ h1 o 7 = fog ∧ h1 o 8 = gone) ∧ (0 ≤ h1 o 2 ∧ h1 o 2 ≤ 1 + 3 * w) ∧ ways h1 o ∧
  ∀ d s, 0 ≤ s → s < 8 → tab h1 o d s = if s < h g 0 then (if d = h (g + 8) ear then h (g + 1) s else 0) + sg (ampW (dC h g) ear air fog gone s d) w else 0
theorem c_build {fr : Nat} {o g ear air fog gone : Int} {h : AH} (hf : 3 ≤ fr) (ho : isO o) (hg : isG g) (hd : okD (dC h g)) (hk : retOk h o g) (he : 0 ≤ ear ∧ ear < 3) (ha : 0 ≤ air ∧ air ≤ 100) (hg7 : 0 ≤ fog ∧ fog ≤ 100) (hgo : -1 ≤ gone ∧ gone < 6) :
    Sp mX7_build true fr 0 0 [zR o, zR g, zI ear, zI air, zI fog, zI gone] 137 h (rV (fun h' => (∀ c, (c < o ∨ o + 3 < c) → h' c = h c) ∧ valid h' o g ear air fog gone ∧ retOk h' o g)) := by
  refine Sp.mk yX7_build_ok rfl rfl ?_
  have co := ho.cel
  have cg := hg.cel
  have sep : (∀ k, 0 ≤ k → k ≤ 14 → g + k < o ∨ o + 3 < g + k) := by unfold isO isG at *; omega
  have sp0 := sep 0 (by decide) (by decide)
  have sp8 := sep 8 (by decide) (by decide)
  have S0 := hd.1
  have W0 := hd.2.1
  rw [dC0] at S0 W0
  obtain ⟨hb, r5, r6, r7, r8⟩ := id hk
  have r5' := id r5; have r6' := id r6; have r7' := id r7; have r8' := id r8
  unfold R32 at r5' r6' r7' r8'
  have h8r : 0 ≤ h (g + 8) ear ∧ h (g + 8) ear ≤ 40 := hd.2.2.2.2.2.2.2.2.2.2.1 ear he.1 he.2
  have h4r : h o 4 = 0 ∨ h o 4 = 1 := by rcases hb with z | ⟨z, -⟩ <;> omega
  -- anew
  have N : ∀ x6 x7 x8 : AV, Wp mX7_build (kR fr 0 0) (rV (fun h' => (∀ c, (c < o ∨ o + 3 < c) → h' c = h c) ∧ valid h' o g ear air fog gone ∧ retOk h' o g)) (0, 0) 54 [zR o, zR g, zI ear, zI air, zI fog, zI gone, x6, x7, x8] [] 137 h := by
    intro x6 x7 x8
    have eu : ∀ c, c ≠ o → up (up (up (up (up (up h o 4 1) o 5 ear) o 6 air) o 7 fog) o 8 gone) o 2 0 c = h c := fun c hc => by rw [up_n hc, up_n hc, up_n hc, up_n hc, up_n hc, up_n hc]
    have em : up (up (up (up (up (up h o 4 1) o 5 ear) o 6 air) o 7 fog) o 8 gone) o 2 0 o 2 = 0 := by rw [up_ci]
    refine bX7_build_54 (hS := c_place (by omega) ho ⟨by rw [em]; decide, by rw [em]; intro i j a b c; omega, by rw [em]; intro i a b; omega⟩ (by rw [em]; decide) (by rw [eu (g + 8) (by omega)]; omega)) (kk := ?_)
    rintro x h2 ⟨p1, p2, p3, p4, p5, p6, p7⟩
    rw [em] at p3
    have m1 : h2 o 2 = 1 := by omega
    have x0 : x = 0 := by omega
    subst x0
    have e2c : ∀ c, (c < o ∨ o + 3 < c) → h2 c = h c := fun c hc => by rw [p1 c (by omega) (by omega) (by omega), eu c (by omega)]
    have eg0 : h2 g = h g := e2c g (by rwa [Int.add_zero] at sp0)
    rw [eu (g + 8) (by omega)] at p5
    have z0 : ∀ s, 0 ≤ s → s < 8 → h2 (o + 2) (0 * 8 + s) = 0 := by
      intro s a b
      have := p7 (h (g + 8) ear) s a b
      unfold tab tabN at this
      rw [em, m1] at this
      have e1 : h2 (o + 1) ((0 : Nat) : Int) = h (g + 8) ear := p5
      simp only [show (1 : Int).toNat = 0 + 1 from rfl, show (0 : Int).toNat = 0 from rfl, sg] at this
      rw [if_pos e1] at this
      have e2 : h2 (o + 2) (((0 : Nat) : Int) * 8 + s) = h2 (o + 2) (0 * 8 + s) := rfl
      omega
    refine bX7_build_96 (r2 := by rw [eg0]; omega) (r4 := by rw [eg0]; omega) (r5 := by rw [eg0]; omega) (kk := ?_)
    rw [eg0]
    -- the walls
    suffices H : ∀ (dw w : Nat) (h1 : AH) (x2 x3 x4 x6 x7 : AV), (w : Int) + dw = h g 1 → wallsIn h h1 o g ear air fog gone w → Wp mX7_build (kR fr 0 0) (rV (fun h' => (∀ c, (c < o ∨ o + 3 < c) → h' c = h c) ∧ valid h' o g ear air fog gone ∧ retOk h' o g)) (0, 0) 122 [zR o, zR g, x2, x3, x4, zI gone, x6, x7, zI w] [] 137 h1 by
      have ec : ∀ c, c ≠ o + 2 → cpy h2 (g + 1) 0 (o + 2) (0 * 8) (h g 0) c = h2 c := fun c hc => by unfold cpy; rw [if_neg hc]
      have p2' : ∀ i, i ≠ 2 → h2 o i = up (up (up (up (up h o 4 1) o 5 ear) o 6 air) o 7 fog) o 8 gone o i := fun i hi => by rw [p2 i hi, up_cn hi]
      refine H (h g 1).toNat 0 _ _ _ _ _ _ (by omega) ⟨fun c hc => by rw [ec c (by omega), e2c c hc], ?_, ?_, ways_same (by rw [ec o (by omega)]) (ec _ (by omega)) p6, fun d s a b => ?_⟩
      · rw [ec o (by omega), p2' 4 (by decide), p2' 5 (by decide), p2' 6 (by decide), p2' 7 (by decide), p2' 8 (by decide)]
        refine ⟨?_, ?_, ?_, ?_, ?_⟩
        · rw [up_cn (by decide), up_cn (by decide), up_cn (by decide), up_cn (by decide), up_ci]
        · rw [up_cn (by decide), up_cn (by decide), up_cn (by decide), up_ci]
        · rw [up_cn (by decide), up_cn (by decide), up_ci]
        · rw [up_cn (by decide), up_ci]
        · rw [up_ci]
      · rw [ec o (by omega), m1]; decide
      · unfold tab tabN
        rw [ec o (by omega), ec (o + 1) (by omega), m1]
        simp only [show (1 : Int).toNat = 0 + 1 from rfl, sg]
        rw [show h2 (o + 1) ((0 : Nat) : Int) = h (g + 8) ear from p5]
        have ev : cpy h2 (g + 1) 0 (o + 2) (0 * 8) (h g 0) (o + 2) (((0 : Nat) : Int) * 8 + s) = if s < h g 0 then h (g + 1) s else 0 := by
          show cpy h2 (g + 1) 0 (o + 2) (0 * 8) (h g 0) (o + 2) (0 * 8 + s) = _
          unfold cpy
          rw [if_pos rfl]
          by_cases c : s < h g 0
          · rw [if_pos (by omega), if_pos c, e2c _ (sep 1 (by decide) (by decide)), show 0 + (0 * 8 + s - 0 * 8) = s by omega]
          · rw [if_neg (by omega), if_neg c, z0 s a b]
        rw [ev]
        by_cases c : s < h g 0
        · rw [if_pos c, if_pos c]
          by_cases c2 : d = h (g + 8) ear
          · rw [if_pos c2, if_pos c2.symm]; omega
          · rw [if_neg c2, if_neg (fun z => c2 z.symm)]
        · rw [if_neg c, if_neg c]; split <;> rfl
    intro dw
    induction dw with
    | zero =>
      intro w h1 x2 x3 x4 x6 x7 hw hW
      obtain ⟨v1, v2, v3, v4, v5⟩ := hW
      have e0 : h1 g = h g := v1 g (by rwa [Int.add_zero] at sp0)
      refine bX7_build_122 (r2 := by rw [e0]; omega) (kt := fun q => ?_) (kf := fun q => by rw [e0] at q; omega)
      have eD : ∀ k, 0 ≤ k → k ≤ 14 → dC h1 g k = dC h g k := fun k a b => v1 _ (sep k a b)
      have hv : valid h1 o g ear air fog gone := ⟨v4, fun d s a b => by
        rw [v5 d s a b, e0, amp_cong eD]
        by_cases c : s < h g 0
        · rw [if_pos c, if_pos c]
          unfold amp
          rw [dC0, show (h g 1).toNat = w by omega]
        · rw [if_neg c, if_neg c]⟩
      refine bX7_build_151 (hq := ⟨rfl, rfl, v1, hv, ⟨Or.inr ⟨v2.1, ?_⟩, ?_, ?_, ?_, ?_⟩⟩)
      · rw [v2.2.1, v2.2.2.1, v2.2.2.2.1, v2.2.2.2.2]
        exact hv
      · rw [v2.2.1]; unfold R32; omega
      · rw [v2.2.2.1]; unfold R32; omega
      · rw [v2.2.2.2.1]; unfold R32; omega
      · rw [v2.2.2.2.2]; unfold R32; omega
    | succ dw ih =>
      intro w h1 x2 x3 x4 x6 x7 hw hW
      obtain ⟨v1, v2, v3, v4, v5⟩ := id hW
      have e0 : h1 g = h g := v1 g (by rwa [Int.add_zero] at sp0)
      refine bX7_build_122 (r2 := by rw [e0]; omega) (kt := fun q => by rw [e0] at q; omega) (kf := fun q => ?_)
      have eD : ∀ k, 0 ≤ k → k ≤ 14 → dC h1 g k = dC h g k := fun k a b => v1 _ (sep k a b)
      refine bX7_build_131 (kt := fun q => ?_) (kf := fun q => ?_)
      · refine bX7_build_145 (kk := ih (w + 1) h1 _ _ _ _ _ (by omega) ⟨v1, v2, by omega, v4, fun d s a b => ?_⟩)
        rw [v5 d s a b]
        have : ampW (dC h g) ear air fog gone s d w = 0 := by
          unfold ampW mute
          rw [decide_eq_true q, Bool.true_or, if_pos rfl]
        rw [sg, this, Int.add_zero]
      · have d7 := (hd.2.2.2.2.2.2.2.2.2.1 w (by omega) (by rw [dC0]; omega)).2.2.2
        have d7' : 1 ≤ h (g + 7) w ∧ h (g + 7) w ≤ 3 := d7
        refine bX7_build_138 (hS := c_addWall (by omega) ho hg (okD_cong eD hd) v4 (by rw [e0]; omega) (by omega) (by omega) (by omega) (by omega)) (kk := ?_)
        rintro h3 ⟨u1, u2, u3, u4, u5⟩
        have e7 : h1 (g + 7) = h (g + 7) := eD 7 (by decide) (by decide)
        rw [e7] at u3 u5
        refine bX7_build_145 (kk := ih (w + 1) h3 _ _ _ _ _ (by omega) ⟨fun c hc => by rw [u1 c hc, v1 c hc], ?_, by omega, u4, fun d s a b => ?_⟩)
        · rw [u2 4 (by decide), u2 5 (by decide), u2 6 (by decide), u2 7 (by decide), u2 8 (by decide)]
          exact v2
        · rw [u5 d s a b, v5 d s a b, ampN_cong eD, v2.2.1, v2.2.2.1, v2.2.2.2.1, e0, show h1 (g + 6) = h (g + 6) from eD 6 (by decide) (by decide), show h1 (g + 2) = h (g + 2) from eD 2 (by decide) (by decide), sg]
          by_cases c : s < h g 0
          · rw [if_pos c, if_pos c, Int.add_assoc]
            congr 2
            unfold ampW mute
            rw [decide_eq_false q, Bool.false_or]
            show (if s < h g 0 ∧ bt (h (g + 6) w) (h (g + 2) s).toNat = false then _ else _) = if bt (h (g + 6) w) (h (g + 2) s).toNat = true then _ else _
            cases bt (h (g + 6) w) (h (g + 2) s).toNat with
            | true => rw [if_neg (by simp), if_pos rfl]
            | false => rw [if_pos ⟨c, rfl⟩, if_neg (by decide)]
          · rw [if_neg c, if_neg c, if_neg (c := s < h g 0 ∧ _) (fun z => c z.1)]; rfl
  -- kept
  have M : ∀ x6 x7 x8 : AV, Wp mX7_build (kR fr 0 0) (rV (fun h' => (∀ c, (c < o ∨ o + 3 < c) → h' c = h c) ∧ valid h' o g ear air fog gone ∧ retOk h' o g)) (0, 0) 39 [zR o, zR g, zI ear, zI air, zI fog, zI gone, x6, x7, x8] [zI 0] 137 h := by
    intro x6 x7 x8
    refine bX7_build_39 (kt := fun q => N _ _ _) (kf := fun q => ?_)
    exact bX7_build_48 (kt := fun q => N _ _ _) (kf := fun q => absurd rfl q)
  refine bX7_build_0 (kt := fun q => bX7_build_38 (kk := M _ _ _)) (kf := fun q5 => ?_)
  refine bX7_build_8 (kt := fun q => bX7_build_38 (kk := M _ _ _)) (kf := fun q6 => ?_)
  refine bX7_build_16 (kt := fun q => bX7_build_38 (kk := M _ _ _)) (kf := fun q7 => ?_)
  refine bX7_build_25 (kt := fun q => bX7_build_38 (kk := M _ _ _)) (kf := fun q8 => ?_)
  refine bX7_build_34 (kk := ?_)
  refine bX7_build_39 (kt := fun q => N _ _ _) (kf := fun q => ?_)
  refine bX7_build_48 (kt := fun q => N _ _ _) (kf := fun _ => ?_)
  refine bX7_build_53 (hq := ⟨rfl, rfl, fun _ _ => rfl, ?_, hk⟩)
  rcases hb with z | ⟨-, z⟩
  · exact absurd z q
  · rw [q5, q6, q7, q8] at z
    exact z
