/-! ===== the model: falls ===== -/
def togM (H : Int → Int → Prop) (k m : Int) (T : Int → Int) : Prop := ∀ a : Nat, a < 16 → m16 (T a) ∧ ∀ j : Nat, bt (T a) j = true ↔ (togB H k a j ∨ ((j < 16 ∧ ¬ a = j) ∧ (((a : Int) = k ∧ (j : Int) < m ∧ H a j) ∨ ((j : Int) = k ∧ (a : Int) < m ∧ H j a))))
theorem togM.next {H : Int → Int → Prop} {k m : Int} {T : Int → Int} (hm : 16 ≤ m) (h : togM H k m T) : togP H (k + 1) T := by
  refine togQ.next (m := m) hm (fun a ha => ⟨(h a ha).1, fun j => ((h a ha).2 j).trans ?_⟩)
  constructor
  · rintro (z | ⟨z1, ⟨z2, z3, z4⟩ | z2⟩)
    · exact Or.inl z
    · exact Or.inr ⟨z1, Or.inl ⟨z2, z4⟩⟩
    · exact Or.inr ⟨z1, Or.inr z2⟩
  · rintro (z | ⟨z1, ⟨z2, z4⟩ | z2⟩)
    · exact Or.inl z
    · exact Or.inr ⟨z1, Or.inl ⟨z2, by omega, z4⟩⟩
    · exact Or.inr ⟨z1, Or.inr z2⟩
theorem heardAs_s {A : Int → Int → Int} {nS least win mar s g t b : Int} (hl : 1 ≤ least) (h : heardAs (lamG A s g) nS least win mar t b) : b = s := by
  have := h.2.1
  unfold lamG at this
  by_cases e : b = s
  · exact e
  · rw [if_neg e] at this; omega
theorem m_falls {fr : Nat} {s : Int} {h : AH} (hf : 2 ≤ fr) (ho : okM h) (s0 : 0 ≤ s) (s1 : s < h 98 1) :
    Sp mX12_falls true fr 0 0 [zR 98, zI s] 137 h (rV (fun h' => (keepM h h' ∧ h' 98 0 = h 98 0) ∧ togP (gapH (ampR h) (h 98 1) (h 98 5) (h 98 6) (h 98 7) s) 16 (fun a => h' 131 a))) := by
  refine Sp.mk yX12_falls_ok rfl rfl ?_
  obtain ⟨hd, h46, h47, -⟩ := id ho
  have hS : 0 ≤ h 98 1 ∧ h 98 1 ≤ 8 := hd.1
  have hL : 1 ≤ h 98 5 ∧ h 98 5 ≤ 99 := hd.2.2.2.2.1
  have hWi : 0 ≤ h 98 6 ∧ h 98 6 ≤ 9 := hd.2.2.2.2.2.1
  have hMa : 0 ≤ h 98 7 ∧ h 98 7 ≤ 99 := hd.2.2.2.2.2.2.1
  have hai : 0 ≤ h 104 12 ∧ h 104 12 ≤ 100 := hd.2.2.2.2.2.2.2.2.2.2.2.2.1 12 (by decide) (by decide)
  generalize hH : gapH (ampR h) (h 98 1) (h 98 5) (h 98 6) (h 98 7) s = H
  refine bX12_falls_0 (kk := ?_)
  have main : ∀ (d k : Nat) (h1 : AH) (x3 : AV), k + d = 16 → keepM h h1 → h1 98 0 = h 98 0 → togP H k (fun a => h1 131 a) → Wp mX12_falls (kR fr 0 0) (rV (fun h' => (keepM h h' ∧ h' 98 0 = h 98 0) ∧ togP H 16 (fun a => h' 131 a))) (0, 0) 23 [zR 98, zI s, zI k, x3] [] 137 h1 := by
    intro d
    induction d with
    | zero =>
      intro k h1 x3 hk k1 t1 ht
      refine bX12_falls_23 (kt := fun _ => ?_) (kf := fun q => by omega)
      refine bX12_falls_115 (hq := ⟨rfl, rfl, ⟨k1, t1⟩, ?_⟩)
      rw [show (16 : Int) = k by omega]
      exact ht
    | succ d ih =>
      intro k h1 x3 hk k1 t1 ht
      refine bX12_falls_23 (kt := fun q => by omega) (kf := fun _ => ?_)
      refine bX12_falls_29 (hS := m_opens (by decide)) (kk := ?_)
      intro h2 hop
      have e1 : h1 98 1 = h 98 1 := k1.2 1 (by unfold perF; omega)
      have eO : ∀ i, i ≠ 45 → i ≠ 48 → i ≠ 49 → opened h1 60 0 12 98 i = h1 98 i := fun i a b c => opened_i a b c
      have sa : sayAt (opened h1 60 0 12) := by
        unfold sayAt
        rw [dM_opened, k1.dM, eO 46 (by decide) (by decide) (by decide), eO 47 (by decide) (by decide) (by decide), k1.2 46 (by unfold perF; omega), k1.2 47 (by unfold perF; omega), h46, h47]
        exact ⟨hd, show (0 : Int) ≤ 60 ∧ (60 : Int) ≤ 400 by decide, show (0 : Int) ≤ 0 ∧ (0 : Int) < 3 by decide, show (0 : Int) ≤ 12 ∧ (12 : Int) < 24 by decide, by decide, by decide⟩
      have eAm : ampM (opened h1 60 0 12) s = ampR h s := by
        funext d
        unfold ampM ampR
        rw [dM_opened, k1.dM, eO 46 (by decide) (by decide) (by decide), eO 47 (by decide) (by decide) (by decide), k1.2 46 (by unfold perF; omega), k1.2 47 (by unfold perF; omega), h46, h47, opened_c (show (104 : Int) ≠ 98 by decide), k1.1 104 (by unfold perC; omega)]
        rfl
      have s1' : s < opened h1 60 0 12 98 1 := by rw [eO 1 (by decide) (by decide) (by decide), e1]; exact s1
      refine bX12_falls_38 (hS := m_saysRow (by omega) sa hop ⟨s0, s1'⟩ (by decide)) (kk := ?_)
      intro h3 hop3
      refine bX12_falls_44 (hS := m_saysRow (by omega) sa hop3 ⟨s0, s1'⟩ (by omega)) (kk := ?_)
      intro h4 hop4
      have hrow : isRow (opened h1 60 0 12) h4 (lamG (ampR h) s k) := isRow_eq hop4 (fun t s' _ _ _ _ => by
        unfold lamG
        by_cases e : s' = s
        · rw [if_pos e, if_pos e, if_pos e, eAm, Int.sub_zero]
          omega
        · rw [if_neg e, if_neg e, if_neg e]; rfl)
      have k4 : keepM h h4 := k1.tr ((keepM.opened h1 60 0 12).tr (keepM.row hrow))
      have t4 : h4 98 0 = h 98 0 := by rw [hrow.1 98 (by decide), eO 0 (by decide) (by decide) (by decide), t1]
      have e131 : h4 131 = h1 131 := by rw [hrow.1 131 (by decide), opened_c (by decide)]
      have hl45 : opened h1 60 0 12 98 45 = 60 := rfl
      refine bX12_falls_52 (kk := ?_)
      have rg : ∀ t s', 0 ≤ lamG (ampR h) s k t s' ∧ lamG (ampR h) s k t s' < 1000000 := fun t s' => by
        unfold lamG
        split
        · have a1 := amp_rng (ear := 0) (air := h 104 12) (fog := 0) (gone := -1) (d := t) hd s0 (show s < h 98 1 from s1) (by decide) (by decide) hai.1 hai.2
          have a2 := amp_rng (ear := 0) (air := h 104 12) (fog := 0) (gone := -1) (d := t - ((k : Int) + 2)) hd s0 (show s < h 98 1 from s1) (by decide) (by decide) hai.1 hai.2
          show 0 ≤ amp (dM h) 0 (h 104 12) 0 (-1) s t + amp (dM h) 0 (h 104 12) 0 (-1) s (t - ((k : Int) + 2)) ∧ amp (dM h) 0 (h 104 12) 0 (-1) s t + amp (dM h) 0 (h 104 12) 0 (-1) s (t - ((k : Int) + 2)) < 1000000
          omega
        · decide
      suffices L : ∀ (dm m : Nat) (h5 : AH), m + dm = 16 → (∀ c, c ≠ 131 → h5 c = h4 c) → togM H k m (fun a => h5 131 a) → Wp mX12_falls (kR fr 0 0) (rV (fun h' => (keepM h h' ∧ h' 98 0 = h 98 0) ∧ togP H 16 (fun a => h' 131 a))) (0, 0) 54 [zR 98, zI s, zI k, zI m] [] 137 h5 by
        refine L 16 0 h4 (by omega) (fun _ _ => rfl) (fun a ha => ?_)
        have ta := ht a ha
        dsimp only at ta ⊢
        rw [e131]
        refine ⟨ta.1, fun j => ?_⟩
        rw [ta.2 j]
        constructor
        · exact fun z => Or.inl z
        · rintro (z | ⟨z1, ⟨z2, z3, z4⟩ | ⟨z2, z3, z4⟩⟩)
          · exact z
          · omega
          · omega
      intro dm
      induction dm with
      | zero =>
        intro m h5 hm k5 t5
        refine bX12_falls_54 (kt := fun _ => ?_) (kf := fun q => by omega)
        exact bX12_falls_109 (kk := ih (k + 1) h5 _ (by omega) (k4.tr ⟨fun c hc => k5 c (by unfold perC at hc; omega), fun i _ => by rw [k5 98 (by decide)]⟩) (by rw [k5 98 (by decide), t4]) (by have := t5.next (by omega); exact this))
      | succ dm ihm =>
        intro m h5 hm k5 t5
        have c98 : ∀ i, perF i → h5 98 i = h 98 i := fun i hi => by rw [k5 98 (by decide), k4.2 i hi]
        refine bX12_falls_54 (kt := fun q => by omega) (kf := fun _ => ?_)
        have skip : (k = m ∨ ¬ H k m) → Wp mX12_falls (kR fr 0 0) (rV (fun h' => (keepM h h' ∧ h' 98 0 = h 98 0) ∧ togP H 16 (fun a => h' 131 a))) (0, 0) 103 [zR 98, zI s, zI k, zI m] [] 137 h5 := fun hn => by
          refine bX12_falls_103 (kk := ihm (m + 1) h5 (by omega) k5 (fun a ha => ⟨(t5 a ha).1, fun j => ((t5 a ha).2 j).trans ?_⟩))
          constructor
          · rintro (z | ⟨z1, ⟨z2, z3, z4⟩ | ⟨z2, z3, z4⟩⟩)
            · exact Or.inl z
            · exact Or.inr ⟨z1, Or.inl ⟨z2, by omega, z4⟩⟩
            · exact Or.inr ⟨z1, Or.inr ⟨z2, by omega, z4⟩⟩
          · rintro (z | ⟨z1, ⟨z2, z3, z4⟩ | ⟨z2, z3, z4⟩⟩)
            · exact Or.inl z
            · by_cases e : (j : Int) = m
              · rcases hn with hn | hn
                · omega
                · rw [z2, e] at z4; exact absurd z4 hn
              · exact Or.inr ⟨z1, Or.inl ⟨z2, by omega, z4⟩⟩
            · by_cases e : (a : Int) = m
              · rcases hn with hn | hn
                · omega
                · rw [z2, e] at z4; exact absurd z4 hn
              · exact Or.inr ⟨z1, Or.inr ⟨z2, by omega, z4⟩⟩
        refine bX12_falls_60 (kt := fun q => skip (Or.inl (by omega))) (kf := fun hkm => ?_)
        have g1 := c98 1 (by unfold perF; omega)
        have g5 := c98 5 (by unfold perF; omega)
        have g6 := c98 6 (by unfold perF; omega)
        have g7 := c98 7 (by unfold perF; omega)
        have hlm : ∀ t s', 0 ≤ t → t < 60 → 0 ≤ s' → s' < 8 → h5 115 (8 * t + s') = lamG (ampR h) s k t s' := fun t s' a b c d => by rw [k5 115 (by decide)]; exact hrow.2 t s' a b c d
        refine bX12_falls_65 (hS := m_hears (by omega) (by rw [g1]; exact hS) (by rw [g5]; exact hL) (by rw [g6]; exact hWi) (by rw [g7]; exact hMa) (fun t' s' a b c d => by rw [hlm t' s' a (by omega) c d]; exact rg _ _)) (kk := ?_)
        rintro x h6 ⟨e6, hx⟩
        rw [e6]; clear e6 h6
        rw [g1, g5, g6, g7] at hx
        have hx : HeardR (lamG (ampR h) s k) (h 98 1) (h 98 5) (h 98 6) (h 98 7) ((m : Int) + 2) x := hx.cong (fun t' s' a _ b c d => hlm t' s' a (by omega) c (by omega)) (by omega) hWi.1
        have hxs : x = s ↔ H k m := by
          rw [← hH]
          rcases hx with z | ⟨z1, z2⟩
          · exact ⟨fun _ => ⟨x, z⟩, fun _ => heardAs_s hL.1 z⟩
          · exact ⟨fun e => by omega, fun ⟨b, w⟩ => absurd w (z2 b)⟩
        have xr := hx.range
        refine bX12_falls_72 (kt := fun q => ?_) (kf := fun q => bX12_falls_76 (kk := skip (Or.inr (fun z => q (hxs.mpr z)))))
        have hkmH := hxs.mp q
        refine bX12_falls_79 (kk := ?_)
        rw [show up h5 131 k (bOr (h5 131 k) (1 * 2 ^ (m : Int).toNat)) 131 m = h5 131 m from up_cn hkm]
        obtain ⟨p1, p2⟩ := one16 (s := (k : Int)) (by omega) (by omega)
        obtain ⟨o1, o2⟩ := one16 (s := (m : Int)) (by omega) (by omega)
        have tk := t5 k (by omega)
        have tm := t5 m (by omega)
        dsimp only at tk tm
        obtain ⟨u1, u2⟩ := or16 tk.1 o1
        obtain ⟨v1, v2⟩ := or16 tm.1 p1
        refine bX12_falls_103 (kk := ihm (m + 1) _ (by omega) (fun c hc => by rw [up_n hc, up_n hc, k5 c hc]) (fun a ha => ?_))
        have ta := t5 a ha
        dsimp only at ta ⊢
        by_cases em : (a : Int) = m
        · have em' : a = m := by omega
          rw [em', up_ci]
          refine ⟨v1, fun j => ?_⟩
          rw [v2, p2, Bool.or_eq_true, decide_eq_true_eq, tm.2 j, Int.toNat_natCast]
          constructor
          · rintro ((z | ⟨z1, ⟨z2, z3, z4⟩ | ⟨z2, z3, z4⟩⟩) | z)
            · exact Or.inl z
            · omega
            · omega
            · rw [z]; exact Or.inr ⟨⟨by omega, by omega⟩, Or.inr ⟨rfl, by omega, hkmH⟩⟩
          · rintro (z | ⟨z1, ⟨z2, z3, z4⟩ | ⟨z2, z3, z4⟩⟩)
            · exact Or.inl (Or.inl z)
            · omega
            · exact Or.inr (by omega)
        · rw [up_cn em]
          by_cases ek : (a : Int) = k
          · have ek' : a = k := by omega
            rw [ek', up_ci]
            refine ⟨u1, fun j => ?_⟩
            rw [u2, o2, Bool.or_eq_true, decide_eq_true_eq, tk.2 j, Int.toNat_natCast]
            constructor
            · rintro ((z | ⟨z1, ⟨z2, z3, z4⟩ | ⟨z2, z3, z4⟩⟩) | z)
              · exact Or.inl z
              · exact Or.inr ⟨z1, Or.inl ⟨z2, by omega, z4⟩⟩
              · omega
              · rw [z]; exact Or.inr ⟨⟨by omega, by omega⟩, Or.inl ⟨rfl, by omega, hkmH⟩⟩
            · rintro (z | ⟨z1, ⟨z2, z3, z4⟩ | ⟨z2, z3, z4⟩⟩)
              · exact Or.inl (Or.inl z)
              · by_cases e : j = m
                · exact Or.inr e
                · exact Or.inl (Or.inr ⟨z1, Or.inl ⟨z2, by omega, z4⟩⟩)
              · omega
          · rw [up_cn ek]
            refine ⟨ta.1, fun j => (ta.2 j).trans ?_⟩
            constructor
            · rintro (z | ⟨z1, ⟨z2, z3, z4⟩ | ⟨z2, z3, z4⟩⟩)
              · exact Or.inl z
              · omega
              · exact Or.inr ⟨z1, Or.inr ⟨z2, by omega, z4⟩⟩
            · rintro (z | ⟨z1, ⟨z2, z3, z4⟩ | ⟨z2, z3, z4⟩⟩)
              · exact Or.inl z
              · omega
              · exact Or.inr ⟨z1, Or.inr ⟨z2, by omega, z4⟩⟩
  suffices Z : ∀ (d k : Nat) (h1 : AH) (x3 : AV), k + d = 16 → (∀ c, c ≠ 131 → h1 c = h c) → (∀ a, 0 ≤ a → a < (k : Int) → h1 131 a = 0) → Wp mX12_falls (kR fr 0 0) (rV (fun h' => (keepM h h' ∧ h' 98 0 = h 98 0) ∧ togP H 16 (fun a => h' 131 a))) (0, 0) 2 [zR 98, zI s, zI k, x3] [] 137 h1 by
    exact Z 16 0 h _ (by omega) (fun _ _ => rfl) (fun a p q => by omega)
  intro d
  induction d with
  | zero =>
    intro k h1 x3 hk kc hzero
    refine bX12_falls_2 (kt := fun _ => ?_) (kf := fun q => by omega)
    refine bX12_falls_21 (kk := main 16 0 h1 _ (by omega) ⟨fun c hc => kc c (by unfold perC at hc; omega), fun i _ => by rw [kc 98 (by decide)]⟩ (by rw [kc 98 (by decide)]) (fun a ha => ?_))
    dsimp only
    rw [hzero a (by omega) (by omega)]
    refine ⟨by constructor <;> decide, fun j => ⟨fun z => (by rw [bt_zero] at z; cases z), fun z => ?_⟩⟩
    rcases z.2 with w | w <;> omega
  | succ d ih =>
    intro k h1 x3 hk kc hzero
    refine bX12_falls_2 (kt := fun q => by omega) (kf := fun _ => ?_)
    refine bX12_falls_8 (kk := ih (k + 1) _ _ (by omega) (fun c hc => by rw [up_n hc, kc c hc]) (fun a p q => ?_))
    by_cases e : a = k
    · rw [e, up_ci]
    · rw [up_cn e]; exact hzero a p (by omega)
