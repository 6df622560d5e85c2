/-! ===== the class: survey ===== -/
abbrev ampA (D : DT) (ai fog gone : Int) : Int → Int → Int := fun s d => amp D 0 ai fog gone s d
/-- the greatest fog in which some line that answers does so -/
def LasR (D : DT) (ai v : Int) : Prop := (0 ≤ v ∧ v ≤ 100) ∧ (∃ g j : Nat, bef D (D 0 3).toNat 0 g j ∧ Ans D (ampA D ai 0 (-1)) g j ∧ Ans D (ampA D ai v (-1)) g j) ∧ ∀ fog, v < fog → fog ≤ 100 → ¬ ∃ g j : Nat, bef D (D 0 3).toNat 0 g j ∧ Ans D (ampA D ai 0 (-1)) g j ∧ Ans D (ampA D ai fog (-1)) g j
noncomputable def spoD (D : DT) (P : Int → Int → Prop) : Int := sg (spo D P) (D 0 3).toNat
def survd (D : DT) (l : Int) (h : AH) : Prop := svR D (Ans D (ampA D (D 9 l) 0 (-1))) (Ech D (ampA D (D 9 l) 0 (-1))) l (D 0 3).toNat 0 h ∧ h 74 (l * 6 + 3) = spoD D (Ans D (ampA D (D 9 l) 0 (-1)))
def figR (D : DT) (l : Int) (h : AH) : Prop := (h 74 (l * 6 + 0) = -2 ∧ h 74 (l * 6 + 5) = -2) ∨ (survd D l h ∧ (h 74 (l * 6 + 5) = -2 ∨ LasR D (D 9 l) (h 74 (l * 6 + 5))))
def figs (D : DT) (h : AH) : Prop := ∀ l, 0 ≤ l → l < 24 → figR D l h
theorem survd.same {D : DT} {l : Int} {h h' : AH} (e74 : ∀ k, 0 ≤ k → k ≤ 4 → h' 74 (l * 6 + k) = h 74 (l * 6 + k)) (e75 : ∀ i, l * 96 ≤ i → i < l * 96 + 96 → h' 75 i = h 75 i) (hs : survd D l h) : survd D l h' := by
  obtain ⟨⟨a, b, c, d⟩, e⟩ := hs
  refine ⟨⟨by rw [e74 0 (by decide) (by decide)]; exact a, by rw [e74 1 (by decide) (by decide)]; exact b, by rw [e74 4 (by decide) (by decide), e74 2 (by decide) (by decide)]; exact c, fun M p q => ?_⟩, by rw [e74 3 (by decide) (by decide)]; exact e⟩
  rw [e75 _ (by omega) (by omega)]
  exact d M p q
theorem figR.same {D : DT} {l : Int} {h h' : AH} (e74 : ∀ k, 0 ≤ k → k ≤ 5 → h' 74 (l * 6 + k) = h 74 (l * 6 + k)) (e75 : ∀ i, l * 96 ≤ i → i < l * 96 + 96 → h' 75 i = h 75 i) (hs : figR D l h) : figR D l h' := by
  rcases hs with ⟨a, b⟩ | ⟨a, b⟩
  · exact Or.inl ⟨by rw [e74 0 (by decide) (by decide)]; exact a, by rw [e74 5 (by decide) (by decide)]; exact b⟩
  · exact Or.inr ⟨a.same (fun k p q => e74 k p (by omega)) e75, by rw [e74 5 (by decide) (by decide)]; exact b⟩
theorem spo_rng (D : DT) (P : Int → Int → Prop) (f : Nat) : 0 ≤ spo D P f ∧ spo D P f ≤ fwN D f := by
  have := cnt_rng (spB D P f) (fwN D f)
  unfold spo
  split <;> omega
theorem fwN_8 {D : DT} (hd : okD D) (f : Nat) : fwN D f ≤ 8 := by
  have := kindsD_rng hd (D 14 ((f : Int) * 3))
  unfold fwN
  omega
def kpQ (h h' : AH) : Prop := (∀ c, (c < 47 ∨ 55 < c) → (c < 74 ∨ 79 < c) → h' c = h c) ∧ ∀ j, j ≠ 12 → j ≠ 14 → h' 55 j = h 55 j
theorem c_survey {fr : Nat} {o g : Int} {D : DT} {h : AH} (hf : 10 ≤ fr) (hv : vst h g D) (hk : retOk h 47 g) (hz : sumZ h) (hfg : figs D h) (o0 : 0 ≤ o) (o1 : o < 24) :
    Sp mX10_survey true fr 0 0 [zR 55, zI o, zR 51, zR 47] 137 h (rI (fun x h' => ((0 ≤ x ∧ x < 24) ∧ D 9 x = D 9 o) ∧ (kpQ h h' ∧ sumZ h' ∧ vst h' g D ∧ retOk h' 47 g) ∧ figs D h' ∧ survd D x h')) := by
  refine Sp.mk yX10_survey_ok rfl rfl ?_
  have he := hv.eq
  have hok := hv.ok
  obtain ⟨⟨hg, h0⟩, heg, hd, ht, r78, r75⟩ := id hv
  obtain ⟨vt, v73, -⟩ := id ht
  have cg : cel 137 (h 55 0) (2, 21) := by rw [h0]; exact hg.cel
  have nF := hd.2.2.2.1
  have q9 : ∀ x, h (h 55 0 + 9) x = D 9 x := fun x => congrFun (he 9 (by decide) (by decide)) x
  have r9 := hd.2.2.2.2.2.2.2.2.2.2.2.2.1
  have gs : ∀ k, 0 ≤ k → k ≤ 14 → (g + k < 47 ∨ (55 < g + k ∧ g + k < 74)) := by unfold isG at hg; exact fun k a b => by omega
  have g00 := gs 0 (by decide) (by decide)
  rw [Int.add_zero] at g00
  generalize hQ : (rI (fun x h' => ((0 ≤ x ∧ x < 24) ∧ D 9 x = D 9 o) ∧ (kpQ h h' ∧ sumZ h' ∧ vst h' g D ∧ retOk h' 47 g) ∧ figs D h' ∧ survd D x h')) = Q
  -- the hour of like air
  have main : ∀ (l : Int) (x1 x5 x6 x7 : AV), 0 ≤ l → l < 24 → D 9 l = D 9 o → Wp mX10_survey (kR fr 0 0) Q (0, 0) 37 [zR 55, x1, zR 51, zR 47, zI l, x5, x6, x7] [] 137 h := by
    intro l x1 x5 x6 x7 l0 l1 ea
    have fl := hfg l l0 l1
    have ai := r9 l l0 l1
    have rg0 : -2 ≤ h 74 (l * 6 + 0) ∧ h 74 (l * 6 + 0) ≤ 10000 := by
      rcases fl with ⟨a, -⟩ | ⟨⟨s, -⟩, -⟩
      · omega
      · rw [s.1]
        have b : ∀ g' j, 0 ≤ inC (Ans D (ampA D (D 9 l) 0 (-1))) g' j ∧ inC (Ans D (ampA D (D 9 l) 0 (-1))) g' j ≤ 1 := fun g' j => by unfold inC; split <;> decide
        have a2 := sg_rng (f := fun g' => sg (inC (Ans D (ampA D (D 9 l) 0 (-1))) g') (linesD D g').toNat) (B := 512) (n := (D 0 3).toNat) (fun g' hg' => by
          have := sg_rng (f := inC (Ans D (ampA D (D 9 l) 0 (-1))) g') (B := 1) (n := (linesD D g').toNat) (fun j _ => b g' j)
          have := linesD_512 hd (f := g') (by omega)
          omega)
        unfold psum
        show -2 ≤ _ + 0 ∧ _ + 0 ≤ (10000 : Int)
        omega
    refine bX10_survey_37 (kt := fun q => ?_) (kf := fun q => ?_)
    rotate_left
    · refine bX10_survey_58 (hq := ?_)
      rw [← hQ]
      refine ⟨_, rfl, rfl, ⟨⟨l0, l1⟩, ea⟩, ⟨⟨fun _ _ _ => rfl, fun _ _ _ => rfl⟩, hz, hv, hk⟩, hfg, ?_⟩
      rcases fl with ⟨a, -⟩ | ⟨s, -⟩
      · exact absurd a q
      · exact s
    refine bX10_survey_61 (c2 := e47) (hS := by rw [h0]; exact c_build (by omega) (Or.inl rfl) hg (okD_cong heg hd) hk (by decide) (by rw [← h0, q9]; exact ai) (by decide) (by decide)) (kk := ?_)
    rintro h1 ⟨b1, b2, b3⟩
    have qg : h (g + 9) l = D 9 l := by rw [← h0]; exact q9 l
    rw [qg] at b2
    have k1 : ∀ c, (c < 47 ∨ 47 + 3 < c) → h1 c = h c := b1
    refine bX10_survey_82 (kk := ?_)
    generalize hh2 : up (up (up (up (up h1 74 (l * 6 + 0) 0) 74 (l * 6 + 1) 0) 74 (l * 6 + 2) (-1)) 74 (l * 6 + 3) 0) 74 (l * 6 + 4) (-1) = h2
    have k2 : ∀ c, c ≠ 74 → h2 c = h1 c := fun c hc => by rw [← hh2, up_n hc, up_n hc, up_n hc, up_n hc, up_n hc]
    have w0 : h2 74 (l * 6 + 0) = 0 := by rw [← hh2, up_cn (by omega), up_cn (by omega), up_cn (by omega), up_cn (by omega), up_ci]
    have w1 : h2 74 (l * 6 + 1) = 0 := by rw [← hh2, up_cn (by omega), up_cn (by omega), up_cn (by omega), up_ci]
    have w2 : h2 74 (l * 6 + 2) = -1 := by rw [← hh2, up_cn (by omega), up_cn (by omega), up_ci]
    have w3 : h2 74 (l * 6 + 3) = 0 := by rw [← hh2, up_cn (by omega), up_ci]
    have w4 : h2 74 (l * 6 + 4) = -1 := by rw [← hh2, up_ci]
    have wo : ∀ i, (i < l * 6 ∨ l * 6 + 5 ≤ i) → h2 74 i = h 74 i := fun i hi => by rw [← hh2, up_cn (by omega), up_cn (by omega), up_cn (by omega), up_cn (by omega), up_cn (by omega), k1 74 (by decide)]
    -- the packs
    have forms : ∀ (h3 : AH) (x1 x5 x6 x7 : AV), (∀ c, c ≠ 75 → h3 c = h2 c) → (∀ i, (i < l * 96 ∨ l * 96 + 96 ≤ i) → h3 75 i = h 75 i) → (∀ i, l * 96 ≤ i → i < l * 96 + 96 → h3 75 i = 0) → Wp mX10_survey (kR fr 0 0) Q (0, 0) 162 [zR 55, x1, zR 51, zR 47, zI l, x5, x6, x7] [] 137 h3 := by
      intro h3 x1 x5 x6 x7 k3 o3 z3
      have kk3 : ∀ c, (c < 47 ∨ 47 + 3 < c) → c ≠ 74 → c ≠ 75 → h3 c = h c := fun c a b e => by rw [k3 c e, k2 c b, k1 c a]
      have r753 : ∀ i, 0 ≤ i → i < 2304 → -2147483648 ≤ h3 75 i ∧ h3 75 i < 2147483648 := fun i a b => by
        by_cases c : l * 96 ≤ i ∧ i < l * 96 + 96
        · rw [z3 i c.1 c.2]; decide
        · rw [o3 i (by omega)]; exact r75 i a b
      have v3 : vst h3 g D := hv.keep (fun c a b => kk3 c (by omega) (by omega) (by omega)) (fun j _ _ => by rw [kk3 55 (by decide) (by decide) (by decide)]) (by rw [kk3 78 (by decide) (by decide) (by decide)]; exact r78) r753
      have z3' : sumZ h3 := fun s a b => by rw [kk3 54 (by decide) (by decide) (by decide)]; exact hz s a b
      have bv3 : valid h3 47 g 0 (D 9 l) 0 (-1) := valid_keep hg (fun c a b => by rw [k3 c (by omega), k2 c (by omega)]) b2
      have s3 : svR D (Ans D (ampA D (D 9 l) 0 (-1))) (Ech D (ampA D (D 9 l) 0 (-1))) l 0 0 h3 := by
        have nb : ∀ g' j : Nat, ¬ bef D 0 0 g' j := fun g' j z => by unfold bef at z; omega
        refine ⟨by rw [k3 74 (by decide), w0]; rfl, by rw [k3 74 (by decide), w1]; rfl, by rw [k3 74 (by decide), w4, w2]; exact Or.inl ⟨rfl, rfl, fun g' j z => absurd z (nb g' j)⟩, fun M a b => ?_⟩
        rw [z3 _ (by omega) (by omega), btu_zero]
        refine ⟨fun z => absurd z (by decide), fun z => ?_⟩
        obtain ⟨g', j, z, -⟩ := z
        exact absurd z (nb g' j)
      refine bX10_survey_162 (kk := ?_)
      suffices F : ∀ (d f : Nat) (h4 : AH) (x1 x5 : AV), (f : Int) + d = D 0 3 → (kpS l h3 h4 ∧ sumZ h4 ∧ vst h4 g D) → svR D (Ans D (ampA D (D 9 l) 0 (-1))) (Ech D (ampA D (D 9 l) 0 (-1))) l f 0 h4 → h4 74 (l * 6 + 3) = sg (spo D (Ans D (ampA D (D 9 l) 0 (-1)))) f → Wp mX10_survey (kR fr 0 0) Q (0, 0) 168 [zR 55, x1, zR 51, zR 47, zI l, x5, zI (preN D f), zI f] [] 137 h4 by
        exact F (D 0 3).toNat 0 h3 _ _ (by omega) ⟨kpS.rf l h3, z3', v3⟩ s3 (by rw [k3 74 (by decide), w3]; rfl)
      intro d
      induction d with
      | zero =>
        intro f h4 x1 x5 hff k4 s4 n4
        have e0 : h4 55 0 = g := k4.2.2.1.2
        have eF : h4 g 3 = D 0 3 := by have q := k4.2.2.2.1 0 (by decide) (by decide); rw [← dC0 h4 g 3, q]
        refine bX10_survey_168 (c1 := by rw [e0]; exact hg.cel) (r2 := by rw [e0, eF]; omega) (kt := fun _ => ?_) (kf := fun w => by rw [e0, eF] at w; omega)
        refine bX10_survey_210 (hq := ?_)
        have eN : (D 0 3).toNat = f := by omega
        have sd : survd D l h4 := ⟨by rw [eN]; exact s4, by unfold spoD; rw [eN]; exact n4⟩
        have o74 : ∀ i, (i < l * 6 ∨ l * 6 + 5 ≤ i) → h4 74 i = h 74 i := fun i hi => by rw [k4.1.2.2.1 i hi, k3 74 (by decide), wo i hi]
        have o75 : ∀ i, (i < l * 96 ∨ l * 96 + 96 ≤ i) → h4 75 i = h 75 i := fun i hi => by rw [k4.1.2.2.2 i hi, o3 i hi]
        rw [← hQ]
        refine ⟨_, rfl, rfl, ⟨⟨l0, l1⟩, ea⟩, ⟨⟨fun c a b => by rw [k4.1.1 c (by omega) b, kk3 c (by omega) (by omega) (by omega)], fun j a b => by rw [k4.1.2.1 j a b, kk3 55 (by decide) (by decide) (by decide)]⟩, k4.2.1, k4.2.2, ?_⟩, fun m m0 m1 => ?_, sd⟩
        · have kq : ∀ c, (c < 51 ∨ 55 < c) → (c < 74 ∨ 79 < c) → h4 c = h1 c := fun c a b => by rw [k4.1.1 c a b, k3 c (by omega), k2 c (by omega)]
          exact retOk_same (kq _ (by decide) (by decide)) (kq _ (by decide) (by decide)) (kq _ (by decide) (by decide)) (kq _ (by omega) (by omega)) (fun k a b => by have := gs k a b; exact kq (g + k) (by omega) (by omega)) b3
        · by_cases e : m = l
          · rw [e]
            refine Or.inr ⟨sd, Or.inl ?_⟩
            rw [o74 _ (by omega)]
            rcases fl with ⟨-, b⟩ | ⟨⟨s, -⟩, -⟩
            · exact b
            · exfalso
              have b : ∀ g' j, 0 ≤ inC (Ans D (ampA D (D 9 l) 0 (-1))) g' j ∧ inC (Ans D (ampA D (D 9 l) 0 (-1))) g' j ≤ 1 := fun g' j => by unfold inC; split <;> decide
              have a2 := sg_rng (f := fun g' => sg (inC (Ans D (ampA D (D 9 l) 0 (-1))) g') (linesD D g').toNat) (B := 512) (n := (D 0 3).toNat) (fun g' hg' => by
                have := sg_rng (f := inC (Ans D (ampA D (D 9 l) 0 (-1))) g') (B := 1) (n := (linesD D g').toNat) (fun j _ => b g' j)
                have := linesD_512 hd (f := g') (by omega)
                omega)
              have := s.1
              unfold psum at this
              have e2 : sg (inC (Ans D (ampA D (D 9 l) 0 (-1))) (D 0 3).toNat) 0 = 0 := rfl
              rw [e2] at this
              omega
          · exact (hfg m m0 m1).same (fun k a b => o74 _ (by omega)) (fun i a b => o75 i (by omega))
      | succ d ih =>
        intro f h4 x1 x5 hff k4 s4 n4
        have e0 : h4 55 0 = g := k4.2.2.1.2
        have eF : h4 g 3 = D 0 3 := by have q := k4.2.2.2.1 0 (by decide) (by decide); rw [← dC0 h4 g 3, q]
        have f1 : (f : Int) < D 0 3 := by omega
        have sr := sg_rng (f := spo D (Ans D (ampA D (D 9 l) 0 (-1)))) (B := 8) (n := f) (fun k hk => by
          have a := spo_rng D (Ans D (ampA D (D 9 l) 0 (-1))) k
          have b := fwN_8 hd k
          omega)
        have bv4 := valid_keep hg k4.1.1 bv3
        refine bX10_survey_168 (c1 := by rw [e0]; exact hg.cel) (r2 := by rw [e0, eF]; omega) (kt := fun w => by rw [e0, eF] at w; omega) (kf := fun _ => ?_)
        refine bX10_survey_180 (hS := c_surveyForm (by omega) k4.2.2 bv4 ai k4.2.1 l0 l1 f1 s4 (by rw [n4]; omega)) (kk := ?_)
        rintro h5 ⟨⟨k5, z5, v5⟩, s5, n5⟩
        have e73 : h5 73 f = linesD D f := v5.2.2.2.1.2.1 f f1
        refine bX10_survey_192 (kk := ?_)
        rw [e73, show (f : Int) + 1 = ((f + 1 : Nat) : Int) by omega]
        have eP : preN D f + linesD D f = preN D (f + 1) := rfl
        rw [eP]
        exact ih (f + 1) h5 _ _ (by omega) ⟨k4.1.tr k5, z5, v5⟩ s5 (by rw [n5, n4]; rfl)
    suffices Z : ∀ (d : Nat) (p : Int) (h3 : AH) (x1 x5 x7 : AV), 0 ≤ p → p + d = 96 → (∀ c, c ≠ 75 → h3 c = h2 c) → (∀ i, (i < l * 96 ∨ l * 96 + 96 ≤ i) → h3 75 i = h 75 i) → (∀ i, l * 96 ≤ i → i < l * 96 + p → h3 75 i = 0) → Wp mX10_survey (kR fr 0 0) Q (0, 0) 135 [zR 55, x1, zR 51, zR 47, zI l, x5, zI p, x7] [] 137 h3 by
      exact Z 96 0 h2 _ _ _ (by decide) (by decide) (fun _ _ => rfl) (fun i _ => by rw [k2 75 (by decide), k1 75 (by decide)]) (fun i a b => by omega)
    intro d
    induction d with
    | zero =>
      intro p h3 x1 x5 x7 p0 hp k3 o3 z3
      exact bX10_survey_135 (kt := fun _ => forms h3 _ _ _ _ k3 o3 (fun i a b => z3 i a (by omega))) (kf := fun w => by omega)
    | succ d ih =>
      intro p h3 x1 x5 x7 p0 hp k3 o3 z3
      refine bX10_survey_135 (kt := fun w => by omega) (kf := fun _ => ?_)
      refine bX10_survey_142 (kk := ih (p + 1) _ _ _ _ (by omega) (by omega) (fun c hc => by rw [up_n hc, k3 c hc]) (fun i hi => by rw [up_cn (by omega)]; exact o3 i hi) (fun i a b => ?_))
      by_cases e : i = l * 96 + p
      · rw [e, up_ci]
      · rw [up_cn e]; exact z3 i a (by omega)
  refine bX10_survey_0 (kk := ?_)
  suffices K : ∀ (d : Nat) (l : Int) (x5 x6 x7 : AV), 0 ≤ l → l + d = o → Wp mX10_survey (kR fr 0 0) Q (0, 0) 3 [zR 55, zI o, zR 51, zR 47, zI l, x5, x6, x7] [] 137 h by
    exact K o.toNat 0 _ _ _ (by decide) (by omega)
  intro d
  induction d with
  | zero =>
    intro l x5 x6 x7 l0 hl
    have e : l = o := by omega
    exact bX10_survey_3 (kt := fun _ => main l _ _ _ _ l0 (by omega) (by rw [e])) (kf := fun w => by omega)
  | succ d ih =>
    intro l x5 x6 x7 l0 hl
    have a1 := r9 l l0 (by omega)
    have a2 := r9 o o0 o1
    refine bX10_survey_3 (kt := fun w => by omega) (kf := fun _ => ?_)
    refine bX10_survey_9 (r3 := by rw [q9]; omega) (r4 := by rw [q9]; omega) (kt := fun w => ?_) (kf := fun w => ?_)
    · rw [q9, q9] at w
      exact main l _ _ _ _ l0 (by omega) w
    · exact bX10_survey_31 (kk := ih (l + 1) _ _ _ (by omega) (by omega))
