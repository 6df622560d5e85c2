/-! ===== the class: lines, line ===== -/
def linesR (D : DT) (ai k x : Int) : Prop := (k = 0 ∧ x = psum D (inC (Ans D (ampA D ai 0 (-1)))) (D 0 3).toNat 0) ∨ (k = 1 ∧ x = psum D (inC (Ech D (ampA D ai 0 (-1)))) (D 0 3).toNat 0) ∨ (k = 2 ∧ ∃ N, plR D (Ans D (ampA D ai 0 (-1))) (D 0 3).toNat 0 N x) ∨ (k = 3 ∧ x = spoD D (Ans D (ampA D ai 0 (-1)))) ∨ (k = 4 ∧ x = begD D)
theorem plR.one {D : DT} {P : Int → Int → Prop} {f i : Nat} {N n M m : Int} (h1 : plR D P f i N n) (h2 : plR D P f i M m) : N = M ∧ n = m := by
  rcases h1 with ⟨a1, a2, a3⟩ | ⟨g, j, a1, a2, a3, a4, a5⟩ <;> rcases h2 with ⟨b1, b2, b3⟩ | ⟨g', j', b1, b2, b3, b4, b5⟩
  · omega
  · exact absurd b2 (a3 g' j' b1)
  · exact absurd a2 (b3 g j a1)
  · have p := a5 g' j' m b1 b2 b4
    have q := b5 g j n a1 a2 a4
    omega
theorem linesR.one {D : DT} {ai k x y : Int} (h1 : linesR D ai k x) (h2 : linesR D ai k y) : x = y := by
  rcases h1 with ⟨a, b⟩ | ⟨a, b⟩ | ⟨a, N, b⟩ | ⟨a, b⟩ | ⟨a, b⟩ <;> rcases h2 with ⟨c, d⟩ | ⟨c, d⟩ | ⟨c, M, d⟩ | ⟨c, d⟩ | ⟨c, d⟩ <;> first | omega | exact (plR.one b d).2
theorem c_figure {fr : Nat} {l k : Int} {h : AH} (hl : 0 ≤ l ∧ l < 24) (hk : 0 ≤ k ∧ k < 6) : Sp mX10_figure true fr 0 0 [zR 55, zI l, zI k] 137 h (rI (fun x h' => h' = h ∧ x = h 74 (l * 6 + k))) := by
  refine Sp.mk yX10_figure_ok rfl rfl ?_
  exact bX10_figure_0 (hq := ⟨_, rfl, rfl, rfl, rfl⟩)
/-- what a survey keeps -/
def keptV (D : DT) (g : Int) (h h' : AH) : Prop := (kpQ h h' ∧ sumZ h' ∧ vst h' g D ∧ retOk h' 47 g) ∧ figs D h'
theorem c_lines {fr : Nat} {o k g : Int} {D : DT} {h : AH} (hf : 30 ≤ fr) (ro : R32 o) (rk : R32 k) (hv : vst h g D) (hkk : retOk h 47 g) (hz : sumZ h) (hfg : figs D h) :
    Sp mX11_lines true fr 8 48 [zR 1, zI o, zI k] 137 h (rIx (fun x h' => ((0 ≤ o ∧ o < 24) ∧ 0 ≤ k ∧ k ≤ 4) ∧ linesR D (D 9 o) k x ∧ keptV D g h h') (fun E h' => h' = h ∧ E = NSE ∧ ¬ ((0 ≤ o ∧ o < 24) ∧ 0 ≤ k ∧ k ≤ 4))) := by
  refine Sp.mk yX11_lines_ok rfl rfl ?_
  obtain ⟨rk1, rk2⟩ := id rk
  refine bX11_lines_0 (hS := c_needHour (by omega) ro) (kk := ?_) (kx := ?_)
  rotate_left
  · rintro E h' ⟨rfl, rfl, z⟩
    exact ⟨rfl, Or.inr ⟨_, rfl, rfl, rfl, fun w => by omega⟩⟩
  rintro h' ⟨e', o0, o1⟩
  rw [e']; clear e' h'
  refine bX11_lines_5 (kt := fun q => bX11_lines_14 (hq := ⟨rfl, Or.inr ⟨_, rfl, rfl, rfl, fun w => by omega⟩⟩)) (kf := fun k0 => ?_)
  refine bX11_lines_9 (kt := fun k1 => ?_) (kf := fun q => bX11_lines_14 (hq := ⟨rfl, Or.inr ⟨_, rfl, rfl, rfl, fun w => by omega⟩⟩))
  have al : (0 ≤ o ∧ o < 24) ∧ 0 ≤ k ∧ k ≤ 4 := ⟨⟨o0, o1⟩, k0, k1⟩
  refine bX11_lines_22 (kt := fun q => ?_) (kf := fun q => ?_)
  rotate_left
  · refine bX11_lines_27 (hq := ⟨rfl, Or.inl ⟨_, rfl, al, Or.inr (Or.inr (Or.inr (Or.inr ⟨q, hv.2.2.2.1.2.2.2.1⟩))), ⟨⟨fun _ _ _ => rfl, fun _ _ _ => rfl⟩, hz, hv, hkk⟩, hfg⟩⟩)
  refine bX11_lines_35 (hS := c_survey (by omega) hv hkk hz hfg o0 o1) (kk := ?_)
  rintro l h1 ⟨⟨lr, ea⟩, k1', f1, sd⟩
  refine bX11_lines_55 (hS := c_figure lr (by omega)) (kk := ?_)
  rintro x h2 ⟨e2, hx⟩
  rw [e2]; clear e2 h2
  refine bX11_lines_59 (hq := ⟨rfl, Or.inl ⟨_, rfl, al, ?_, k1', f1⟩⟩)
  obtain ⟨⟨s1, s2, s3, -⟩, s5⟩ := sd
  rw [ea] at s1 s2 s3 s5
  rcases (show k = 0 ∨ k = 1 ∨ k = 2 ∨ k = 3 by omega) with e | e | e | e <;> rw [e] at hx ⊢
  · exact Or.inl ⟨rfl, by rw [hx]; exact s1⟩
  · exact Or.inr (Or.inl ⟨rfl, by rw [hx]; exact s2⟩)
  · exact Or.inr (Or.inr (Or.inl ⟨rfl, _, by rw [hx]; exact s3⟩))
  · exact Or.inr (Or.inr (Or.inr (Or.inl ⟨rfl, by rw [hx]; exact s5⟩)))
/-- the numbers of the lines that answer -/
def AnsN (D : DT) (P : Int → Int → Prop) (M : Int) : Prop := ∃ g j : Nat, bef D (D 0 3).toNat 0 g j ∧ P g j ∧ M = preN D g + j
theorem lines_nn {D : DT} (hd : okD D) {k : Nat} (hk : (k : Int) < D 0 3) : 0 ≤ linesD D k := (linesD_512 hd hk).1
theorem bef_all {D : DT} {g j : Nat} : bef D (D 0 3).toNat 0 g j ↔ (g < (D 0 3).toNat ∧ (j : Int) < linesD D g) := by unfold bef; omega
theorem pair_one {D : DT} {g j g' j' : Nat} (hd : okD D) (h1 : bef D (D 0 3).toNat 0 g j) (h2 : bef D (D 0 3).toNat 0 g' j') (e : preN D g + j = preN D g' + j') : g = g' ∧ j = j' := by
  rw [bef_all] at h1 h2
  by_cases c : g < g'
  · have := bef_lt (D := D) (f := g') (i := j') (g := g) (j := j) (fun k hk => lines_nn hd (by omega)) (Or.inl ⟨c, h1.2⟩)
    omega
  · by_cases c2 : g' < g
    · have := bef_lt (D := D) (f := g) (i := j) (g := g') (j := j') (fun k hk => lines_nn hd (by omega)) (Or.inl ⟨c2, h2.2⟩)
      omega
    · have eg : g = g' := by omega
      rw [eg] at e
      exact ⟨eg, by omega⟩
theorem preN_nn {D : DT} (hd : okD D) : ∀ {n : Nat}, (n : Int) ≤ D 0 3 → 0 ≤ preN D n ∧ preN D n ≤ n * 512 := fun {n} hn => sg_rng (f := linesD D) (B := 512) (n := n) (fun k hk => linesD_512 hd (by omega))
theorem c_answersNow {fr : Nat} {l M : Int} {D : DT} {h : AH} (hs : survd D l h) (l0 : 0 ≤ l) (l1 : l < 24) (M0 : 0 ≤ M) (M1 : M < 3072) (r75 : ∀ i, 0 ≤ i → i < 2304 → -2147483648 ≤ h 75 i ∧ h 75 i < 2147483648) :
    Sp mX10_answersNow true fr 0 0 [zR 55, zI l, zI M] 137 h (rI (fun x h' => h' = h ∧ ((x = 1 ∧ AnsN D (Ans D (ampA D (D 9 l) 0 (-1))) M) ∨ (x = 0 ∧ ¬ AnsN D (Ans D (ampA D (D 9 l) 0 (-1))) M)))) := by
  refine Sp.mk yX10_answersNow_ok rfl rfl ?_
  have r := r75 (l * 96 + M / 32) (by omega) (by omega)
  have el := btu_look (v := h 75 (l * 96 + M / 32)) (j := (M % 32).toNat) (by omega)
  have er : -2147483648 ≤ bAnd (h 75 (l * 96 + M / 32) / 2 ^ (M % 32).toNat) 1 ∧ bAnd (h 75 (l * 96 + M / 32) / 2 ^ (M % 32).toNat) 1 < 2147483648 := by rw [el]; split <;> decide
  have ib := hs.1.2.2.2 M M0 M1
  refine bX10_answersNow_0 (r5 := er) (kt := fun q => ?_) (kf := fun q => ?_)
  · rw [el] at q
    have nb : ¬ btu (h 75 (l * 96 + M / 32)) (M % 32).toNat = true := fun z => by rw [if_pos z] at q; omega
    exact bX10_answersNow_28 (kk := bX10_answersNow_29 (hq := ⟨_, rfl, rfl, rfl, Or.inr ⟨rfl, fun z => nb (ib.mpr z)⟩⟩))
  · rw [el] at q
    have nb : btu (h 75 (l * 96 + M / 32)) (M % 32).toNat = true := by
      by_cases z : btu (h 75 (l * 96 + M / 32)) (M % 32).toNat = true
      · exact z
      · rw [if_neg z] at q; omega
    exact bX10_answersNow_24 (kk := bX10_answersNow_29 (hq := ⟨_, rfl, rfl, rfl, Or.inl ⟨rfl, ib.mp nb⟩⟩))
noncomputable def cA (D : DT) (P : Int → Int → Prop) (n : Nat) : Int := cnt (fun M : Nat => cl (AnsN D P M)) n
/-- as many answer as the figure says -/
theorem cA_psum {D : DT} {P : Int → Int → Prop} (hd : okD D) : ∀ (f : Nat), (f : Int) ≤ D 0 3 → cA D P (preN D f).toNat = psum D (inC P) f 0 := by
  have inner : ∀ (f : Nat), (f : Int) < D 0 3 → cA D P (preN D f).toNat = psum D (inC P) f 0 → ∀ i : Nat, (i : Int) ≤ linesD D f → cA D P ((preN D f).toNat + i) = psum D (inC P) f i := fun f hf h0 i => by
    have pn := preN_nn hd (n := f) (by omega)
    induction i with
    | zero => intro _; exact h0
    | succ i ih =>
      intro hi
      have e := ih (by omega)
      rw [psum_s, ← e]
      show cnt _ _ + (if cl (AnsN D P (((preN D f).toNat + i : Nat) : Int)) = true then 1 else 0) = _
      have iff1 : AnsN D P (((preN D f).toNat + i : Nat) : Int) ↔ P f i := by
        constructor
        · rintro ⟨g, j, a, b, c⟩
          obtain ⟨rfl, rfl⟩ := pair_one hd (bef_all.mpr ⟨by omega, by omega⟩) a (show preN D f + (i : Int) = preN D g + j by omega)
          exact b
        · exact fun z => ⟨f, i, bef_all.mpr ⟨by omega, by omega⟩, z, by omega⟩
      unfold inC
      by_cases c : P f i
      · rw [if_pos (cl_pos (iff1.mpr c)), if_pos (cl_pos c)]; rfl
      · rw [if_neg (by rw [cl_neg (fun z => c (iff1.mp z))]; decide), if_neg (by rw [cl_neg c]; decide)]; rfl
  intro f
  induction f with
  | zero => intro _; rfl
  | succ f ih =>
    intro hf
    have e := inner f (by omega) (ih (by omega)) (linesD D f).toNat (by have := lines_nn hd (k := f) (by omega); omega)
    have pn := preN_nn hd (n := f) (by omega)
    have ln := lines_nn hd (k := f) (by omega)
    rw [psum_n, ← e]
    have e2 : preN D (f + 1) = preN D f + linesD D f := rfl
    rw [e2, show (preN D f + linesD D f).toNat = (preN D f).toNat + (linesD D f).toNat by omega]
def ithR (D : DT) (P : Int → Int → Prop) (i N : Int) : Prop := (i = -1 ∧ ∃ n, plR D P (D 0 3).toNat 0 N n) ∨ (0 ≤ i ∧ 0 ≤ N ∧ AnsN D P N ∧ cA D P N.toNat = i) ∨ (N = -1 ∧ (i < -1 ∨ (0 ≤ i ∧ cA D P (allD D).toNat ≤ i)))
theorem c_answering {fr : Nat} {l i g : Int} {D : DT} {h : AH} (hf : 1 ≤ fr) (hv : vst h g D) (hs : survd D l h) (l0 : 0 ≤ l) (l1 : l < 24) (ri : R32 i) :
    Sp mX10_answering true fr 0 0 [zR 55, zI l, zI i] 137 h (rI (fun x h' => (h' = h ∧ -1 ≤ x ∧ x < 3072) ∧ ithR D (Ans D (ampA D (D 9 l) 0 (-1))) i x)) := by
  refine Sp.mk yX10_answering_ok rfl rfl ?_
  obtain ⟨ri1, ri2⟩ := id ri
  obtain ⟨-, -, hd, ht, -, r75⟩ := id hv
  have nF := hd.2.2.2.1
  have all : h 55 1 = allD D := ht.2.2.1
  have aP : allD D = preN D (D 0 3).toNat := rfl
  have pn := preN_nn hd (n := (D 0 3).toNat) (by omega)
  generalize hP : Ans D (ampA D (D 9 l) 0 (-1)) = P at *
  have s1 : h 74 (l * 6 + 0) = psum D (inC P) (D 0 3).toNat 0 := by rw [← hP]; exact hs.1.1
  have s3 : plR D P (D 0 3).toNat 0 (h 74 (l * 6 + 4)) (h 74 (l * 6 + 2)) := by rw [← hP]; exact hs.1.2.2.1
  have cP := cA_psum (P := P) hd (D 0 3).toNat (by omega)
  rw [← aP, ← s1] at cP
  have cr := cnt_rng (fun M : Nat => cl (AnsN D P M)) (allD D).toNat
  have r0 : 0 ≤ h 74 (l * 6 + 0) ∧ h 74 (l * 6 + 0) ≤ 3072 := by
    rw [← cP]; unfold cA
    have e : ((allD D).toNat : Int) ≤ 3072 := by rw [aP]; omega
    omega
  refine bX10_answering_0 (kt := fun q => ?_) (kf := fun q => ?_)
  rotate_left
  · refine bX10_answering_5 (hq := ⟨_, rfl, rfl, ⟨rfl, ?_⟩, Or.inl ⟨q, _, s3⟩⟩)
    rcases s3 with ⟨a, -⟩ | ⟨g', j, a, -, b, -⟩
    · omega
    · have := bef_lt (fun k hk => by
        by_cases e : k < (D 0 3).toNat
        · exact lines_nn hd (by omega)
        · rw [bef_all] at a; omega) (show bef D g' (j + 1) g' j from Or.inr ⟨rfl, by omega⟩)
      rw [bef_all] at a
      have l5 := linesD_512 hd (f := g') (by omega)
      have p5 := preN_nn hd (n := g') (by omega)
      omega
  refine bX10_answering_17 (kt := fun q2 => bX10_answering_36 (hq := ⟨_, rfl, rfl, ⟨rfl, by decide⟩, Or.inr (Or.inr ⟨rfl, Or.inl (by omega)⟩)⟩)) (kf := fun i0 => ?_)
  refine bX10_answering_21 (kt := fun q2 => ?_) (kf := fun q2 => bX10_answering_36 (hq := ⟨_, rfl, rfl, ⟨rfl, by decide⟩, Or.inr (Or.inr ⟨rfl, Or.inr ⟨i0, by rw [cP]; exact q2⟩⟩)⟩))
  refine bX10_answering_38 (kk := ?_)
  suffices K : ∀ (d M : Nat) (left : Int) (x2 : AV), (M : Int) + d = allD D → left = i - cA D P M → 0 ≤ left → Wp mX10_answering (kR fr 0 0) (rI (fun x h' => (h' = h ∧ -1 ≤ x ∧ x < 3072) ∧ ithR D P i x)) (0, 0) 43 [zR 55, zI l, x2, zI left, zI M] [] 137 h by
    exact K (allD D).toNat 0 i _ (by rw [aP]; omega) (by have : cA D P 0 = 0 := rfl; omega) i0
  intro d
  induction d with
  | zero =>
    intro M left x2 hM hl l0'
    exfalso
    rw [show (allD D).toNat = M by omega] at cP
    omega
  | succ d ih =>
    intro M left x2 hM hl l0'
    have M3 : (M : Int) < 3072 := by rw [aP] at hM; omega
    have cs : cA D P (M + 1) = cA D P M + if cl (AnsN D P M) = true then 1 else 0 := rfl
    refine bX10_answering_43 (r2 := by rw [all, aP]; omega) (kt := fun w => by rw [all] at w; omega) (kf := fun _ => ?_)
    refine bX10_answering_52 (hS := c_answersNow hs l0 l1 (by omega) M3 r75) (kk := ?_)
    rintro x h2 ⟨e2, hx⟩
    rw [e2]; clear e2 h2
    rw [hP] at hx
    have c0 := cnt_rng (fun M : Nat => cl (AnsN D P M)) M
    have c0' : 0 ≤ cA D P M := c0.1
    refine bX10_answering_59 (r1 := by rcases hx with z | z <;> omega) (kt := fun w => ?_) (kf := fun w => ?_)
    · rcases hx with ⟨z, -⟩ | ⟨-, no⟩
      · omega
      rw [if_neg (by rw [cl_neg no]; decide)] at cs
      refine bX10_answering_72 (kk := ?_)
      rw [show (M : Int) + 1 = ((M + 1 : Nat) : Int) by omega]
      exact ih (M + 1) left _ (by omega) (by omega) l0'
    · rcases hx with ⟨-, yes⟩ | ⟨z, -⟩
      rotate_left
      · exact absurd z w
      rw [if_pos (cl_pos yes)] at cs
      refine bX10_answering_62 (kt := fun w2 => ?_) (kf := fun w2 => ?_)
      · refine bX10_answering_69 (kk := bX10_answering_72 (kk := ?_))
        rw [show (M : Int) + 1 = ((M + 1 : Nat) : Int) by omega]
        exact ih (M + 1) _ _ (by omega) (by omega) (by omega)
      · exact bX10_answering_66 (hq := ⟨_, rfl, rfl, ⟨rfl, by omega, M3⟩, Or.inr (Or.inl ⟨i0, by omega, yes, by rw [Int.toNat_natCast]; omega⟩)⟩)
