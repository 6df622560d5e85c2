/-! ===== the class: surveyForm ===== -/
def kpS (l : Int) (h h' : AH) : Prop := (∀ c, (c < 51 ∨ 55 < c) → (c < 74 ∨ 79 < c) → h' c = h c) ∧ (∀ j, j ≠ 12 → j ≠ 14 → h' 55 j = h 55 j) ∧ (∀ i, (i < l * 6 ∨ l * 6 + 5 ≤ i) → h' 74 i = h 74 i) ∧ ∀ i, (i < l * 96 ∨ l * 96 + 96 ≤ i) → h' 75 i = h 75 i
theorem kpS.rf (l : Int) (h : AH) : kpS l h h := ⟨fun _ _ _ => rfl, fun _ _ _ => rfl, fun _ _ => rfl, fun _ _ => rfl⟩
theorem kpS.tr {l : Int} {a b c : AH} (h1 : kpS l a b) (h2 : kpS l b c) : kpS l a c := ⟨fun x p q => by rw [h2.1 x p q, h1.1 x p q], fun j p q => by rw [h2.2.1 j p q, h1.2.1 j p q], fun i p => by rw [h2.2.2.1 i p, h1.2.2.1 i p], fun i p => by rw [h2.2.2.2 i p, h1.2.2.2 i p]⟩
theorem valid_keep {h h' : AH} {g ear air fog gone : Int} (hg : isG g) (e : ∀ c, (c < 51 ∨ 55 < c) → (c < 74 ∨ 79 < c) → h' c = h c) (hv : valid h 47 g ear air fog gone) : valid h' 47 g ear air fog gone := by
  have gs : ∀ k, 0 ≤ k → k ≤ 14 → (g + k < 47 ∨ (55 < g + k ∧ g + k < 74)) := by unfold isG at hg; exact fun k a b => by omega
  have eD : ∀ k, 0 ≤ k → k ≤ 14 → dC h' g k = dC h g k := fun k a b => by have := gs k a b; exact e (g + k) (by omega) (by omega)
  have g0 := gs 0 (by decide) (by decide)
  rw [Int.add_zero] at g0
  have e47 : h' 47 = h 47 := e 47 (by decide) (by decide)
  refine ⟨ways_same (by rw [e47]) (e (47 + 1) (by decide) (by decide)) hv.1, fun d s a b => ?_⟩
  rw [tab_same (by rw [e47]) (e (47 + 1) (by decide) (by decide)) (e (47 + 2) (by decide) (by decide)), hv.2 d s a b, amp_cong eD, e g (by omega) (by omega)]
def fwN (D : DT) (f : Nat) : Nat := (max 1 (kindsD D (D 14 ((f : Int) * 3)))).toNat
def obN (D : DT) (f : Nat) : Nat := (linesD D f / max 1 (kindsD D (D 14 ((f : Int) * 3)))).toNat
theorem lines_div {D : DT} {f : Nat} (hd : okD D) (hf : (f : Int) < D 0 3) : (fwN D f * obN D f : Nat) = (linesD D f).toNat := by
  have L := (hd.2.2.2.2.2.2.2.2.2.2.2.2.2.2 f (by omega) hf).1
  have k := kindsD_rng hd (D 14 ((f : Int) * 3))
  have ln := linesD_512 hd hf
  have ex : ∃ x, linesD D f = kindsD D (D 14 ((f : Int) * 3)) * x := by
    have e0 : (f : Int) * 3 + ((0 : Nat) : Int) = (f : Int) * 3 := by omega
    unfold linesD
    rcases (show D 13 f = 1 ∨ D 13 f = 2 ∨ D 13 f = 3 by omega) with e | e | e <;> rw [e]
    · refine ⟨1, ?_⟩
      show 1 * kindsD D (D 14 ((f : Int) * 3 + ((0 : Nat) : Int))) = _
      rw [e0, Int.one_mul, Int.mul_one]
    · refine ⟨kindsD D (D 14 ((f : Int) * 3 + ((1 : Nat) : Int))), ?_⟩
      show 1 * kindsD D (D 14 ((f : Int) * 3 + ((0 : Nat) : Int))) * _ = _
      rw [e0, Int.one_mul]
    · refine ⟨kindsD D (D 14 ((f : Int) * 3 + ((1 : Nat) : Int))) * kindsD D (D 14 ((f : Int) * 3 + ((2 : Nat) : Int))), ?_⟩
      show 1 * kindsD D (D 14 ((f : Int) * 3 + ((0 : Nat) : Int))) * _ * _ = _
      rw [e0, Int.one_mul, Int.mul_assoc]
  obtain ⟨x, hx⟩ := ex
  unfold fwN obN
  generalize kindsD D (D 14 ((f : Int) * 3)) = c at *
  generalize linesD D f = n at *
  by_cases c0 : c = 0
  · rw [c0, Int.zero_mul] at hx
    rw [hx]
    simp
  · have em : max 1 c = c := by omega
    rw [em]
    have e2 : n / c = x := by rw [hx]; exact Int.mul_ediv_cancel_left x c0
    rw [e2]
    have x0 : 0 ≤ x := by
      by_cases z : 0 ≤ x
      · exact z
      · have := Int.mul_neg_of_pos_of_neg (show 0 < c by omega) (show x < 0 by omega)
        omega
    have := Int.toNat_mul (show 0 ≤ c by omega) x0
    rw [hx, this]
noncomputable def spB (D : DT) (P : Int → Int → Prop) (f : Nat) : Nat → Bool := fun d => cl (∀ j : Nat, d * obN D f ≤ j → j < (d + 1) * obN D f → ¬ P f j)
noncomputable def spo (D : DT) (P : Int → Int → Prop) (f : Nat) : Int := if 0 < obN D f then cnt (spB D P f) (fwN D f) else 0
theorem svR_rng {D : DT} {P E : Int → Int → Prop} {l : Int} {f i : Nat} {h : AH} (hd : okD D) (hf : (f : Int) < D 0 3) (hi : i ≤ 512) (hs : svR D P E l f i h) : (0 ≤ h 74 (l * 6 + 0) ∧ h 74 (l * 6 + 0) ≤ 4000) ∧ (0 ≤ h 74 (l * 6 + 1) ∧ h 74 (l * 6 + 1) ≤ 4000) ∧ (-1 ≤ h 74 (l * 6 + 2) ∧ h 74 (l * 6 + 2) ≤ 12) ∧ (-1 ≤ h 74 (l * 6 + 4) ∧ h 74 (l * 6 + 4) ≤ 4000) := by
  have nF := hd.2.2.2.1
  have ps : ∀ Q : Int → Int → Prop, 0 ≤ psum D (inC Q) f i ∧ psum D (inC Q) f i ≤ 4000 := fun Q => by
    have b : ∀ g j, 0 ≤ inC Q g j ∧ inC Q g j ≤ 1 := fun g j => by unfold inC; split <;> decide
    have a1 := sg_rng (f := inC Q f) (B := 1) (n := i) (fun j _ => b f j)
    have a2 := sg_rng (f := fun g => sg (inC Q g) (linesD D g).toNat) (B := 512) (n := f) (fun g hg => by
      have := sg_rng (f := inC Q g) (B := 1) (n := (linesD D g).toNat) (fun j _ => b g j)
      have := linesD_512 hd (f := g) (by omega)
      omega)
    unfold psum
    omega
  obtain ⟨a, b, c, -⟩ := hs
  refine ⟨by rw [a]; exact ps P, by rw [b]; exact ps E, ?_⟩
  rcases c with ⟨c1, c2, -⟩ | ⟨g, j, c1, -, c3, ⟨W, c4, c5⟩, -⟩
  · omega
  · have lt := bef_lt (fun k hk => (linesD_512 hd (f := k) (by omega)).1) c1
    have pf := sg_rng (f := linesD D) (B := 512) (n := f) (fun k hk => linesD_512 hd (by omega))
    have pg := sg_rng (f := linesD D) (B := 512) (n := g) (fun k hk => linesD_512 hd (by unfold bef at c1; omega))
    have gf : (g : Int) < D 0 3 := by unfold bef at c1; omega
    have L := (hd.2.2.2.2.2.2.2.2.2.2.2.2.2.2 g (by omega) gf).1
    have pr := preW_rng hd c4.in_ (D 13 g).toNat (by omega)
    unfold preN at lt c3
    omega
theorem c_surveyForm {fr : Nat} {f : Nat} {l g ai : Int} {D : DT} {h : AH} (hf : 8 ≤ fr) (hv : vst h g D) (hb : valid h 47 g 0 ai 0 (-1)) (hai : 0 ≤ ai ∧ ai ≤ 100) (hz : sumZ h) (l0 : 0 ≤ l) (l1 : l < 24) (f1 : (f : Int) < D 0 3)
    (hs : svR D (Ans D (fun s d => amp D 0 ai 0 (-1) s d)) (Ech D (fun s d => amp D 0 ai 0 (-1) s d)) l f 0 h) (r3 : 0 ≤ h 74 (l * 6 + 3) ∧ h 74 (l * 6 + 3) ≤ 10000) :
    Sp mX10_surveyForm true fr 0 0 [zR 55, zI l, zI f, zI (preN D f), zR 51, zR 47] 137 h (rV (fun h' => (kpS l h h' ∧ sumZ h' ∧ vst h' g D) ∧ svR D (Ans D (fun s d => amp D 0 ai 0 (-1) s d)) (Ech D (fun s d => amp D 0 ai 0 (-1) s d)) l (f + 1) 0 h' ∧ h' 74 (l * 6 + 3) = h 74 (l * 6 + 3) + spo D (Ans D (fun s d => amp D 0 ai 0 (-1) s d)) f)) := by
  refine Sp.mk yX10_surveyForm_ok rfl rfl ?_
  have he := hv.eq
  have hok := hv.ok
  obtain ⟨⟨hg, h0⟩, -, hd, ht, r78, r75⟩ := id hv
  obtain ⟨vt, v73, -⟩ := id ht
  obtain ⟨e0, e10, e11, e12, e13, e14⟩ := he.g
  have cg : cel 137 (h 55 0) (2, 21) := by rw [h0]; exact hg.cel
  have nF := hd.2.2.2.1
  have fm := hd.2.2.2.2.2.2.2.2.2.2.2.2.2.2 f (by omega) f1
  have k0 := fm.2 0 (by decide) (by omega)
  rw [Int.add_zero] at k0
  have q14 : h (h 55 0 + 14) ((f : Int) * 3) = D 14 ((f : Int) * 3) := by have : dV h 14 = D 14 := e14; exact congrFun this _
  have q71 : h 71 (D 14 ((f : Int) * 3)) = kindsD D (D 14 ((f : Int) * 3)) := (vt _ k0.1 (by omega)).1
  have kr := kindsD_rng hd (D 14 ((f : Int) * 3))
  have ln := linesD_512 hd f1
  have q73 : h 73 f = linesD D f := v73 f f1
  have ld := lines_div hd f1
  have pn := sg_rng (f := linesD D) (B := 512) (n := f) (fun k hk => linesD_512 hd (by omega))
  generalize hA : (fun s d => amp D 0 ai 0 (-1) s d) = A at *
  generalize hP : Ans D A = P at *
  generalize hE : Ech D A = E at *
  have fwE : max 1 (kindsD D (D 14 ((f : Int) * 3))) = (fwN D f : Nat) := by unfold fwN; omega
  have obE : linesD D f / max 1 (kindsD D (D 14 ((f : Int) * 3))) = (obN D f : Nat) := by
    unfold obN
    have := Int.ediv_nonneg ln.1 (show 0 ≤ max 1 (kindsD D (D 14 ((f : Int) * 3))) by omega)
    omega
  have fw9 : 1 ≤ fwN D f ∧ fwN D f ≤ 8 := by omega
  have ob512 : obN D f ≤ 512 := by
    have : linesD D f / max 1 (kindsD D (D 14 ((f : Int) * 3))) ≤ linesD D f := Int.ediv_le_self _ ln.1
    omega
  generalize hQ : (rV (fun h' : AH => (kpS l h h' ∧ sumZ h' ∧ vst h' g D) ∧ svR D P E l (f + 1) 0 h' ∧ h' 74 (l * 6 + 3) = h 74 (l * 6 + 3) + spo D P f)) = Q
  refine bX10_surveyForm_0 (r2 := by rw [q14]; omega) (r4 := by rw [q14, q71]; omega) (r6 := by rw [q73]; omega) (r7 := by rw [q14, q71]; omega) (kk := ?_)
  rw [q14, q71, q73, obE, fwE]
  -- the figures of beginnings
  have spn : ∀ d : Nat, 0 ≤ cnt (spB D P f) d ∧ cnt (spB D P f) d ≤ d := fun d => cnt_rng _ _
  suffices O : ∀ (d fi : Nat) (h1 : AH) (x10 x11 : AV), fi + d = fwN D f → (kpS l h h1 ∧ sumZ h1 ∧ vst h1 g D) → svR D P E l f (fi * obN D f) h1 → h1 74 (l * 6 + 3) = h 74 (l * 6 + 3) + (if 0 < obN D f then cnt (spB D P f) fi else 0) → Wp mX10_surveyForm (kR fr 0 0) Q (0, 0) 39 [zR 55, zI l, zI f, zI (preN D f), zR 51, zR 47, zI (fwN D f : Nat), zI (obN D f : Nat), zI (fi * obN D f : Nat), zI fi, x10, x11] [] 137 h1 by
    have := O (fwN D f) 0 h none none (by omega) ⟨kpS.rf l h, hz, hv⟩ (by rw [Nat.zero_mul]; exact hs) (by have : cnt (spB D P f) 0 = 0 := rfl; rw [this]; split <;> omega)
    rw [Nat.zero_mul] at this
    exact this
  intro d
  induction d with
  | zero =>
    intro fi h1 x10 x11 hfi k1 s1 n3
    have ef : fi = fwN D f := by omega
    refine bX10_surveyForm_39 (kt := fun _ => ?_) (kf := fun q => by omega)
    refine bX10_surveyForm_132 (hq := ?_)
    rw [← hQ]
    rw [ef, ld] at s1
    refine ⟨rfl, rfl, k1, s1.next, ?_⟩
    rw [n3, ef]; rfl
  | succ d ih =>
    intro fi h1 x10 x11 hfi k1 s1 n3
    have mle : (fi + 1) * obN D f ≤ fwN D f * obN D f := Nat.mul_le_mul_right _ (by omega)
    have ms : (fi + 1) * obN D f = fi * obN D f + obN D f := Nat.succ_mul _ _
    refine bX10_surveyForm_39 (kt := fun q => by omega) (kf := fun _ => ?_)
    refine bX10_surveyForm_46 (kk := ?_)
    suffices I : ∀ (dk k : Nat) (h2 : AH) (fo : Int), k + dk = obN D f → (kpS l h h2 ∧ sumZ h2 ∧ vst h2 g D) → svR D P E l f (fi * obN D f + k) h2 → h2 74 (l * 6 + 3) = h1 74 (l * 6 + 3) → (0 ≤ fo ∧ fo ≤ k) → (fo = 0 ↔ ∀ j : Nat, fi * obN D f ≤ j → j < fi * obN D f + k → ¬ P f j) → Wp mX10_surveyForm (kR fr 0 0) Q (0, 0) 52 [zR 55, zI l, zI f, zI (preN D f), zR 51, zR 47, zI (fwN D f : Nat), zI (obN D f : Nat), zI (fi * obN D f + k : Nat), zI fi, zI fo, zI k] [] 137 h2 by
      exact I (obN D f) 0 h1 0 (by omega) k1 s1 rfl (by decide) ⟨fun _ j a b => by omega, fun _ => rfl⟩
    intro dk
    induction dk with
    | zero =>
      intro k h2 fo hk k2 s2 e3 fr2 ff
      have ek : k = obN D f := by omega
      rw [ek, ← ms] at s2 ⊢
      rw [ek, ← ms] at ff
      have cs := cnt_s (spB D P f) fi
      refine bX10_surveyForm_52 (kt := fun _ => ?_) (kf := fun q => by omega)
      have go : ∀ (h3 : AH) (x10 x11 : AV), (kpS l h h3 ∧ sumZ h3 ∧ vst h3 g D) → svR D P E l f ((fi + 1) * obN D f) h3 → h3 74 (l * 6 + 3) = h 74 (l * 6 + 3) + (if 0 < obN D f then cnt (spB D P f) (fi + 1) else 0) → Wp mX10_surveyForm (kR fr 0 0) Q (0, 0) 126 [zR 55, zI l, zI f, zI (preN D f), zR 51, zR 47, zI (fwN D f : Nat), zI (obN D f : Nat), zI ((fi + 1) * obN D f : Nat), zI fi, x10, x11] [] 137 h3 := fun h3 x10 x11 a b c => by
        refine bX10_surveyForm_126 (kk := ?_)
        rw [show (fi : Int) + 1 = ((fi + 1 : Nat) : Int) by omega]
        exact ih (fi + 1) h3 _ _ (by omega) a b c
      refine bX10_surveyForm_101 (kt := fun q => ?_) (kf := fun q => ?_)
      · refine go h2 _ _ k2 s2 ?_
        have no : spB D P f fi = false := cl_neg (fun z => q (ff.mpr z))
        rw [no, if_neg (by decide), Int.add_zero] at cs
        rw [e3, n3, cs]
      · refine bX10_surveyForm_106 (kt := fun q2 => ?_) (kf := fun q2 => ?_)
        · refine go h2 _ _ k2 s2 ?_
          rw [e3, n3, if_neg (by omega), if_neg (by omega)]
        · have ye : spB D P f fi = true := cl_pos (ff.mp q)
          rw [ye, if_pos rfl] at cs
          refine bX10_surveyForm_111 (kk := go _ _ _ ⟨⟨fun c a b => by rw [up_n (by omega)]; exact k2.1.1 c a b, fun j a b => by rw [up_n (by decide)]; exact k2.1.2.1 j a b, fun j hj => by rw [up_cn (by omega)]; exact k2.1.2.2.1 j hj, fun j hj => by rw [up_n (by decide)]; exact k2.1.2.2.2 j hj⟩, fun s a b => by rw [up_n (by decide)]; exact k2.2.1 s a b, k2.2.2.keep (fun c a b => up_n (by omega)) (fun j _ _ => by rw [up_n (by decide)]) (by rw [up_n (by decide)]; exact k2.2.2.2.2.2.2.1) (by rw [up_n (by decide)]; exact k2.2.2.2.2.2.2.2)⟩ ?_ ?_)
          · obtain ⟨a, b, c, e⟩ := s2
            refine ⟨by rw [up_cn (by omega)]; exact a, by rw [up_cn (by omega)]; exact b, by rw [up_cn (by omega), up_cn (by omega)]; exact c, fun M p r => by rw [up_n (by decide)]; exact e M p r⟩
          · rw [up_ci, e3, n3, if_pos (by omega), if_pos (by omega), cs]; omega
    | succ dk ihk =>
      intro k h2 fo hk k2 s2 e3 fr2 ff
      have lp : 0 < linesD D f := by
        have : 0 < fwN D f * obN D f := Nat.mul_pos (by omega) (by omega)
        omega
      have il : fi * obN D f + k < (linesD D f).toNat := by rw [← ld]; omega
      have b2 := valid_keep hg k2.1.1 hb
      refine bX10_surveyForm_52 (kt := fun q => by omega) (kf := fun _ => ?_)
      refine bX10_surveyForm_59 (hS := c_spellV (by omega) k2.2.2 f1 (by omega) (by omega) lp) (kk := ?_)
      rintro h3 ⟨⟨k3, j3⟩, v3, w3, n12, r12, S, is3, m3⟩
      have b3 : valid h3 47 g 0 ai 0 (-1) := valid_keep hg (fun c a b => k3 c (by omega) (by omega) (by omega)) b2
      refine bX10_surveyForm_66 (hS := c_listenD (by omega) v3 f1 b3 (by decide) hai (fun s a b => by rw [k3 54 (by decide) (by decide) (by decide)]; exact k2.2.1 s a b) w3 n12 r12 is3 m3) (kk := ?_)
      rintro x h4 ⟨⟨k4, z4, v4⟩, c4⟩
      rw [hA, hP, hE] at c4
      have kS4 : kpS l h2 h4 := ⟨fun c a b => by rw [k4.1 c (by omega) (by omega) (by omega) (by omega) (by omega) (by omega), k3 c (by omega) (by omega) (by omega)], fun j a b => by rw [k4.2 j b, j3 j a], fun j _ => by rw [k4.1 74 (by decide) (by decide) (by decide) (by decide) (by decide) (by decide), k3 74 (by decide) (by decide) (by decide)], fun j _ => by rw [k4.1 75 (by decide) (by decide) (by decide) (by decide) (by decide) (by decide), k3 75 (by decide) (by decide) (by decide)]⟩
      have e74 : h4 74 = h2 74 := by rw [k4.1 74 (by decide) (by decide) (by decide) (by decide) (by decide) (by decide), k3 74 (by decide) (by decide) (by decide)]
      have e75 : h4 75 = h2 75 := by rw [k4.1 75 (by decide) (by decide) (by decide) (by decide) (by decide) (by decide), k3 75 (by decide) (by decide) (by decide)]
      have nextI : ∀ (h5 : AH) (fo' : Int), (kpS l h h5 ∧ sumZ h5 ∧ vst h5 g D) → svR D P E l f (fi * obN D f + (k + 1)) h5 → h5 74 (l * 6 + 3) = h1 74 (l * 6 + 3) → (0 ≤ fo' ∧ fo' ≤ (k + 1 : Nat)) → (fo' = 0 ↔ ∀ j : Nat, fi * obN D f ≤ j → j < fi * obN D f + (k + 1) → ¬ P f j) → Wp mX10_surveyForm (kR fr 0 0) Q (0, 0) 92 [zR 55, zI l, zI f, zI (preN D f), zR 51, zR 47, zI (fwN D f : Nat), zI (obN D f : Nat), zI (fi * obN D f + k : Nat), zI fi, zI fo', zI k] [] 137 h5 := fun h5 fo' a b c e g' => by
        refine bX10_surveyForm_92 (kk := ?_)
        rw [show ((fi * obN D f + k : Nat) : Int) + 1 = ((fi * obN D f + (k + 1) : Nat) : Int) by omega, show (k : Int) + 1 = ((k + 1 : Nat) : Int) by omega]
        exact ihk (k + 1) h5 fo' (by omega) a b c e g'
      have sv4 : svR D P E l f (fi * obN D f + k) h4 := by
        obtain ⟨a, b, c, e⟩ := s2
        exact ⟨by rw [e74]; exact a, by rw [e74]; exact b, by rw [e74]; exact c, fun M p r => by rw [e75]; exact e M p r⟩
      refine bX10_surveyForm_74 (r1 := by rcases c4 with z | z <;> omega) (kt := fun q => ?_) (kf := fun q => ?_)
      · rcases c4 with ⟨z, -⟩ | ⟨-, no, ne⟩
        · omega
        refine nextI h4 fo ⟨k2.1.tr kS4, z4, v4⟩ (s2.no e74 e75 no ne) (by rw [e74]; exact e3) (by omega) ?_
        rw [ff]
        constructor
        · intro z j a b
          by_cases e : j = fi * obN D f + k
          · rw [e]; exact no
          · exact z j a (by omega)
        · exact fun z j a b => z j a (by omega)
      · rcases c4 with ⟨-, nr, lr⟩ | ⟨z, -⟩
        rotate_left
        · exact absurd z q
        have rg := svR_rng hd f1 (by omega) sv4
        have e123 : h4 55 12 = h3 55 12 := k4.2 12 (by decide)
        have t3 : h4 74 (l * 6 + 3) = h1 74 (l * 6 + 3) := by rw [e74]; exact e3
        have pN : preN D f + ((fi * obN D f + k : Nat) : Int) < 3072 := by
          unfold preN; omega
        refine bX10_surveyForm_77 (hS := c_weighV (N := preN D f + ((fi * obN D f + k : Nat) : Int)) (by omega) v4 l0 l1 (by omega) f1 (by unfold preN; omega) pN nr (by rw [e123]; exact r12) lr (fun kk a b => by
          rcases (show kk = 0 ∨ kk = 1 ∨ kk = 2 ∨ kk = 3 ∨ kk = 4 by omega) with e | e | e | e | e <;> rw [e]
          · omega
          · omega
          · omega
          · rw [t3, n3]
            have := spn fi
            split <;> omega
          · omega)) (kk := ?_)
        rintro y h5 ⟨w5, c5⟩
        rw [hP] at c5
        rw [hP, hE] at w5
        have ln5 : LenR D f ((fi * obN D f + k : Nat) : Int) (h4 55 12) := ⟨h3 76, w3, by rw [e123]; exact n12⟩
        have sv5 := svR.step (fun kk hk => (linesD_512 hd (f := kk) (by omega)).1) ln5 (by rw [e123]; exact r12.1) w5 sv4
        have w5' := w5
        obtain ⟨x1, -, -, -, x5, -, x7, x8⟩ := w5'
        have k5 : kpS l h4 h5 := ⟨fun c a b => x1 c (by omega) (by omega) (by omega), fun j _ _ => by rw [x1 55 (by decide) (by decide) (by decide)], fun j hj => x5 j (by omega) (by omega) (by omega) (by omega), x7⟩
        have v5 : vst h5 g D := v4.keep (fun c a b => x1 c (by omega) (by omega) (by omega)) (fun j _ _ => by rw [x1 55 (by decide) (by decide) (by decide)]) (by rw [x1 78 (by decide) (by decide) (by decide)]; exact v4.2.2.2.2.1) x8
        refine bX10_surveyForm_89 (kk := nextI h5 (fo + y) ⟨(k2.1.tr kS4).tr k5, fun s a b => by rw [x1 54 (by decide) (by decide) (by decide)]; exact z4 s a b, v5⟩ sv5 (by rw [x5 _ (by omega) (by omega) (by omega) (by omega)]; exact t3) (by rcases c5 with z | z <;> omega) ?_)
        rcases c5 with ⟨z, yes⟩ | ⟨z, no⟩
        · constructor
          · intro w; omega
          · intro w
            exact absurd yes (w (fi * obN D f + k) (by omega) (by omega))
        · rw [z, Int.add_zero, ff]
          constructor
          · intro w j a b
            by_cases e : j = fi * obN D f + k
            · rw [e]; exact no
            · exact w j a (by omega)
          · exact fun w j a b => w j a (by omega)
