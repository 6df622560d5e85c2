/-! ===== the class: countStill ===== -/
theorem inC_rng (P : Int → Int → Prop) (f i : Nat) : 0 ≤ inC P f i ∧ inC P f i ≤ 1 := by unfold inC; split <;> decide
theorem sg_mono {F : Nat → Int} (hF : ∀ i, 0 ≤ F i) {a : Nat} : ∀ {b : Nat}, a ≤ b → sg F a ≤ sg F b
  | 0, h => by rw [show a = 0 by omega]; exact Int.le_refl _
  | b + 1, h => by
    by_cases e : a = b + 1
    · rw [e]; exact Int.le_refl _
    · have := sg_mono hF (a := a) (b := b) (by omega)
      have := hF b
      rw [sg]
      omega
theorem psum_mono {D : DT} (P : Int → Int → Prop) (f : Nat) {i j : Nat} (h : i ≤ j) : psum D (inC P) f i ≤ psum D (inC P) f j := by
  have := sg_mono (F := inC P f) (fun k => (inC_rng P f k).1) h
  unfold psum
  omega
def kpL (h h' : AH) : Prop := (∀ c, (c < 51 ∨ 55 < c) → (c < 76 ∨ 79 < c) → h' c = h c) ∧ ∀ j, j ≠ 12 → j ≠ 14 → h' 55 j = h 55 j
theorem kpL.rf (h : AH) : kpL h h := ⟨fun _ _ _ => rfl, fun _ _ _ => rfl⟩
theorem kpL.tr {a b c : AH} (h1 : kpL a b) (h2 : kpL b c) : kpL a c := ⟨fun x p q => by rw [h2.1 x p q, h1.1 x p q], fun j p q => by rw [h2.2 j p q, h1.2 j p q]⟩
theorem c_countStill {fr : Nat} {l g ai fog gone en : Int} {D : DT} {h : AH} (hf : 8 ≤ fr) (hv : vst h g D) (hs : survd D l h) (l0 : 0 ≤ l) (l1 : l < 24) (hb : valid h 47 g 0 ai fog gone) (hfog : 0 ≤ fog ∧ fog ≤ 100) (hai : 0 ≤ ai ∧ ai ≤ 100) (hz : sumZ h) (en0 : 0 ≤ en) (en1 : en ≤ 100000) :
    Sp mX10_countStill true fr 0 0 [zR 55, zI l, zR 51, zR 47, zI en] 137 h (rI (fun x h' => (kpL h h' ∧ sumZ h' ∧ vst h' g D) ∧ x = min en (psum D (inC (fun f i => Ans D (ampA D (D 9 l) 0 (-1)) f i ∧ Ans D (ampA D ai fog gone) f i)) (D 0 3).toNat 0))) := by
  refine Sp.mk yX10_countStill_ok rfl rfl ?_
  obtain ⟨⟨hg, h0⟩, heg, hd, ht, r78, r75⟩ := id hv
  have nF := hd.2.2.2.1
  generalize hP : Ans D (ampA D (D 9 l) 0 (-1)) = P
  generalize hW : Ans D (ampA D ai fog gone) = W
  generalize hQ : (rI (fun x h' => (kpL h h' ∧ sumZ h' ∧ vst h' g D) ∧ x = min en (psum D (inC (fun f i => P f i ∧ W f i)) (D 0 3).toNat 0))) = Q
  refine bX10_countStill_0 (kk := ?_)
  suffices O : ∀ (d f : Nat) (h1 : AH) (fo : Int) (x8 : AV), (f : Int) + d = D 0 3 → (kpL h h1 ∧ sumZ h1 ∧ vst h1 g D) → fo = min en (psum D (inC (fun f i => P f i ∧ W f i)) f 0) → Wp mX10_countStill (kR fr 0 0) Q (0, 0) 9 [zR 55, zI l, zR 51, zR 47, zI en, zI fo, zI (preN D f), zI f, x8] [] 137 h1 by
    exact O (D 0 3).toNat 0 h 0 _ (by omega) ⟨kpL.rf h, hz, hv⟩ (by have : psum D (inC (fun f i => P f i ∧ W f i)) 0 0 = 0 := rfl; omega)
  intro d
  induction d with
  | zero =>
    intro f h1 fo x8 hff k1 hfo
    have e0 : h1 55 0 = g := k1.2.2.1.2
    have eF : h1 g 3 = D 0 3 := by have q := k1.2.2.2.1 0 (by decide) (by decide); rw [← dC0 h1 g 3, q]
    refine bX10_countStill_9 (c1 := by rw [e0]; exact hg.cel) (r2 := by rw [e0, eF]; omega) (kt := fun _ => ?_) (kf := fun w => by rw [e0, eF] at w; omega)
    refine bX10_countStill_114 (hq := ?_)
    rw [← hQ]
    exact ⟨_, rfl, rfl, k1, by rw [show (D 0 3).toNat = f by omega]; exact hfo⟩
  | succ d ih =>
    intro f h1 fo x8 hff k1 hfo
    have f1 : (f : Int) < D 0 3 := by omega
    have e0 : h1 55 0 = g := k1.2.2.1.2
    have eF : h1 g 3 = D 0 3 := by have q := k1.2.2.2.1 0 (by decide) (by decide); rw [← dC0 h1 g 3, q]
    have ln := linesD_512 hd f1
    have pn := preN_nn hd (n := f) (by omega)
    refine bX10_countStill_9 (c1 := by rw [e0]; exact hg.cel) (r2 := by rw [e0, eF]; omega) (kt := fun w => by rw [e0, eF] at w; omega) (kf := fun _ => ?_)
    refine bX10_countStill_21 (kk := ?_)
    have endF : ∀ (h2 : AH) (fo2 : Int) (x8 : AV), (kpL h h2 ∧ sumZ h2 ∧ vst h2 g D) → fo2 = min en (psum D (inC (fun f i => P f i ∧ W f i)) f (linesD D f).toNat) → Wp mX10_countStill (kR fr 0 0) Q (0, 0) 96 [zR 55, zI l, zR 51, zR 47, zI en, zI fo2, zI (preN D f), zI f, x8] [] 137 h2 := fun h2 fo2 x8 k2 h2' => by
      have e73 : h2 73 f = linesD D f := k2.2.2.2.2.2.1.2.1 f f1
      refine bX10_countStill_96 (kk := ?_)
      rw [e73, show (f : Int) + 1 = ((f + 1 : Nat) : Int) by omega, show preN D f + linesD D f = preN D (f + 1) from rfl]
      exact ih (f + 1) h2 fo2 _ (by omega) k2 (by rw [psum_n]; exact h2')
    suffices I : ∀ (dk k : Nat) (h2 : AH) (fo : Int), (k : Int) + dk = linesD D f → (kpL h h2 ∧ sumZ h2 ∧ vst h2 g D) → fo = min en (psum D (inC (fun f i => P f i ∧ W f i)) f k) → Wp mX10_countStill (kR fr 0 0) Q (0, 0) 24 [zR 55, zI l, zR 51, zR 47, zI en, zI fo, zI (preN D f), zI f, zI k] [] 137 h2 by
      exact I (linesD D f).toNat 0 h1 fo (by omega) k1 hfo
    intro dk
    induction dk with
    | zero =>
      intro k h2 fo hk k2 hfo
      have e73 : h2 73 f = linesD D f := k2.2.2.2.2.2.1.2.1 f f1
      refine bX10_countStill_24 (r3 := by rw [e73]; omega) (kt := fun _ => ?_) (kf := fun w => by rw [e73] at w; omega)
      exact endF h2 fo _ k2 (by rw [show (linesD D f).toNat = k by omega]; exact hfo)
    | succ dk ihk =>
      intro k h2 fo hk k2 hfo
      have e73 : h2 73 f = linesD D f := k2.2.2.2.2.2.1.2.1 f f1
      have nn : 0 ≤ psum D (inC (fun f i => P f i ∧ W f i)) f k := by
        have a := psum_mono (D := D) (fun f i => P f i ∧ W f i) f (show 0 ≤ k by omega)
        have b : 0 ≤ psum D (inC (fun f i => P f i ∧ W f i)) f 0 := by
          have := sg_rng (f := fun g => sg (inC (fun f i => P f i ∧ W f i) g) (linesD D g).toNat) (B := 512) (n := f) (fun g' hg' => by
            have := sg_rng (f := inC (fun f i => P f i ∧ W f i) g') (B := 1) (n := (linesD D g').toNat) (fun j _ => inC_rng _ g' j)
            have := linesD_512 hd (f := g') (by omega)
            omega)
          unfold psum
          show 0 ≤ _ + (0 : Int)
          omega
        omega
      have ps := psum_s D (inC (fun f i => P f i ∧ W f i)) f k
      refine bX10_countStill_24 (r3 := by rw [e73]; omega) (kt := fun w => by rw [e73] at w; omega) (kf := fun _ => ?_)
      refine bX10_countStill_36 (kt := fun w => ?_) (kf := fun w => ?_)
      · have m := psum_mono (D := D) (fun f i => P f i ∧ W f i) f (show k ≤ (linesD D f).toNat by omega)
        exact endF h2 fo _ k2 (by omega)
      have sd2 : survd D l h2 := hs.same (fun j _ _ => by rw [k2.1.1 74 (by decide) (by decide)]) (fun i _ _ => by rw [k2.1.1 75 (by decide) (by decide)])
      refine bX10_countStill_43 (hS := c_answersNow sd2 l0 l1 (by omega) (by omega) k2.2.2.2.2.2.2.2) (kk := ?_)
      rintro x h3 ⟨e3, hx⟩
      rw [e3]; clear e3 h3
      have iN : AnsN D P (preN D f + k) ↔ P f k := by
        constructor
        · rintro ⟨g', j, a, b, c⟩
          obtain ⟨rfl, rfl⟩ := pair_one hd (bef_all.mpr ⟨by omega, by omega⟩) a c
          exact b
        · exact fun z => ⟨f, k, bef_all.mpr ⟨by omega, by omega⟩, z, rfl⟩
      rw [hP, iN] at hx
      have nextI : ∀ (h3 : AH) (fo' : Int), (kpL h h3 ∧ sumZ h3 ∧ vst h3 g D) → fo' = min en (psum D (inC (fun f i => P f i ∧ W f i)) f (k + 1)) → Wp mX10_countStill (kR fr 0 0) Q (0, 0) 90 [zR 55, zI l, zR 51, zR 47, zI en, zI fo', zI (preN D f), zI f, zI k] [] 137 h3 := fun h3 fo' a b => by
        refine bX10_countStill_90 (kk := ?_)
        rw [show (k : Int) + 1 = ((k + 1 : Nat) : Int) by omega]
        exact ihk (k + 1) h3 fo' (by omega) a b
      have noS : ¬ (P f k ∧ W f k) → fo = min en (psum D (inC (fun f i => P f i ∧ W f i)) f (k + 1)) := fun z => by
        have : inC (fun f i => P f i ∧ W f i) f k = 0 := by unfold inC; rw [if_neg (by rw [cl_neg z]; decide)]
        omega
      have yesS : (P f k ∧ W f k) → fo + 1 = min en (psum D (inC (fun f i => P f i ∧ W f i)) f (k + 1)) := fun z => by
        have : inC (fun f i => P f i ∧ W f i) f k = 1 := by unfold inC; rw [if_pos (cl_pos z)]
        omega
      refine bX10_countStill_53 (r1 := by rcases hx with z | z <;> omega) (kt := fun q => ?_) (kf := fun q => ?_)
      · rcases hx with ⟨z, -⟩ | ⟨-, no⟩
        · omega
        exact nextI h2 fo k2 (noS (fun z => no z.1))
      rcases hx with ⟨-, yes⟩ | ⟨z, -⟩
      rotate_left
      · exact absurd z q
      refine bX10_countStill_56 (hS := c_spellV (by omega) k2.2.2 f1 (by omega) (by omega) (by omega)) (kk := ?_)
      rintro h3 ⟨⟨k3, j3⟩, v3, w3, n12, r12, S, is3, m3⟩
      have b3 : valid h3 47 g 0 ai fog gone := valid_keep hg (fun c a b => by rw [k3 c (by omega) (by omega) (by omega), k2.1.1 c a (by omega)]) hb
      refine bX10_countStill_64 (hS := c_listenD (by omega) v3 f1 b3 hfog hai (fun s a b => by rw [k3 54 (by decide) (by decide) (by decide)]; exact k2.2.1 s a b) w3 n12 r12 is3 m3) (kk := ?_)
      rintro y h4 ⟨⟨k4, z4, v4⟩, c4⟩
      have kL4 : kpL h h4 := k2.1.tr ⟨fun c a b => by rw [k4.1 c (by omega) (by omega) (by omega) (by omega) (by omega) (by omega), k3 c (by omega) (by omega) (by omega)], fun j a b => by rw [k4.2 j b, j3 j a]⟩
      refine bX10_countStill_72 (r1 := by rcases c4 with z | z <;> omega) (kt := fun q2 => ?_) (kf := fun q2 => ?_)
      · rcases c4 with ⟨z, -⟩ | ⟨-, no, -⟩
        · omega
        change ¬ Ans D (ampA D ai fog gone) f k at no
        rw [hW] at no
        refine bX10_countStill_86 (kk := bX10_countStill_87 (kk := nextI h4 _ ⟨kL4, z4, v4⟩ ?_))
        rw [Int.add_zero]; exact noS (fun z => no z.2)
      rcases c4 with ⟨-, nr, lr⟩ | ⟨z, -⟩
      rotate_left
      · exact absurd z q2
      have iA := Ans_iff hd lr
      change Ans D (ampA D ai fog gone) f k ↔ _ at iA
      rw [hW] at iA
      have he4 := v4.eq
      refine bX10_countStill_75 (hS := c_isLine (by omega) (by rw [v4.1.2]; exact hg) v4.ok (by rw [vtab_c he4]; exact v4.2.2.2.1.1) (by rw [lensM_c he4]; exact v4.2.2.2.1.2.2.2.2.1) nr v4.2.2.2.2.1) (kk := ?_)
      rintro x5 h5 ⟨k5, hx5⟩
      rw [isLineB_c he4, ← iA] at hx5
      have st5 : kpL h h5 ∧ sumZ h5 ∧ vst h5 g D := ⟨kL4.tr ⟨fun c a b => k5 c (by omega), fun j _ _ => by rw [k5 55 (by decide)]⟩, fun s a b => by rw [k5 54 (by decide)]; exact z4 s a b, v4.keep (fun c a b => k5 c (by omega)) (fun j _ _ => by rw [k5 55 (by decide)]) (by rw [k5 78 (by decide)]; exact v4.2.2.2.2.1) (by rw [k5 75 (by decide)]; exact v4.2.2.2.2.2)⟩
      refine bX10_countStill_79 (r1 := by rcases hx5 with z | z <;> omega) (kt := fun q3 => ?_) (kf := fun q3 => ?_)
      · rcases hx5 with ⟨z, -⟩ | ⟨-, no⟩
        · omega
        refine bX10_countStill_86 (kk := bX10_countStill_87 (kk := nextI h5 _ st5 ?_))
        rw [Int.add_zero]; exact noS (fun z => no z.2)
      · rcases hx5 with ⟨-, ye⟩ | ⟨z, -⟩
        · exact bX10_countStill_82 (kk := bX10_countStill_87 (kk := nextI h5 _ st5 (yesS ⟨yes, ye⟩)))
        · exact absurd z q3
