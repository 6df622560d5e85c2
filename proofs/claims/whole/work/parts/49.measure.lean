/-! ===== the class: Hearing.measure ===== -/
theorem or_bits {x y : Int} (x0 : 0 ≤ x) (x1 : x < 256) (y0 : 0 ≤ y) (y1 : y < 256) : (0 ≤ bOr x y ∧ bOr x y < 256) ∧ ∀ j, bt (bOr x y) j = (bt x j || bt y j) := by
  obtain ⟨a, rfl⟩ : ∃ n : Nat, x = n := ⟨x.toNat, by omega⟩
  obtain ⟨b, rfl⟩ : ∃ n : Nat, y = n := ⟨y.toNat, by omega⟩
  have ho : a ||| b < 2 ^ 8 := Nat.or_lt_two_pow (by omega) (by omega)
  rw [bOr_nat (by omega)]
  refine ⟨⟨by omega, by omega⟩, fun j => ?_⟩
  unfold bt
  rw [Int.toNat_natCast, Int.toNat_natCast, Int.toNat_natCast, Nat.testBit_or]
theorem bt_zero (j : Nat) : bt 0 j = false := by unfold bt; exact Nat.zero_testBit j
def ptr (h : AH) (t : Int) : Prop := (0 ≤ h 51 7 ∧ h 51 7 ≤ h 51 8 ∧ h 51 8 ≤ h (h 51 4) 2) ∧ (∀ i, 0 ≤ i → i < h 51 8 → h (h 51 4 + 1) i ≤ t) ∧ ∀ i, 0 ≤ i → i < h 51 7 → h (h 51 4 + 1) i < t - h 51 6
def sumZ (h : AH) : Prop := ∀ s, 0 ≤ s → s < 8 → h 54 s = 0
theorem ptr.later {h : AH} {t u : Int} (hp : ptr h t) (htu : t ≤ u) : ptr h u := ⟨hp.1, fun i a b => by have := hp.2.1 i a b; omega, fun i a b => by have := hp.2.2 i a b; omega⟩
def measured (h h' : AH) (t : Int) : Prop := (∀ c, c ≠ 51 → c ≠ 52 → c ≠ 53 → c ≠ 54 → h' c = h c) ∧ (∀ i, i ≠ 7 → i ≠ 8 → h' 51 i = h 51 i) ∧ (∀ i, i ≠ t → h' 52 i = h 52 i ∧ h' 53 i = h 53 i) ∧ sumZ h' ∧ ptr h' t ∧ (0 ≤ h' 52 t ∧ h' 52 t ≤ 1000000) ∧ bestOf (lamH h) (h (h 51 3) 0) t (h' 52 t) (h' 53 t)
def same51 (h h1 : AH) : Prop := (∀ c, c ≠ 51 → h1 c = h c) ∧ ∀ i, i ≠ 7 → i ≠ 8 → h1 51 i = h 51 i
theorem same51.up {h h1 : AH} {i v : Int} (hs : same51 h h1) (hi : i = 7 ∨ i = 8) : same51 h (up h1 51 i v) := ⟨fun c hc => by rw [up_n hc, hs.1 c hc], fun j a b => by rw [up_cn (by omega), hs.2 j a b]⟩
theorem sg_tail {f : Nat → Int} {a : Nat} : ∀ {n : Nat}, a ≤ n → (∀ i, a ≤ i → i < n → f i = 0) → sg f n = sg f a
  | 0, h, _ => by rw [show a = 0 by omega]
  | n + 1, h, hz => by
    by_cases e : a = n + 1
    · rw [e]
    · rw [sg, hz n (by omega) (by omega), sg_tail (n := n) (by omega) (fun i x y => hz i x (by omega)), Int.add_zero]
/-- what way i brings of s at t -/
def wayF (h : AH) (t s : Int) : Nat → Int := fun i => if (0 ≤ t - h (h 51 4 + 1) i ∧ t - h (h 51 4 + 1) i ≤ h 51 6) ∧ bt (h (h 51 5) (t - h (h 51 4 + 1) i)) s.toNat = true then h (h 51 4 + 2) ((i : Int) * 8 + s) else 0
theorem lamH_def (h : AH) (t s : Int) : lamH h t s = sg (wayF h t s) (h (h 51 4) 2).toNat := rfl
theorem c_measure {fr N : Nat} {t : Int} {h : AH} (hf : 2 ≤ fr) (ha : att h N) (h5 : h 51 5 < 51 ∨ 54 < h 51 5) (ht : 0 ≤ t ∧ t < 400) (hp : ptr h t) (hz : sumZ h) : Sp mX4_measure true fr 0 0 [zR 51, zI t] 137 h (rV (fun h' => measured h h' t)) := by
  refine Sp.mk yX4_measure_ok rfl rfl ?_
  obtain ⟨hg, ho, hc, hla, hw, hl, hn8, hmk⟩ := id ha
  have co := ho.cel
  have hN : N < 4000 := cel_small hc
  obtain ⟨hm, hri, hin⟩ := hw
  have o51 : h 51 4 ≠ 51 ∧ h 51 4 + 1 ≠ 51 ∧ h 51 4 + 2 ≠ 51 := by unfold isO at ho; omega
  have o54 : h 51 4 ≠ 54 ∧ h 51 4 + 1 ≠ 54 ∧ h 51 4 + 2 ≠ 54 := by unfold isO at ho; omega
  have hrng : ∀ s, 0 ≤ s → s < 8 → 0 ≤ lamH h t s ∧ lamH h t s ≤ 35739 := fun s a b => lamH_rng ha a b
  -- the last loop: which is the loudest
  have L5 : ∀ (h1 : AH) (p : Int), same51 h h1 → ptr h1 t → 0 ≤ p → p < 256 → (∀ j : Nat, bt p j = true → (j : Int) < h (h 51 3) 0) → (∀ s, 0 ≤ s → s < 8 → bt p s.toNat = false → lamH h t s = 0) →
      ∀ (d : Nat) (r m b : Int) (h2 : AH) (x2 x6 : AV), 0 ≤ r → r ≤ d → r < 256 → (∀ j, bt r j = true → bt p j = true) → (∀ i j : Nat, bt p i = true → bt r i = false → bt r j = true → i < j) → (∀ c, c ≠ 54 → h2 c = h1 c) → (∀ s, 0 ≤ s → s < 8 → h2 54 s = if bt p s.toNat = true ∧ bt r s.toNat = false then 0 else lamH h t s) → (0 ≤ m ∧ m ≤ 35739) →
      ((m = 0 ∧ b = -1 ∧ ∀ s, 0 ≤ s → s < 8 → bt p s.toNat = true → bt r s.toNat = false → lamH h t s ≤ 0) ∨ (0 < m ∧ lamH h t b = m ∧ (0 ≤ b ∧ b < h (h 51 3) 0) ∧ bt p b.toNat = true ∧ bt r b.toNat = false ∧ ∀ s, 0 ≤ s → s < 8 → bt p s.toNat = true → bt r s.toNat = false → lamH h t s ≤ m ∧ (s < b → lamH h t s < m))) →
      Wp mX4_measure (kR fr 0 0) (rV (fun h' => measured h h' t)) (0, 0) 193 [zR 51, zI t, x2, zI m, zI b, zI r, x6] [] 137 h2 := by
    intro h1 p s51 hp1 p0 p1 pn pz d
    induction d with
    | zero =>
      intro r m b h2 x2 x6 r0 rd r1 rp rord hcc hs54 mr hbest
      have er : r = 0 := by omega
      subst er
      refine bX4_measure_193 (kt := fun _ => ?_) (kf := fun q => absurd rfl q)
      have g1 : ∀ c, c ≠ 52 → c ≠ 53 → up (up h2 52 t m) 53 t b c = h2 c := fun c a b => by rw [up_n b, up_n a]
      have e51 : up (up h2 52 t m) 53 t b 51 = h1 51 := by rw [g1 51 (by decide) (by decide), hcc 51 (by decide)]
      refine bX4_measure_248 (hq := ⟨rfl, rfl, ⟨fun c a1 a2 a3 a4 => ?_, fun i a1 a2 => ?_, fun i hi => ⟨?_, ?_⟩, fun s a1 a2 => ?_, ?_, ?_, ?_⟩⟩)
      · rw [g1 c a2 a3, hcc c a4, s51.1 c a1]
      · rw [e51, s51.2 i a1 a2]
      · rw [up_n (by decide), up_cn hi, hcc 52 (by decide), s51.1 52 (by decide)]
      · rw [up_cn hi, up_n (by decide), hcc 53 (by decide), s51.1 53 (by decide)]
      · rw [g1 54 (by decide) (by decide), hs54 s a1 a2]
        by_cases c : bt p s.toNat = true
        · rw [if_pos ⟨c, bt_zero _⟩]
        · rw [if_neg (fun z => c z.1)]
          exact pz s a1 a2 (by simpa using c)
      · have e4 : h1 51 4 = h 51 4 := s51.2 4 (by decide) (by decide)
        unfold ptr at hp1 ⊢
        rw [e51, g1 (h1 51 4) (by rw [e4]; unfold isO at ho; omega) (by rw [e4]; unfold isO at ho; omega), g1 (h1 51 4 + 1) (by rw [e4]; unfold isO at ho; omega) (by rw [e4]; unfold isO at ho; omega), hcc (h1 51 4) (by rw [e4]; exact o54.1), hcc (h1 51 4 + 1) (by rw [e4]; exact o54.2.1)]
        exact hp1
      · rw [up_n (by decide), up_ci]; omega
      · rw [up_ci, up_n (show (52 : Int) ≠ 53 by decide), up_ci]
        rcases hbest with ⟨z1, z2, z3⟩ | ⟨z1, z2, z3, z4, z5, z6⟩
        · refine Or.inl ⟨z1, z2, fun s a1 a2 => ?_⟩
          by_cases c : bt p s.toNat = true
          · exact z3 s a1 (by omega) c (bt_zero _)
          · have := pz s a1 (by omega) (by simpa using c)
            omega
        · refine Or.inr ⟨z1, z2, z3, fun s a1 a2 => ?_, fun s a1 a2 => ?_⟩
          · by_cases c : bt p s.toNat = true
            · have := (z6 s a1 (by omega) c (bt_zero _)).1
              omega
            · have := pz s a1 (by omega) (by simpa using c)
              omega
          · by_cases c : bt p s.toNat = true
            · have := (z6 s a1 (by omega) c (bt_zero _)).2 a2
              omega
            · have := pz s a1 (by omega) (by simpa using c)
              omega
    | succ d ih =>
      intro r m b h2 x2 x6 r0 rd r1 rp rord hcc hs54 mr hbest
      by_cases er : r = 0
      · exact ih r m b h2 x2 x6 r0 (by omega) r1 rp rord hcc hs54 mr hbest
      refine bX4_measure_193 (kt := fun q => absurd q er) (kf := fun _ => ?_)
      refine bX4_measure_198 (hS := c_lowestBit (by omega) (by omega) (by omega)) (kk := ?_)
      rintro x h3 ⟨rfl, hx⟩
      have x8 : x < (8 : Nat) := hx.lt (show r < 2 ^ 8 by omega)
      have x0 := hx.1
      obtain ⟨⟨d0, d1⟩, db⟩ := bit_drop (by omega) (by omega) hx
      have hxp := rp _ hx.2.1
      have ev : h3 54 x = lamH h t x := by
        rw [hs54 x x0 (by omega), if_neg (fun z => by rw [hx.2.1] at z; exact absurd z.2 (by decide))]
      have hxr := hrng x x0 (by omega)
      have hxn := pn _ hxp
      have vis : ∀ s, 0 ≤ s → bt (bAnd r (r - 1)) s.toNat = false → bt r s.toNat = false ∨ s = x := fun s s0 hs => by
        rw [db] at hs
        by_cases c : s = x
        · exact Or.inr c
        · left
          rw [decide_eq_true (show ((s.toNat : Nat) : Int) ≠ x by omega), Bool.and_true] at hs
          exact hs
      have visx : bt (bAnd r (r - 1)) x.toNat = false := by rw [db, decide_eq_false (by omega), Bool.and_false]
      have visr : ∀ j, bt r j = false → bt (bAnd r (r - 1)) j = false := fun j hj => by rw [db, hj, Bool.false_and]
      have step : ∀ (m' b' : Int), (0 ≤ m' ∧ m' ≤ 35739) → ((m' = 0 ∧ b' = -1 ∧ ∀ s, 0 ≤ s → s < 8 → bt p s.toNat = true → bt (bAnd r (r - 1)) s.toNat = false → lamH h t s ≤ 0) ∨ (0 < m' ∧ lamH h t b' = m' ∧ (0 ≤ b' ∧ b' < h (h 51 3) 0) ∧ bt p b'.toNat = true ∧ bt (bAnd r (r - 1)) b'.toNat = false ∧ ∀ s, 0 ≤ s → s < 8 → bt p s.toNat = true → bt (bAnd r (r - 1)) s.toNat = false → lamH h t s ≤ m' ∧ (s < b' → lamH h t s < m'))) → Wp mX4_measure (kR fr 0 0) (rV (fun h' => measured h h' t)) (0, 0) 228 [zR 51, zI t, none, zI m', zI b', zI r, zI x] [] 137 h3 := by
        intro m' b' mr' hb'
        refine bX4_measure_228 (kk := ih _ m' b' _ _ _ d0 (by omega) (by omega) (fun j hj => ?_) (fun i j a1 a2 a3 => ?_) (fun c hcn => by rw [up_n hcn, hcc c hcn]) (fun s a1 a2 => ?_) mr' hb')
        · rw [db] at hj
          exact rp j (by cases hh : bt r j with | true => rfl | false => rw [hh] at hj; exact absurd hj (by simp))
        · have hj : bt r j = true := by rw [db] at a3; cases hh : bt r j with | true => rfl | false => rw [hh] at a3; exact absurd a3 (by simp)
          rcases vis i (by omega) (by simpa using a2) with z | z
          · exact rord i j a1 (by simpa using z) hj
          · have hjx : (j : Int) ≠ x := fun e => by rw [db, decide_eq_false (by omega), Bool.and_false] at a3; exact absurd a3 (by decide)
            by_cases c : (j : Int) < x
            · have := hx.2.2 j c
              rw [hj] at this
              exact absurd this (by decide)
            · omega
        · by_cases c : s = x
          · rw [c, up_ci, if_pos ⟨hxp, visx⟩]
          · rw [up_cn c, hs54 s a1 a2]
            by_cases c2 : bt p s.toNat = true ∧ bt r s.toNat = false
            · rw [if_pos c2, if_pos ⟨c2.1, visr _ c2.2⟩]
            · rw [if_neg c2, if_neg (fun z => c2 ⟨z.1, (vis s a1 z.2).resolve_right c⟩)]
      refine bX4_measure_203 (r2 := by rw [ev]; omega) (kt := fun q => ?_) (kf := fun q => ?_)
      · rw [ev] at q
        refine step m b mr ?_
        rcases hbest with ⟨z1, z2, z3⟩ | ⟨z1, z2, z3, z4, z5, z6⟩
        · refine Or.inl ⟨z1, z2, fun s a1 a2 a3 a4 => ?_⟩
          rcases vis s a1 a4 with z | z
          · exact z3 s a1 a2 a3 z
          · rw [z]; omega
        · refine Or.inr ⟨z1, z2, z3, z4, visr _ z5, fun s a1 a2 a3 a4 => ?_⟩
          rcases vis s a1 a4 with z | z
          · exact z6 s a1 a2 a3 z
          · subst z
            refine ⟨q, fun hsb => ?_⟩
            have := rord b.toNat s.toNat z4 z5 hx.2.1
            omega
      · rw [ev] at q
        refine bX4_measure_216 (kk := ?_)
        rw [ev]
        refine step _ x (by omega) (Or.inr ⟨by omega, rfl, ⟨x0, by omega⟩, hxp, visx, fun s a1 a2 a3 a4 => ?_⟩)
        rcases vis s a1 a4 with z | z
        · have hlt : lamH h t s ≤ m := by
            rcases hbest with ⟨z1, z2, z3⟩ | ⟨z1, z2, z3, z4, z5, z6⟩
            · have := z3 s a1 a2 a3 z; omega
            · exact (z6 s a1 a2 a3 z).1
          exact ⟨by omega, fun _ => by omega⟩
        · rw [z]
          exact ⟨by omega, fun hh => by omega⟩
  -- the ways, one by one
  have L3 : ∀ (h1 : AH), same51 h h1 → ptr h1 t → (h1 51 8 = h (h 51 4) 2 ∨ t < h (h 51 4 + 1) (h1 51 8)) → (h1 51 7 = h1 51 8 ∨ t - h 51 6 ≤ h (h 51 4 + 1) (h1 51 7)) →
      ∀ (d k : Nat) (p : Int) (h2 : AH) (x4 x5 x6 : AV), (k : Int) + d = h1 51 8 → h1 51 7 ≤ k → 0 ≤ p → p < 256 → (∀ j : Nat, bt p j = true → (j : Int) < h (h 51 3) 0) → (∀ c, c ≠ 54 → h2 c = h1 c) → (∀ s, 0 ≤ s → s < 8 → h2 54 s = sg (wayF h t s) k) → (∀ s, 0 ≤ s → s < 8 → bt p s.toNat = false → sg (wayF h t s) k = 0) →
      Wp mX4_measure (kR fr 0 0) (rV (fun h' => measured h h' t)) (0, 0) 95 [zR 51, zI t, zI p, zI k, x4, x5, x6] [] 137 h2 := by
    intro h1 s51 hp1 xhi xlo d
    have f4 : h1 51 4 = h 51 4 := s51.2 4 (by decide) (by decide)
    have f5 : h1 51 5 = h 51 5 := s51.2 5 (by decide) (by decide)
    have f6 : h1 51 6 = h 51 6 := s51.2 6 (by decide) (by decide)
    obtain ⟨pa, pb, pc⟩ := id hp1
    rw [f4, s51.1 _ o51.1] at pa
    rw [f4, s51.1 _ o51.2.1] at pb pc
    rw [f6] at pc
    -- the window
    have inwin : ∀ i : Int, 0 ≤ i → i < h (h 51 4) 2 → h1 51 7 ≤ i → i < h1 51 8 → 0 ≤ t - h (h 51 4 + 1) i ∧ t - h (h 51 4 + 1) i ≤ h 51 6 := by
      intro i i0 i1 a b
      have q1 := pb i i0 b
      refine ⟨by omega, ?_⟩
      rcases xlo with z | z
      · omega
      · by_cases e : i = h1 51 7
        · rw [e]; omega
        · have := hri (h1 51 7) i pa.1 (by omega) i1
          omega
    have outwin : ∀ i : Int, 0 ≤ i → i < h (h 51 4) 2 → h1 51 8 ≤ i → ¬ (0 ≤ t - h (h 51 4 + 1) i ∧ t - h (h 51 4 + 1) i ≤ h 51 6) := by
      intro i i0 i1 a
      rcases xhi with z | z
      · omega
      · by_cases e : i = h1 51 8
        · rw [e]; omega
        · have := hri (h1 51 8) i (by omega) (by omega) i1
          omega
    induction d with
    | zero =>
      intro k p h2 x4 x5 x6 hk hlo p0 p1 pn hcc hs54 hpz
      have ek : (h (h 51 4) 2).toNat = (h (h 51 4) 2).toNat := rfl
      have lam : ∀ s, lamH h t s = sg (wayF h t s) k := fun s => by
        rw [lamH_def]
        refine sg_tail (by omega) (fun i a b => ?_)
        unfold wayF
        rw [if_neg (fun z => outwin i (by omega) (by omega) (by omega) z.1)]
      have e8 : h2 51 8 = h1 51 8 := by rw [hcc 51 (by decide)]
      refine bX4_measure_95 (r2 := by rw [e8]; omega) (kt := fun q => ?_) (kf := fun q => by rw [e8] at q; omega)
      refine bX4_measure_185 (kk := ?_)
      refine L5 h1 p s51 hp1 p0 p1 pn (fun s a b c => by rw [lam]; exact hpz s a b c) p.toNat p 0 (-1) h2 _ _ p0 (by omega) p1 (fun j hj => hj) (fun i j a b c => by rw [a] at b; exact absurd b (by decide)) hcc (fun s a b => ?_) (by decide) (Or.inl ⟨rfl, rfl, fun s a b c e => by rw [c] at e; exact absurd e (by decide)⟩)
      rw [hs54 s a b, lam, if_neg (fun z => by rw [z.1] at z; exact absurd z.2 (by decide))]
    | succ d ih =>
      intro k p h2 x4 x5 x6 hk hlo p0 p1 pn hcc hs54 hpz
      have e51 : ∀ h3 : AH, (∀ c, c ≠ 54 → h3 c = h1 c) → h3 51 4 = h 51 4 ∧ h3 51 5 = h 51 5 ∧ h3 (h 51 4 + 1) = h (h 51 4 + 1) ∧ h3 (h 51 4 + 2) = h (h 51 4 + 2) ∧ h3 (h 51 5) = h (h 51 5) ∧ h3 51 8 = h1 51 8 := fun h3 h3c => by
        refine ⟨by rw [h3c 51 (by decide), f4], by rw [h3c 51 (by decide), f5], by rw [h3c _ o54.2.1, s51.1 _ o51.2.1], by rw [h3c _ o54.2.2, s51.1 _ o51.2.2], by rw [h3c _ (by omega), s51.1 _ (by omega)], by rw [h3c 51 (by decide)]⟩
      obtain ⟨E4, E5, El, Ev, Ea, E8⟩ := e51 h2 hcc
      refine bX4_measure_95 (r2 := by rw [E8]; omega) (kt := fun q => by rw [E8] at q; omega) (kf := fun q => ?_)
      have win := inwin k (by omega) (by omega) hlo (by omega)
      obtain ⟨mk, mn⟩ := hmk (t - h (h 51 4 + 1) k) win.1 win.2
      refine bX4_measure_103 (N2 := N) (c1 := by rw [E4]; exact co) (c2 := by rw [E5]; exact hc) (r2 := by rw [E4, El]; omega) (kk := ?_)
      rw [E4, E5, El, Ea]
      generalize hsd : h (h 51 5) (t - h (h 51 4 + 1) k) = sd at *
      have wf : ∀ s, wayF h t s k = if bt sd s.toNat = true then h (h 51 4 + 2) ((k : Int) * 8 + s) else 0 := fun s => by
        unfold wayF
        rw [hsd]
        by_cases c : bt sd s.toNat = true
        · rw [if_pos c, if_pos ⟨win, c⟩]
        · rw [if_neg c, if_neg (fun z => c z.2)]
      obtain ⟨⟨q0, q1⟩, qb⟩ := or_bits p0 p1 mk.1 mk.2
      -- the sounds of a way
      suffices L4 : ∀ (dr : Nat) (r : Int) (h3 : AH) (x4 x6 : AV), 0 ≤ r → r ≤ dr → r < 256 → (∀ j, bt r j = true → bt sd j = true) → (∀ c, c ≠ 54 → h3 c = h1 c) → (∀ s, 0 ≤ s → s < 8 → h3 54 s = sg (wayF h t s) k + if bt sd s.toNat = true ∧ bt r s.toNat = false then h (h 51 4 + 2) ((k : Int) * 8 + s) else 0) → Wp mX4_measure (kR fr 0 0) (rV (fun h' => measured h h' t)) (0, 0) 130 [zR 51, zI t, zI (bOr p sd), zI k, x4, zI r, x6] [] 137 h3 by
        refine L4 sd.toNat sd h2 _ _ mk.1 (by omega) mk.2 (fun j hj => hj) hcc (fun s a b => ?_)
        rw [hs54 s a b, if_neg (fun z => by rw [z.1] at z; exact absurd z.2 (by decide)), Int.add_zero]
      intro dr
      induction dr with
      | zero =>
        intro r h3 x4 x6 r0 rd r1 rs h3c h354
        have er : r = 0 := by omega
        subst er
        refine bX4_measure_130 (kt := fun _ => ?_) (kf := fun q => absurd rfl q)
        refine bX4_measure_179 (kk := ih (k + 1) (bOr p sd) h3 _ _ _ (by omega) (by omega) q0 q1 (fun j hj => ?_) h3c (fun s a b => ?_) (fun s a b c => ?_))
        · rw [qb] at hj
          cases hh : bt p j with
          | true => exact pn j hh
          | false => rw [hh, Bool.false_or] at hj; exact mn j hj
        · rw [h354 s a b, sg, wf]
          congr 1
          by_cases c : bt sd s.toNat = true
          · rw [if_pos c, if_pos ⟨c, bt_zero _⟩]
          · rw [if_neg c, if_neg (fun z => c z.1)]
        · rw [qb, Bool.or_eq_false_iff] at c
          rw [sg, hpz s a b c.1, wf, if_neg (by rw [c.2]; decide)]
          rfl
      | succ dr ihr =>
        intro r h3 x4 x6 r0 rd r1 rs h3c h354
        by_cases er : r = 0
        · exact ihr r h3 x4 x6 r0 (by omega) r1 rs h3c h354
        refine bX4_measure_130 (kt := fun q => absurd q er) (kf := fun _ => ?_)
        refine bX4_measure_135 (hS := c_lowestBit (by omega) (by omega) (by omega)) (kk := ?_)
        rintro x h4 ⟨rfl, hx⟩
        have x8 : x < (8 : Nat) := hx.lt (show r < 2 ^ 8 by omega)
        have x0 := hx.1
        obtain ⟨⟨d0, d1⟩, db⟩ := bit_drop (by omega) (by omega) hx
        obtain ⟨G4, G5, Gl, Gv, Ga, G8⟩ := e51 h4 h3c
        refine bX4_measure_140 (c1 := by rw [G4]; exact co) (kk := ?_)
        rw [G4, Gv]
        refine ihr _ _ _ _ d0 (by omega) (by omega) (fun j hj => ?_) (fun c hcn => by rw [up_n hcn, h3c c hcn]) (fun s a b => ?_)
        · rw [db] at hj
          exact rs j (by cases hh : bt r j with | true => rfl | false => rw [hh] at hj; exact absurd hj (by simp))
        · by_cases c : s = x
          · rw [c, up_ci, h354 x x0 (by omega), if_neg (fun z => by rw [hx.2.1] at z; exact absurd z.2 (by decide)), if_pos ⟨rs _ hx.2.1, by rw [db, decide_eq_false (by omega), Bool.and_false]⟩, Int.add_zero]
          · rw [up_cn c, h354 s a b, db, decide_eq_true (show ((s.toNat : Nat) : Int) ≠ x by omega), Bool.and_true]
  -- low
  have L2 : ∀ (d : Nat) (h1 : AH) (x2 x3 x4 x5 x6 : AV), same51 h h1 → ptr h1 t → (h1 51 8 = h (h 51 4) 2 ∨ t < h (h 51 4 + 1) (h1 51 8)) → h1 51 7 + d = h1 51 8 → Wp mX4_measure (kR fr 0 0) (rV (fun h' => measured h h' t)) (0, 0) 43 [zR 51, zI t, x2, x3, x4, x5, x6] [] 137 h1 := by
    have fin : ∀ (h1 : AH) (x2 x3 x4 x5 x6 : AV), same51 h h1 → ptr h1 t → (h1 51 8 = h (h 51 4) 2 ∨ t < h (h 51 4 + 1) (h1 51 8)) → (h1 51 7 = h1 51 8 ∨ t - h 51 6 ≤ h (h 51 4 + 1) (h1 51 7)) → Wp mX4_measure (kR fr 0 0) (rV (fun h' => measured h h' t)) (0, 0) 88 [zR 51, zI t, x2, x3, x4, x5, x6] [] 137 h1 := by
      intro h1 x2 x3 x4 x5 x6 s51 hp1 xhi xlo
      refine bX4_measure_88 (kk := ?_)
      have f4 : h1 51 4 = h 51 4 := s51.2 4 (by decide) (by decide)
      have f6 : h1 51 6 = h 51 6 := s51.2 6 (by decide) (by decide)
      obtain ⟨pa, pb, pc⟩ := id hp1
      rw [f4, s51.1 _ o51.2.1, f6] at pc
      have zz : ∀ s, sg (wayF h t s) (h1 51 7).toNat = 0 := fun s => sg_zero (fun i hi => by
        unfold wayF
        have := pc i (by omega) (by omega)
        rw [if_neg (by omega)])
      have := L3 h1 s51 hp1 xhi xlo (h1 51 8 - h1 51 7).toNat (h1 51 7).toNat 0 h1 none none none (by omega) (by omega) (by decide) (by decide) (fun j hj => by rw [bt_zero] at hj; exact absurd hj (by decide)) (fun _ _ => rfl) (fun s a b => by rw [zz, s51.1 54 (by decide), hz s a b]) (fun s _ _ _ => zz s)
      rw [show (((h1 51 7).toNat : Nat) : Int) = h1 51 7 by omega] at this
      exact this
    intro d
    induction d with
    | zero =>
      intro h1 x2 x3 x4 x5 x6 s51 hp1 xhi hd
      have pa := hp1.1
      have f4 : h1 51 4 = h 51 4 := s51.2 4 (by decide) (by decide)
      rw [f4, s51.1 _ o51.1] at pa
      refine bX4_measure_43 (kt := fun q => fin h1 _ _ _ _ _ s51 hp1 xhi (Or.inl (by omega))) (kf := fun q => by omega)
    | succ d ih =>
      intro h1 x2 x3 x4 x5 x6 s51 hp1 xhi hd
      have f4 : h1 51 4 = h 51 4 := s51.2 4 (by decide) (by decide)
      have f6 : h1 51 6 = h 51 6 := s51.2 6 (by decide) (by decide)
      obtain ⟨pa, pb, pc⟩ := id hp1
      rw [f4, s51.1 _ o51.1] at pa
      have hi7 := hin (h1 51 7) pa.1 (by omega)
      have e1 : h1 (h1 51 4 + 1) = h (h 51 4 + 1) := by rw [f4, s51.1 _ o51.2.1]
      refine bX4_measure_43 (kt := fun q => by omega) (kf := fun q => ?_)
      refine bX4_measure_54 (c1 := by rw [f4]; exact co) (r2 := by rw [e1]; omega) (r3 := by rw [f6]; omega) (kt := fun q2 => ?_) (kf := fun q2 => ?_)
      · rw [e1, f6] at q2
        exact fin h1 _ _ _ _ _ s51 hp1 xhi (Or.inr q2)
      · refine bX4_measure_75 (kk := ?_)
        have u7 : up h1 51 7 (h1 51 7 + 1) 51 7 = h1 51 7 + 1 := up_ci _ _ _ _
        have u8 : up h1 51 7 (h1 51 7 + 1) 51 8 = h1 51 8 := up_cn (by decide)
        have u4 : up h1 51 7 (h1 51 7 + 1) 51 4 = h1 51 4 := up_cn (by decide)
        have u6 : up h1 51 7 (h1 51 7 + 1) 51 6 = h1 51 6 := up_cn (by decide)
        have ul : up h1 51 7 (h1 51 7 + 1) (h1 51 4 + 1) = h1 (h1 51 4 + 1) := up_n (by rw [f4]; exact o51.2.1)
        have um : up h1 51 7 (h1 51 7 + 1) (h1 51 4) = h1 (h1 51 4) := up_n (by rw [f4]; exact o51.1)
        refine ih _ _ _ _ _ _ (s51.up (Or.inl rfl)) ?_ (by rw [u8]; exact xhi) (by rw [u7, u8]; omega)
        unfold ptr at hp1 ⊢
        rw [u7, u8, u4, u6, ul, um]
        refine ⟨⟨by omega, by omega, hp1.1.2.2⟩, hp1.2.1, fun i a b => ?_⟩
        by_cases e : i = h1 51 7
        · rw [e]; exact q2
        · exact hp1.2.2 i a (by omega)
  -- high
  have L1 : ∀ (d : Nat) (h1 : AH) (x2 x3 x4 x5 x6 : AV), same51 h h1 → ptr h1 t → h1 51 8 + d = h (h 51 4) 2 → Wp mX4_measure (kR fr 0 0) (rV (fun h' => measured h h' t)) (0, 0) 0 [zR 51, zI t, x2, x3, x4, x5, x6] [] 137 h1 := by
    intro d
    induction d with
    | zero =>
      intro h1 x2 x3 x4 x5 x6 s51 hp1 hd
      have pa := hp1.1
      have f4 : h1 51 4 = h 51 4 := s51.2 4 (by decide) (by decide)
      have e0 : h1 (h1 51 4) = h (h 51 4) := by rw [f4, s51.1 _ o51.1]
      rw [e0] at pa
      refine bX4_measure_0 (c1 := by rw [f4]; exact co) (r2 := by rw [e0]; omega) (kt := fun q => L2 (h1 51 8 - h1 51 7).toNat h1 _ _ _ _ _ s51 hp1 (Or.inl (by omega)) (by omega)) (kf := fun q => by rw [e0] at q; omega)
    | succ d ih =>
      intro h1 x2 x3 x4 x5 x6 s51 hp1 hd
      have pa := hp1.1
      have f4 : h1 51 4 = h 51 4 := s51.2 4 (by decide) (by decide)
      have e0 : h1 (h1 51 4) = h (h 51 4) := by rw [f4, s51.1 _ o51.1]
      have e1 : h1 (h1 51 4 + 1) = h (h 51 4 + 1) := by rw [f4, s51.1 _ o51.2.1]
      rw [e0] at pa
      have hi8 := hin (h1 51 8) (by omega) (by omega)
      refine bX4_measure_0 (c1 := by rw [f4]; exact co) (r2 := by rw [e0]; omega) (kt := fun q => by rw [e0] at q; omega) (kf := fun q => ?_)
      refine bX4_measure_14 (c1 := by rw [f4]; exact co) (r2 := by rw [e1]; omega) (kt := fun q2 => ?_) (kf := fun q2 => ?_)
      · rw [e1] at q2
        exact L2 (h1 51 8 - h1 51 7).toNat h1 _ _ _ _ _ s51 hp1 (Or.inr q2) (by omega)
      · refine bX4_measure_30 (kk := ?_)
        have u7 : up h1 51 8 (h1 51 8 + 1) 51 7 = h1 51 7 := up_cn (by decide)
        have u8 : up h1 51 8 (h1 51 8 + 1) 51 8 = h1 51 8 + 1 := up_ci _ _ _ _
        have u4 : up h1 51 8 (h1 51 8 + 1) 51 4 = h1 51 4 := up_cn (by decide)
        have u6 : up h1 51 8 (h1 51 8 + 1) 51 6 = h1 51 6 := up_cn (by decide)
        have ul : up h1 51 8 (h1 51 8 + 1) (h1 51 4 + 1) = h1 (h1 51 4 + 1) := up_n (by rw [f4]; exact o51.2.1)
        have um : up h1 51 8 (h1 51 8 + 1) (h1 51 4) = h1 (h1 51 4) := up_n (by rw [f4]; exact o51.1)
        refine ih _ _ _ _ _ _ (s51.up (Or.inr rfl)) ?_ (by rw [u8]; omega)
        unfold ptr at hp1 ⊢
        rw [u7, u8, u4, u6, ul, um]
        refine ⟨⟨by omega, by omega, by rw [e0]; omega⟩, fun i a b => ?_, hp1.2.2⟩
        by_cases e : i = h1 51 8
        · rw [e]; exact q2
        · exact hp1.2.1 i a (by omega)
  exact L1 (h (h 51 4) 2 - h 51 8).toNat h _ _ _ _ _ ⟨fun _ _ => rfl, fun _ _ _ => rfl⟩ hp (by have := hp.1; omega)
