/-! ===== the model: speaks, returns ===== -/
theorem dM12 {h : AH} {w j : Int} (j0 : 0 ≤ j) (j4 : j < 4) : dM h 12 (w * 4 + j) = h 101 (6 * w + 2 + j) := by
  show h 101 (6 * ((w * 4 + j) / 4) + 2 + (w * 4 + j) % 4) = _
  congr 1
  omega
theorem m_speaks {fr : Nat} {f i : Nat} {D : DT} {h : AH} (hD : dM h = D) (hd : okD D) (hp : atL D h f i) :
    Sp mX12_speaks true fr 0 0 [zR 98] 137 h (rV (fun h' => ((∀ c, c ≠ 98 → c ≠ 119 → h' c = h c) ∧ ∀ j, j ≠ 57 → h' 98 j = h 98 j) ∧ h' 98 57 = preW D (h 118) (D 13 f).toNat ∧ isSay D (h 118) (D 13 f).toNat (h' 119) ∧ ∀ u, 0 ≤ u → u < h' 98 57 → 0 ≤ h' 119 u ∧ h' 119 u < D 0 0)) := by
  refine Sp.mk yX12_speaks_ok rfl rfl ?_
  obtain ⟨⟨f1, i1⟩, h53, hW, -⟩ := id hp
  have n02 := hd.2.2.1
  have nF := hd.2.2.2.1
  have L := (hd.2.2.2.2.2.2.2.2.2.2.2.2.2.2 f (by omega) f1).1
  have eL : h 102 (4 * (f : Int)) = D 13 f := by rw [← hD]; rfl
  have wr := hW.in_
  have e12 : ∀ w j, 0 ≤ j → j < 4 → D 12 (w * 4 + j) = h 101 (6 * w + 2 + j) := fun w j a b => by rw [← hD]; exact dM12 a b
  have e11 : ∀ w, D 11 w = h 101 (6 * w + 1) := fun w => by rw [← hD]; rfl
  have pr := preW_rng hd wr
  generalize hQ : (rV (fun h' : AH => ((∀ c, c ≠ 98 → c ≠ 119 → h' c = h c) ∧ ∀ j, j ≠ 57 → h' 98 j = h 98 j) ∧ h' 98 57 = preW D (h 118) (D 13 f).toNat ∧ isSay D (h 118) (D 13 f).toNat (h' 119) ∧ ∀ u, 0 ≤ u → u < h' 98 57 → 0 ≤ h' 119 u ∧ h' 119 u < D 0 0)) = Q
  refine bX12_speaks_0 (kk := ?_)
  suffices O : ∀ (d k : Nat) (h1 : AH) (x2 : AV), (k : Int) + d = D 13 f → ((∀ c, c ≠ 98 → c ≠ 119 → h1 c = h c) ∧ ∀ j, j ≠ 57 → h1 98 j = h 98 j) → h1 98 57 = preW D (h 118) k → isSay D (h 118) k (h1 119) → (∀ u, 0 ≤ u → u < h1 98 57 → 0 ≤ h1 119 u ∧ h1 119 u < D 0 0) → Wp mX12_speaks (kR fr 0 0) Q (0, 0) 7 [zR 98, zI k, x2] [] 137 h1 by
    exact O (D 13 f).toNat 0 _ _ (by omega) ⟨fun c a _ => up_n a, fun j a => up_cn a⟩ (up_ci _ _ _ _) (fun k hk => by omega) (fun u a b => by rw [up_ci] at b; omega)
  intro d
  induction d with
  | zero =>
    intro k h1 x2 hk k1 p1 s1 r1
    have e102 : h1 102 = h 102 := k1.1 102 (by decide) (by decide)
    have f53 : h1 98 53 = f := by rw [k1.2 53 (by decide)]; exact h53
    refine bX12_speaks_7 (r3 := by rw [e102, f53, eL]; omega) (kt := fun _ => ?_) (kf := fun w => by rw [e102, f53, eL] at w; omega)
    refine bX12_speaks_93 (hq := ?_)
    rw [← hQ]
    refine ⟨rfl, rfl, k1, ?_⟩
    rw [show (D 13 f).toNat = k by omega]
    exact ⟨p1, s1, r1⟩
  | succ d ih =>
    intro k h1 x2 hk k1 p1 s1 r1
    have e102 : h1 102 = h 102 := k1.1 102 (by decide) (by decide)
    have f53 : h1 98 53 = f := by rw [k1.2 53 (by decide)]; exact h53
    refine bX12_speaks_7 (r3 := by rw [e102, f53, eL]; omega) (kt := fun w => by rw [e102, f53, eL] at w; omega) (kf := fun _ => ?_)
    refine bX12_speaks_22 (kk := ?_)
    have wk := wr k (by omega)
    obtain ⟨-, lw, sw⟩ := hd.2.2.2.2.2.2.2.2.2.2.2.2.2.1 _ wk.1 wk.2
    have pk := pr k (by omega)
    suffices I : ∀ (dj j : Nat) (h2 : AH), (j : Int) + dj = D 11 (h 118 k) → ((∀ c, c ≠ 98 → c ≠ 119 → h2 c = h c) ∧ ∀ j, j ≠ 57 → h2 98 j = h 98 j) → h2 98 57 = preW D (h 118) k + j → isSay D (h 118) k (h2 119) → (∀ m, 0 ≤ m → m < (j : Int) → h2 119 (preW D (h 118) k + m) = D 12 (h 118 k * 4 + m)) → (∀ u, 0 ≤ u → u < h2 98 57 → 0 ≤ h2 119 u ∧ h2 119 u < D 0 0) → Wp mX12_speaks (kR fr 0 0) Q (0, 0) 24 [zR 98, zI k, zI j] [] 137 h2 by
      exact I (D 11 (h 118 k)).toNat 0 h1 (by omega) k1 (by rw [p1]; omega) s1 (fun m a b => by omega) r1
    intro dj
    induction dj with
    | zero =>
      intro j h2 hj k2 p2 s2 t2 r2
      have e118 : h2 118 = h 118 := k2.1 118 (by decide) (by decide)
      have e101 : h2 101 = h 101 := k2.1 101 (by decide) (by decide)
      refine bX12_speaks_24 (r2 := by rw [e118]; omega) (r4 := by rw [e101, e118, ← e11]; omega) (kt := fun _ => ?_) (kf := fun w => by rw [e101, e118, ← e11] at w; omega)
      refine bX12_speaks_87 (kk := ?_)
      rw [show (k : Int) + 1 = ((k + 1 : Nat) : Int) by omega]
      have eP : preW D (h 118) (k + 1) = preW D (h 118) k + D 11 (h 118 k) := rfl
      refine ih (k + 1) h2 _ (by omega) k2 (by rw [p2, eP]; omega) (fun m hm => ?_) r2
      by_cases e : m = k
      · rw [e]; exact fun x a b => t2 x a (by omega)
      · exact s2 m (by omega)
    | succ dj ihj =>
      intro j h2 hj k2 p2 s2 t2 r2
      have e118 : h2 118 = h 118 := k2.1 118 (by decide) (by decide)
      have e101 : h2 101 = h 101 := k2.1 101 (by decide) (by decide)
      have sj := sw j (by omega) (by omega)
      refine bX12_speaks_24 (r2 := by rw [e118]; omega) (r4 := by rw [e101, e118, ← e11]; omega) (kt := fun w => by rw [e101, e118, ← e11] at w; omega) (kf := fun _ => ?_)
      refine bX12_speaks_44 (r2 := by rw [e118]; omega) (r3 := by rw [p2]; omega) (kk := ?_)
      rw [show (j : Int) + 1 = ((j + 1 : Nat) : Int) by omega, p2, e118, e101, ← e12 _ _ (by omega) (by omega)]
      refine ihj (j + 1) _ (by omega) ⟨fun c a b => by rw [up_n a, up_n b]; exact k2.1 c a b, fun m a => by rw [up_cn a, up_n (by decide)]; exact k2.2 m a⟩ (by rw [up_ci]; omega) (fun m hm x a b => ?_) (fun m a b => ?_) (fun u a b => ?_)
      · have pm := preW_mono hd wr (a := m + 1) (b := k) (by omega) (by omega)
        have eP : preW D (h 118) (m + 1) = preW D (h 118) m + D 11 (h 118 m) := rfl
        rw [up_n (by decide), up_cn (by omega)]
        exact s2 m hm x a b
      · rw [up_n (by decide)]
        by_cases e : m = j
        · rw [e, up_ci]
        · rw [up_cn (by omega)]; exact t2 m a (by omega)
      · rw [up_ci] at b
        rw [up_n (by decide)]
        by_cases e : u = preW D (h 118) k + j
        · rw [e, up_ci]; exact sj
        · rw [up_cn e]; exact r2 u a (by omega)
/-- scratch of the model's lines -/
def kR5 (h h' : AH) : Prop := (∀ c, c ≠ 98 → c ≠ 115 → c ≠ 119 → c ≠ 120 → h' c = h c) ∧ ∀ j, j ≠ 45 → j ≠ 48 → j ≠ 49 → j ≠ 57 → j ≠ 58 → h' 98 j = h 98 j
theorem kR5.dM {h h' : AH} (k : kR5 h h') : dM h' = dM h := dM_eq (fun i a b => k.2 i (by omega) (by omega) (by omega) (by omega) (by omega)) (fun c a b => k.1 c (by omega) (by omega) (by omega) (by omega))
theorem kR5.tr {a b c : AH} (h1 : kR5 a b) (h2 : kR5 b c) : kR5 a c := ⟨fun x p q r s => by rw [h2.1 x p q r s, h1.1 x p q r s], fun j p q r s t => by rw [h2.2 j p q r s t, h1.2 j p q r s t]⟩
theorem m_returns {fr : Nat} {f i : Nat} {o : Int} {D : DT} {h : AH} (hf : 2 ≤ fr) (hD : dM h = D) (hd : okD D) (hp : atL D h f i) (o0 : 0 ≤ o ∧ o < 24) (hfog : 0 ≤ h 98 46 ∧ h 98 46 ≤ 100) (hgo : -1 ≤ h 98 47 ∧ h 98 47 < 6) :
    Sp mX12_returns true fr 0 0 [zR 98, zI o] 137 h (rV (fun h' => kR5 h h' ∧ lineR D (ampA D (D 9 o) (h 98 46) (h 98 47)) f i (h' 118) (h' 119) (h' 120) (h' 98 58) ∧ h' 98 57 = preW D (h' 118) (D 13 f).toNat ∧ (0 ≤ h' 98 58 ∧ h' 98 58 ≤ 160) ∧ ∀ u, 0 ≤ u → u < h' 98 58 → 0 ≤ h' 120 u ∧ h' 120 u < 8)) := by
  refine Sp.mk yX12_returns_ok rfl rfl ?_
  obtain ⟨⟨f1, i1⟩, h53, hW, -⟩ := id hp
  have nF := hd.2.2.2.1
  have L := (hd.2.2.2.2.2.2.2.2.2.2.2.2.2.2 f (by omega) f1).1
  have ai := hd.2.2.2.2.2.2.2.2.2.2.2.2.1 o o0.1 o0.2
  have e9 : D 9 o = h 104 o := by rw [← hD]; rfl
  have n8 := hd.1
  refine bX12_returns_0 (hS := m_speaks hD hd hp) (kk := ?_)
  rintro h1 ⟨k1, p1, s1, r1⟩
  have pr := preW_rng hd hW.in_ (D 13 f).toNat (by omega)
  generalize hn : preW D (h 118) (D 13 f).toNat = n at *
  have e118 : h1 118 = h 118 := k1.1 118 (by decide) (by decide)
  have D1 : dM h1 = D := by rw [← hD]; exact dM_eq (fun i a b => k1.2 i (by omega)) (fun c a b => k1.1 c (by omega) (by omega))
  have e104 : h1 104 = h 104 := k1.1 104 (by decide) (by decide)
  have f46 : h1 98 46 = h 98 46 := k1.2 46 (by decide)
  have f47 : h1 98 47 = h 98 47 := k1.2 47 (by decide)
  generalize hA : ampA D (D 9 o) (h 98 46) (h 98 47) = A
  have hAe : ∀ s d, A s d = amp D 0 (D 9 o) (h 98 46) (h 98 47) s d := fun s d => by rw [← hA]
  generalize hQ : (rV (fun h' : AH => kR5 h h' ∧ lineR D A f i (h' 118) (h' 119) (h' 120) (h' 98 58) ∧ h' 98 57 = preW D (h' 118) (D 13 f).toNat ∧ (0 ≤ h' 98 58 ∧ h' 98 58 ≤ 160) ∧ ∀ u, 0 ≤ u → u < h' 98 58 → 0 ≤ h' 120 u ∧ h' 120 u < 8)) = Q
  refine bX12_returns_4 (hS := m_opens (by decide)) (kk := ?_)
  intro h2 hr2
  refine bX12_returns_13 (kk := ?_)
  have hsay : sayAt (opened h1 160 0 o) := by
    refine ⟨by rw [dM_opened, D1]; exact hd, by show (0 : Int) ≤ 160 ∧ (160 : Int) ≤ 400; decide, by show (0 : Int) ≤ 0 ∧ (0 : Int) < 3; decide, o0, ?_, ?_⟩
    · rw [opened_i (by decide) (by decide) (by decide), f46]; exact hfog
    · rw [opened_i (by decide) (by decide) (by decide), f47]; exact hgo
  have eamp : ∀ s d, ampM (opened h1 160 0 o) s d = A s d := by
    intro s d
    rw [hAe]
    show amp (dM (opened h1 160 0 o)) 0 (opened h1 160 0 o 104 o) (opened h1 160 0 o 98 46) (opened h1 160 0 o 98 47) s d = _
    rw [dM_opened, opened_c (by decide), opened_i (i := 46) (by decide) (by decide) (by decide), opened_i (i := 47) (by decide) (by decide) (by decide), f46, f47, D1, e104, e9]
  have o57 : opened h1 160 0 o 98 57 = n := by rw [opened_i (by decide) (by decide) (by decide)]; exact p1
  have o1 : opened h1 160 0 o 98 1 = D 0 0 := by rw [opened_i (by decide) (by decide) (by decide), ← D1]; rfl
  have o119 : opened h1 160 0 o 119 = h1 119 := opened_c (by decide)
  have lamR : ∀ (k : Nat) (t s : Int), (k : Int) ≤ n → 0 ≤ lamL A (fun k => h1 119 k) (fun k => (k : Int)) k t s ∧ lamL A (fun k => h1 119 k) (fun k => (k : Int)) k t s < 1000000 := fun k t s hk => by
    have := sg_rng (f := fun k : Nat => if s = h1 119 k then A s (t - k) else 0) (B := 1881) (n := k) (fun j hj => by
      split
      · rename_i es
        have := r1 j (by omega) (by rw [p1]; omega)
        rw [hAe]
        exact amp_rng hd (by omega) (by omega) hfog.1 hfog.2 ai.1 ai.2
      · decide)
    unfold lamL
    dsimp only
    omega
  -- what is heard
  have part2 : ∀ (h3 : AH) (x1 x2 x3 : AV), isRow (opened h1 160 0 o) h3 (lamT A (h1 119) n) → Wp mX12_returns (kR fr 0 0) Q (0, 0) 40 [zR 98, x1, x2, x3] [] 137 h3 := by
    intro h3 x1 x2 x3 hr3
    have g98 : ∀ j, j ≠ 45 → j ≠ 48 → j ≠ 49 → h3 98 j = h1 98 j := fun j a b c => by rw [hr3.1 98 (by decide), opened_i a b c]
    have gC : ∀ c, c ≠ 98 → c ≠ 115 → h3 c = h1 c := fun c a b => by rw [hr3.1 c b, opened_c a]
    have row : ∀ t s, 0 ≤ t → t < 160 → 0 ≤ s → s < 8 → h3 115 (8 * t + s) = lamT A (h1 119) n t s := fun t s a b c d => hr3.2 t s a b c d
    have d1 : h1 98 1 = D 0 0 := by rw [← D1]; rfl
    have d5 : h1 98 5 = D 0 4 := by rw [← D1]; rfl
    have d6 : h1 98 6 = D 0 5 := by rw [← D1]; rfl
    have d7 : h1 98 7 = D 0 6 := by rw [← D1]; rfl
    have q4 := hd.2.2.2.2.1
    have q5 := hd.2.2.2.2.2.1
    have q6 := hd.2.2.2.2.2.2.1
    generalize hH : heD D A (h1 119) n = H
    have c0 : ∀ t : Nat, (t : Int) ≤ n → cH H n t = 0 := fun t ht => sg_zero (fun u hu => by
      refine if_neg (fun zz => ?_)
      have := (of_decide_eq_true zz).1
      omega)
    refine bX12_returns_40 (kk := ?_)
    rw [g98 57 (by decide) (by decide) (by decide), p1]
    suffices T : ∀ (d t : Nat) (h4 : AH) (x1 x3 : AV), t + d = 160 → n ≤ t → ((∀ c, c ≠ 98 → c ≠ 120 → h4 c = h3 c) ∧ ∀ j, j ≠ 58 → h4 98 j = h3 98 j) → h4 98 58 = cH H n t → (∀ u : Nat, u < t → n ≤ u → ¬ H u = -1 → h4 120 (cH H n u) = H u) → (∀ u, 0 ≤ u → u < h4 98 58 → 0 ≤ h4 120 u ∧ h4 120 u < 8) → Wp mX12_returns (kR fr 0 0) Q (0, 0) 50 [zR 98, x1, zI t, x3] [] 137 h4 by
      have := T (160 - n).toNat n.toNat (up h3 98 58 0) none none (by omega) (by omega) ⟨fun c a _ => up_n a, fun j a => up_cn a⟩ (by rw [up_ci, c0 _ (by omega)]) (fun u a b => by omega) (fun u a b => by rw [up_ci] at b; omega)
      rw [show ((n.toNat : Nat) : Int) = n by omega] at this
      exact this
    intro d
    induction d with
    | zero =>
      intro t h4 x1 x3 ht nt k4 e58 b4 r4
      refine bX12_returns_50 (kt := fun _ => ?_) (kf := fun w => by omega)
      refine bX12_returns_97 (hq := ?_)
      have t160 : t = 160 := by omega
      have f118 : h4 118 = h 118 := by rw [k4.1 118 (by decide) (by decide), gC 118 (by decide) (by decide), e118]
      have f119 : h4 119 = h1 119 := by rw [k4.1 119 (by decide) (by decide), gC 119 (by decide) (by decide)]
      have f57 : h4 98 57 = n := by rw [k4.2 57 (by decide), g98 57 (by decide) (by decide) (by decide), p1]
      rw [← hQ]
      refine ⟨rfl, rfl, ⟨fun c a b c' d => by rw [k4.1 c a d, gC c a b, k1.1 c a c'], fun j a b c d e => by rw [k4.2 j e, g98 j a b c, k1.2 j d]⟩, ⟨?_, ?_, ?_⟩, ?_, ?_, r4⟩
      · rw [f118]; exact hW
      · rw [f118, f119]; exact s1
      · rw [f118, f119, hn]
        refine ⟨by rw [e58, t160, hH], ?_⟩
        rw [hH]
        exact fun u a b c => b4 u (by omega) b c
      · rw [f118, f57, hn]
      · rw [e58]
        have := cnt_rng (fun u => decide (n ≤ (u : Int) ∧ ¬ H u = -1)) t
        unfold cH
        omega
    | succ d ih =>
      intro t h4 x1 x3 ht nt k4 e58 b4 r4
      have cr := cnt_rng (fun u => decide (n ≤ (u : Int) ∧ ¬ H u = -1)) t
      have cr' : 0 ≤ cH H n t ∧ cH H n t ≤ t := cr
      have e115 : h4 115 = h3 115 := k4.1 115 (by decide) (by decide)
      have m1 : h4 98 1 = D 0 0 := by rw [k4.2 1 (by decide), g98 1 (by decide) (by decide) (by decide), d1]
      have m5 : h4 98 5 = D 0 4 := by rw [k4.2 5 (by decide), g98 5 (by decide) (by decide) (by decide), d5]
      have m6 : h4 98 6 = D 0 5 := by rw [k4.2 6 (by decide), g98 6 (by decide) (by decide) (by decide), d6]
      have m7 : h4 98 7 = D 0 6 := by rw [k4.2 7 (by decide), g98 7 (by decide) (by decide) (by decide), d7]
      refine bX12_returns_50 (kt := fun w => by omega) (kf := fun _ => ?_)
      refine bX12_returns_57 (hS := m_hears (by omega) (by rw [m1]; exact n8) (by rw [m5]; exact q4) (by rw [m6]; exact q5) (by rw [m7]; exact q6) (fun t' s a b c d => by rw [e115, row t' s a (by omega) c d]; exact lamR n.toNat t' s (by omega))) (kk := ?_)
      rintro x h5 ⟨e5, hh⟩
      rw [e5]; clear e5 h5
      rw [m1, m5, m6, m7] at hh
      have hx : x = H t := by
        rw [← hH]
        refine hearF_eq (hh.cong (fun t' s a b c d e => ?_) (by omega) q5.1)
        show h4 115 (8 * t' + s) = _
        rw [e115, row t' s a (by omega) d (by omega)]
      have xr : x = -1 ∨ 0 ≤ x ∧ x < D 0 0 := hh.range
      have cs := cH_s H n t
      have nb : ∀ u : Nat, u < t → n ≤ u → ¬ H u = -1 → cH H n u < cH H n t := fun u a b c => cnt_lt a (decide_eq_true ⟨b, c⟩)
      refine bX12_returns_62 (r1 := by omega) (kt := fun q => ?_) (kf := fun q => ?_)
      · rw [if_pos ⟨nt, by rw [← hx]; exact q⟩] at cs
        refine bX12_returns_71 (r1 := by rw [e58]; omega) (kk := bX12_returns_91 (kk := ?_))
        rw [show (t : Int) + 1 = ((t + 1 : Nat) : Int) by omega]
        refine ih (t + 1) _ _ _ (by omega) (by omega) ⟨fun c a b => by rw [up_n a, up_n b]; exact k4.1 c a b, fun j a => by rw [up_cn a, up_n (by decide)]; exact k4.2 j a⟩ (by rw [up_ci, e58, cs]) (fun u a b c => ?_) (fun u a b => ?_)
        · rw [up_n (by decide), e58]
          by_cases e : u = t
          · rw [e, up_ci, hx]
          · have := nb u (by omega) b c
            rw [up_cn (by omega)]; exact b4 u (by omega) b c
        · rw [up_ci] at b
          rw [up_n (by decide)]
          by_cases e : u = h4 98 58
          · rw [e, up_ci]; omega
          · rw [up_cn e]; exact r4 u a (by omega)
      · rw [if_neg (fun z => z.2 (by rw [← hx]; exact q))] at cs
        refine bX12_returns_68 (kk := bX12_returns_91 (kk := ?_))
        rw [show (t : Int) + 1 = ((t + 1 : Nat) : Int) by omega]
        refine ih (t + 1) h4 _ _ (by omega) (by omega) k4 (by rw [e58]; omega) (fun u a b c => ?_) r4
        by_cases e : u = t
        · rw [e, ← hx] at c; exact absurd q c
        · exact b4 u (by omega) b c
  -- what is said
  suffices S : ∀ (d k : Nat) (h3 : AH) (x1 x3 : AV), (k : Int) + d = n → isRow (opened h1 160 0 o) h3 (lamL A (fun k => h1 119 k) (fun k => (k : Int)) k) → Wp mX12_returns (kR fr 0 0) Q (0, 0) 15 [zR 98, x1, zI k, x3] [] 137 h3 by
    exact S n.toNat 0 h2 _ _ (by omega) hr2
  intro d
  induction d with
  | zero =>
    intro k h3 x1 x3 hk hr
    have e57 : h3 98 57 = n := by rw [hr.1 98 (by decide), o57]
    refine bX12_returns_15 (r2 := by rw [e57]; omega) (kt := fun _ => ?_) (kf := fun w => by rw [e57] at w; omega)
    refine part2 h3 _ _ _ ?_
    show isRow _ _ (lamL A (fun k => h1 119 k) (fun k => (k : Int)) n.toNat)
    rw [show n.toNat = k by omega]
    exact hr
  | succ d ih =>
    intro k h3 x1 x3 hk hr
    have e57 : h3 98 57 = n := by rw [hr.1 98 (by decide), o57]
    have e119 : h3 119 = h1 119 := by rw [hr.1 119 (by decide), o119]
    have rk := r1 k (by omega) (by rw [p1]; omega)
    refine bX12_returns_15 (r2 := by rw [e57]; omega) (kt := fun w => by rw [e57] at w; omega) (kf := fun _ => ?_)
    refine bX12_returns_23 (hS := m_saysRow (by omega) hsay hr (by rw [e119, o1]; exact rk) (by omega)) (kk := ?_)
    intro h4 hr4
    refine bX12_returns_34 (kk := ?_)
    rw [show (k : Int) + 1 = ((k + 1 : Nat) : Int) by omega]
    refine ih (k + 1) h4 _ _ (by omega) (isRow_eq hr4 (fun t s _ _ _ _ => ?_))
    rw [e119]
    unfold lamL
    rw [sg]
    congr 1
    by_cases es : s = h1 119 k
    · rw [if_pos es, if_pos es, eamp, es]
    · rw [if_neg es, if_neg es]
