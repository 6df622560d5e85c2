/-! ===== the model's gorge ===== -/
/-- D tells E, as far as the arrays go -/
def capD (E D : DT) : Prop := (∀ i, 0 ≤ i → i ≤ 6 → D 0 i = E 0 i) ∧ (∀ i, 0 ≤ i → i < 8 → D 1 i = E 1 i ∧ D 2 i = E 2 i ∧ D 3 i = E 3 i) ∧ (∀ i, 0 ≤ i → i < 18 → D 4 i = E 4 i ∧ D 14 i = E 14 i) ∧ (∀ i, 0 ≤ i → i < 6 → D 5 i = E 5 i ∧ D 6 i = E 6 i ∧ D 7 i = E 7 i ∧ D 13 i = E 13 i) ∧ (∀ i, 0 ≤ i → i < 3 → D 8 i = E 8 i) ∧ (∀ i, 0 ≤ i → i < 24 → D 9 i = E 9 i) ∧ (∀ i, 0 ≤ i → i < 8 → D 10 i = E 10 i ∧ D 11 i = E 11 i) ∧ (∀ i, 0 ≤ i → i < 32 → D 12 i = E 12 i)
def mgNo (h h' : AH) (q : Int) : Prop := (∀ c, c ≠ 98 → ¬ (107 ≤ c ∧ c ≤ 114) → h' c = h c) ∧ (h' 107 0 = h 107 0 + 1 ∧ ∀ j, j ≠ 0 → h' 107 j = h 107 j) ∧ h' 98 0 = 0 ∧ h' 98 16 = 0 ∧ h' 98 18 = q ∧ ∀ j, ((1 ≤ j ∧ j ≤ 15) ∨ j = 19 ∨ 36 < j) → h' 98 j = h 98 j
def mgOk (h h' : AH) : Prop := (∀ c, (c < 98 ∨ c = 106 ∨ c = 107 ∨ 114 < c) → c ≠ 123 → c ≠ 128 → h' c = h c) ∧ (h' 98 0 = 0 ∧ h' 98 16 = 0 ∧ h' 98 18 = -1 ∧ h' 98 50 = 0 ∧ h' 98 66 = 0 ∧ h' 98 68 = 0 ∧ h' 98 78 = 0) ∧ (∀ j, ((8 ≤ j ∧ j ≤ 15) ∨ j = 19 ∨ 36 < j) → j ≠ 50 → j ≠ 66 → j ≠ 68 → j ≠ 78 → h' 98 j = h 98 j) ∧ (∀ i, 0 ≤ i → i < 16 → h' 123 i = -1) ∧ ∀ i, 0 ≤ i → i < 6 → h' 128 i = 0
theorem cpy_n {h : AH} {a b c n : Int} (hc : c ≠ b) : cpy h a 0 b 0 n c = h c := if_neg hc
theorem cpy_i {h : AH} {a b i n : Int} (h0 : 0 ≤ i) (h1 : i < n) : cpy h a 0 b 0 n b i = h a i := by
  unfold cpy
  rw [if_pos rfl, if_pos (by omega), show (0 : Int) + (i - 0) = i by omega]
section
variable {h0 h1 : AH} {T : Int → Int} {n p a s m k q c : Int} {E : DT} {fr : Nat}
theorem g_fin {Q : RS → Nat → AH → Prop} (hf : 5 ≤ fr) (g : gM h0 h1 T n p E a s m) (hq : ∀ h' : AH, capD E (dM h') → (∀ c, (c < 98 ∨ c = 106 ∨ c = 107 ∨ 114 < c) → c ≠ 123 → c ≠ 128 → h' c = h0 c) → (h' 98 18 = -1 ∧ h' 98 50 = 0 ∧ h' 98 66 = 0 ∧ h' 98 68 = 0 ∧ h' 98 78 = 0) → (∀ j, (j = 0 ∨ (8 ≤ j ∧ j ≤ 16) ∨ j = 19 ∨ 36 < j) → j ≠ 50 → j ≠ 66 → j ≠ 68 → j ≠ 78 → h' 98 j = h0 98 j) → (∀ i, 0 ≤ i → i < 16 → h' 123 i = -1) → (∀ i, 0 ≤ i → i < 6 → h' 128 i = 0) → Q (.inl (some (zI 0))) 137 h') {x1 x2 : AV} : Wp mX12_gorge (kR fr 0 0) Q (0, 0) 195 [zR 98, x1, x2] [] 137 h1 := by
  refine bX12_gorge_195 (hS := m_isGood_g g) (kk := ?_)
  rintro y h3 ⟨e3, hy⟩
  rw [e3, hy]; clear e3 h3 hy y
  refine bX12_gorge_199 (kf := fun z => by omega) (kt := fun _ => ?_)
  refine bX12_gorge_217 (hS := m_copies e108 e99 (by decide)) (kk := ?_)
  rintro h2 e2
  refine bX12_gorge_285 (hS := m_copies e109 e100 (by decide)) (kk := ?_)
  rintro h3 e3
  refine bX12_gorge_297 (hS := m_copies e110 e101 (by decide)) (kk := ?_)
  rintro h4 e4
  refine bX12_gorge_309 (hS := m_copies e111 e102 (by decide)) (kk := ?_)
  rintro h5 e5
  refine bX12_gorge_321 (hS := m_copies e112 e103 (by decide)) (kk := ?_)
  rintro h6 e6
  refine bX12_gorge_333 (hS := m_copies e113 e104 (by decide)) (kk := ?_)
  rintro h7 e7
  refine bX12_gorge_345 (hS := m_copies e114 e105 (by decide)) (kk := ?_)
  rintro h8 e8
  have B1 : ∀ c, (c < 98 ∨ 105 < c) → h8 c = h1 c := fun c hc => by
    rw [e8, cpy_n (by omega), e7, cpy_n (by omega), e6, cpy_n (by omega), e5, cpy_n (by omega), e4, cpy_n (by omega), e3, cpy_n (by omega), e2, cpy_n (by omega), up_n (by omega), up_n (by omega), up_n (by omega), up_n (by omega), up_n (by omega), up_n (by omega), up_n (by omega)]
  have B98 : ∀ j, h8 98 j = if 1 ≤ j ∧ j ≤ 7 then h1 98 (j + 26) else h1 98 j := fun j => by
    rw [e8, cpy_n (by decide), e7, cpy_n (by decide), e6, cpy_n (by decide), e5, cpy_n (by decide), e4, cpy_n (by decide), e3, cpy_n (by decide), e2, cpy_n (by decide)]
    by_cases r : 1 ≤ j ∧ j ≤ 7
    · rw [if_pos r]
      rcases (show j = 1 ∨ j = 2 ∨ j = 3 ∨ j = 4 ∨ j = 5 ∨ j = 6 ∨ j = 7 by omega) with e | e | e | e | e | e | e <;> rw [e]
      · rw [up_cn (by decide), up_cn (by decide), up_cn (by decide), up_cn (by decide), up_cn (by decide), up_cn (by decide), up_ci]; rfl
      · rw [up_cn (by decide), up_cn (by decide), up_cn (by decide), up_cn (by decide), up_cn (by decide), up_ci]; rfl
      · rw [up_cn (by decide), up_cn (by decide), up_cn (by decide), up_cn (by decide), up_ci]; rfl
      · rw [up_cn (by decide), up_cn (by decide), up_cn (by decide), up_ci]; rfl
      · rw [up_cn (by decide), up_cn (by decide), up_ci]; rfl
      · rw [up_cn (by decide), up_ci]; rfl
      · rw [up_ci]; rfl
    · rw [if_neg r, up_cn (by omega), up_cn (by omega), up_cn (by omega), up_cn (by omega), up_cn (by omega), up_cn (by omega), up_cn (by omega)]
  have B99 : ∀ i, 0 ≤ i → i < 16 → h8 99 i = h1 108 i := fun i a b => by
    rw [e8, cpy_n (by decide), e7, cpy_n (by decide), e6, cpy_n (by decide), e5, cpy_n (by decide), e4, cpy_n (by decide), e3, cpy_n (by decide), e2, cpy_i a (by omega), up_n (by decide), up_n (by decide), up_n (by decide), up_n (by decide), up_n (by decide), up_n (by decide), up_n (by decide)]
  have F : ∀ c, 108 < c → h2 c = h1 c := fun c z => by
    rw [e2, cpy_n (by omega), up_n (by omega), up_n (by omega), up_n (by omega), up_n (by omega), up_n (by omega), up_n (by omega), up_n (by omega)]
  have B100 : ∀ i, 0 ≤ i → i < 36 → h8 100 i = h1 109 i := fun i a b => by
    rw [e8, cpy_n (by decide), e7, cpy_n (by decide), e6, cpy_n (by decide), e5, cpy_n (by decide), e4, cpy_n (by decide), e3, cpy_i a (by omega), F _ (by decide)]
  have B101 : ∀ i, 0 ≤ i → i < 48 → h8 101 i = h1 110 i := fun i a b => by
    rw [e8, cpy_n (by decide), e7, cpy_n (by decide), e6, cpy_n (by decide), e5, cpy_n (by decide), e4, cpy_i a (by omega), e3, cpy_n (by decide), F _ (by decide)]
  have B102 : ∀ i, 0 ≤ i → i < 24 → h8 102 i = h1 111 i := fun i a b => by
    rw [e8, cpy_n (by decide), e7, cpy_n (by decide), e6, cpy_n (by decide), e5, cpy_i a (by omega), e4, cpy_n (by decide), e3, cpy_n (by decide), F _ (by decide)]
  have B103 : ∀ i, 0 ≤ i → i < 3 → h8 103 i = h1 112 i := fun i a b => by
    rw [e8, cpy_n (by decide), e7, cpy_n (by decide), e6, cpy_i a (by omega), e5, cpy_n (by decide), e4, cpy_n (by decide), e3, cpy_n (by decide), F _ (by decide)]
  have B104 : ∀ i, 0 ≤ i → i < 24 → h8 104 i = h1 113 i := fun i a b => by
    rw [e8, cpy_n (by decide), e7, cpy_i a (by omega), e6, cpy_n (by decide), e5, cpy_n (by decide), e4, cpy_n (by decide), e3, cpy_n (by decide), F _ (by decide)]
  have B105 : ∀ i, 0 ≤ i → i < 8 → h8 105 i = h1 114 i := fun i a b => by
    rw [e8, cpy_i a (by omega), e7, cpy_n (by decide), e6, cpy_n (by decide), e5, cpy_n (by decide), e4, cpy_n (by decide), e3, cpy_n (by decide), F _ (by decide)]
  clear e2 e3 e4 e5 e6 e7 e8 F
  have kp := g.1
  have g18 : h1 98 18 = -1 := g.2.2.2.2.2.2.2.2
  refine bX12_gorge_357 (kk := ?_)
  generalize hh9 : up (up (up h8 98 50 0) 98 68 0) 98 66 0 = h9
  have N1 : ∀ c, c ≠ 98 → h9 c = h8 c := fun c z => by rw [← hh9, up_n z, up_n z, up_n z]
  have N98 : ∀ j, j ≠ 50 → j ≠ 66 → j ≠ 68 → h9 98 j = h8 98 j := fun j x y z => by rw [← hh9, up_cn y, up_cn z, up_cn x]
  have N50 : h9 98 50 = 0 := by rw [← hh9, up_cn (by decide), up_cn (by decide), up_ci]
  have N68 : h9 98 68 = 0 := by rw [← hh9, up_cn (by decide), up_ci]
  have N66 : h9 98 66 = 0 := by rw [← hh9, up_ci]
  clear hh9
  suffices L1 : ∀ (d : Nat) (i : Int) (hx : AH) (x1 : AV), i + d = 16 → 0 ≤ i → (∀ c, c ≠ 123 → hx c = h9 c) → (∀ t, 0 ≤ t → t < i → hx 123 t = -1) → Wp mX12_gorge (kR fr 0 0) Q (0, 0) 374 [zR 98, x1, zI i] [] 137 hx by
    exact L1 16 0 h9 _ (by decide) (by decide) (fun _ _ => rfl) (fun t a b => by omega)
  intro d
  induction d with
  | succ d ih =>
    intro i hx _ hi i0 K V
    refine bX12_gorge_374 (kt := fun z => by omega) (kf := fun _ => bX12_gorge_380 (kk := ?_))
    refine ih (i + 1) _ _ (by omega) (by omega) (fun c z => by rw [up_n z]; exact K c z) (fun t a b => ?_)
    by_cases e : t = i
    · rw [e, up_ci]
    · rw [up_cn e]; exact V t a (by omega)
  | zero =>
    intro i hx _ hi i0 K V
    refine bX12_gorge_374 (kf := fun z => by omega) (kt := fun _ => bX12_gorge_393 (kk := ?_))
    suffices L2 : ∀ (d : Nat) (j : Int) (hy : AH) (x1 : AV), j + d = 6 → 0 ≤ j → (∀ c, c ≠ 128 → hy c = hx c) → (∀ t, 0 ≤ t → t < j → hy 128 t = 0) → Wp mX12_gorge (kR fr 0 0) Q (0, 0) 395 [zR 98, x1, zI j] [] 137 hy by
      exact L2 6 0 hx _ (by decide) (by decide) (fun _ _ => rfl) (fun t a b => by omega)
    intro d
    induction d with
    | succ d ih =>
      intro j hy _ hj j0 K2 V2
      refine bX12_gorge_395 (kt := fun z => by omega) (kf := fun _ => bX12_gorge_401 (kk := ?_))
      refine ih (j + 1) _ _ (by omega) (by omega) (fun c z => by rw [up_n z]; exact K2 c z) (fun t a b => ?_)
      by_cases e : t = j
      · rw [e, up_ci]
      · rw [up_cn e]; exact V2 t a (by omega)
    | zero =>
      intro j hy _ hj j0 K2 V2
      refine bX12_gorge_395 (kf := fun z => by omega) (kt := fun _ => bX12_gorge_414 (hq := ?_))
      generalize hhF : up hy 98 78 0 = hF
      have C : ∀ c, c ≠ 98 → c ≠ 123 → c ≠ 128 → hF c = h8 c := fun c x y z => by rw [← hhF, up_n x, K2 c z, K c y, N1 c x]
      have C98 : ∀ j, j ≠ 50 → j ≠ 66 → j ≠ 68 → j ≠ 78 → hF 98 j = h8 98 j := fun j x y z w => by rw [← hhF, up_cn w, K2 98 (by decide), K 98 (by decide), N98 j x y z]
      have A98 : ∀ j, (j = 50 ∨ j = 66 ∨ j = 68) → hF 98 j = h9 98 j := fun j z => by rw [← hhF, up_cn (by omega), K2 98 (by decide), K 98 (by decide)]
      refine hq hF ⟨fun i a b => ?_, fun i a b => ⟨?_, ?_, ?_⟩, fun i a b => ⟨?_, ?_⟩, fun i a b => ⟨?_, ?_, ?_, ?_⟩, fun i a b => ?_, fun i a b => ?_, fun i a b => ⟨?_, ?_⟩, fun i a b => ?_⟩ (fun c z x y => ?_) ⟨?_, ?_, ?_, ?_, ?_⟩ (fun j z x y w v => ?_) (fun i a b => ?_) (fun i a b => ?_)
      · show (if 0 ≤ i ∧ i ≤ 6 then hF 98 (i + 1) else 0) = E 0 i
        rw [if_pos ⟨a, b⟩, C98 _ (by omega) (by omega) (by omega) (by omega), B98, if_pos (by omega), show i + 1 + 26 = i + 27 by omega]
        exact g.cnt ⟨a, b⟩
      · show hF 99 (2 * i) = E 1 i
        rw [C 99 (by decide) (by decide) (by decide), B99 _ (by omega) (by omega)]
        exact g.at (k := 1) (by decide)
      · show hF 99 (2 * i + 1) = E 2 i
        rw [C 99 (by decide) (by decide) (by decide), B99 _ (by omega) (by omega)]
        exact g.at (k := 2) (by decide)
      · show hF 105 i = E 3 i
        rw [C 105 (by decide) (by decide) (by decide), B105 _ (by omega) (by omega)]
        exact g.at (k := 3) (by decide)
      · show hF 100 (6 * (i / 3) + i % 3) = E 4 i
        rw [C 100 (by decide) (by decide) (by decide), B100 _ (by omega) (by omega)]
        exact g.at (k := 4) (by decide)
      · show hF 102 (4 * (i / 3) + 1 + i % 3) = E 14 i
        rw [C 102 (by decide) (by decide) (by decide), B102 _ (by omega) (by omega)]
        exact g.at (k := 14) (by decide)
      · show hF 100 (6 * i + 3) = E 5 i
        rw [C 100 (by decide) (by decide) (by decide), B100 _ (by omega) (by omega)]
        exact g.at (k := 5) (by decide)
      · show hF 100 (6 * i + 4) = E 6 i
        rw [C 100 (by decide) (by decide) (by decide), B100 _ (by omega) (by omega)]
        exact g.at (k := 6) (by decide)
      · show hF 100 (6 * i + 5) = E 7 i
        rw [C 100 (by decide) (by decide) (by decide), B100 _ (by omega) (by omega)]
        exact g.at (k := 7) (by decide)
      · show hF 102 (4 * i) = E 13 i
        rw [C 102 (by decide) (by decide) (by decide), B102 _ (by omega) (by omega)]
        exact g.at (k := 13) (by decide)
      · show hF 103 i = E 8 i
        rw [C 103 (by decide) (by decide) (by decide), B103 _ (by omega) (by omega)]
        exact g.at (k := 8) (by decide)
      · show hF 104 i = E 9 i
        rw [C 104 (by decide) (by decide) (by decide), B104 _ (by omega) (by omega)]
        exact g.at (k := 9) (by decide)
      · show hF 101 (6 * i) = E 10 i
        rw [C 101 (by decide) (by decide) (by decide), B101 _ (by omega) (by omega)]
        exact g.at (k := 10) (by decide)
      · show hF 101 (6 * i + 1) = E 11 i
        rw [C 101 (by decide) (by decide) (by decide), B101 _ (by omega) (by omega)]
        exact g.at (k := 11) (by decide)
      · show hF 101 (6 * (i / 4) + 2 + i % 4) = E 12 i
        rw [C 101 (by decide) (by decide) (by decide), B101 _ (by omega) (by omega)]
        exact g.at (k := 12) (by decide)
      · rw [C c (by omega) x y, B1 c (by omega)]
        exact kp.1 c (by omega)
      · rw [C98 18 (by decide) (by decide) (by decide) (by decide), B98, if_neg (by decide)]; exact g18
      · rw [A98 50 (by decide)]; exact N50
      · rw [A98 66 (by decide)]; exact N66
      · rw [A98 68 (by decide)]; exact N68
      · rw [← hhF, up_ci]
      · rw [C98 j x y w v, B98, if_neg (by omega)]
        exact kp.2 j (by omega)
      · rw [← hhF, up_n (by decide), K2 123 (by decide)]; exact V i a (by omega)
      · rw [← hhF, up_n (by decide)]; exact V2 i a (by omega)
end
