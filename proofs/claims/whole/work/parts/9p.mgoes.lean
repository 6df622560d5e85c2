/-! ===== the model: goesThrough ===== -/
theorem plR.yes {D : DT} {P : Int → Int → Prop} {f i : Nat} {N n len : Int} (hlen : LenR D f i len) (hp : P f i) (hr : ∀ (g j : Nat) (m : Int), bef D f i g j → LenR D g j m → 1 ≤ m) (hc : n = -1 ∨ len < n) (h : plR D P f i N n) : plR D P f (i + 1) (preN D f + i) len := by
  refine Or.inr ⟨f, i, bef_s.mpr (Or.inr ⟨rfl, rfl⟩), hp, rfl, hlen, fun g' j' n' x y z => ?_⟩
  rcases bef_s.mp x with x | ⟨x1, x2⟩
  · rcases h with ⟨c1, c2, c3⟩ | ⟨g, j, c1, c2, c3, c4, c5⟩
    · exact absurd y (c3 g' j' x)
    · have := c5 g' j' n' x y z
      have := hr g j n c1 c4
      omega
  · rw [x1, x2] at z ⊢
    exact Or.inr ⟨hlen.one z, Int.le_refl _⟩
theorem plR.no {D : DT} {P : Int → Int → Prop} {f i : Nat} {N n len : Int} (hl : ∀ k : Nat, k ≤ f → 0 ≤ linesD D k) (hlen : LenR D f i len) (hc : ¬ (P f i ∧ (n = -1 ∨ len < n))) (h : plR D P f i N n) : plR D P f (i + 1) N n := by
  rcases h with ⟨c1, c2, c3⟩ | ⟨g, j, c1, c2, c3, c4, c5⟩
  · refine Or.inl ⟨c1, c2, fun g j x y => ?_⟩
    rcases bef_s.mp x with x | ⟨x1, x2⟩
    · exact c3 g j x y
    · rw [x1, x2] at y
      exact hc ⟨y, Or.inl c2⟩
  · refine Or.inr ⟨g, j, bef_s.mpr (Or.inl c1), c2, c3, c4, fun g' j' n' x y z => ?_⟩
    rcases bef_s.mp x with x | ⟨x1, x2⟩
    · exact c5 g' j' n' x y z
    · rw [x1, x2] at y z ⊢
      have e := hlen.one z
      have lt := bef_lt hl c1
      by_cases w : len < n
      · exact absurd ⟨y, Or.inr w⟩ hc
      · omega
theorem plR.sam {D : DT} {P : Int → Int → Prop} {f i g j : Nat} {N n : Int} (s : samP D f i g j) (h : plR D P f i N n) : plR D P g j N n := by
  unfold plR at h ⊢
  simp only [s.2.1] at h
  exact h
/-- the model keeps the plainest by its form and its words -/
def plM (D : DT) (P : Int → Int → Prop) (f i : Nat) (h : AH) : Prop := ∃ N, plR D P f i N (h 98 61) ∧ (N = -1 ∨ ∃ g j : Nat, bef D f i g j ∧ N = preN D g + j ∧ h 98 62 = g ∧ lineW D g j (h 121) ∧ ∀ k, D 13 g ≤ k → k < 3 → h 121 k = -1)
def fst0 (D : DT) (g j w : Int) : Prop := ∃ W, lineW D g j W ∧ W 0 = w
def gdR (D : DT) (P : Int → Int → Prop) (f i : Nat) (h : AH) : Prop := ∀ g : Nat, g < (D 0 3).toNat → m16 (h 122 g) ∧ ∀ w : Nat, bt (h 122 g) w = true ↔ ∃ j : Nat, bef D f i g j ∧ P g j ∧ fst0 D g j w
def figM (D : DT) (P E : Int → Int → Prop) (f i : Nat) (h : AH) : Prop := h 98 59 = psum D (inC P) f i ∧ h 98 60 = psum D (inC E) f i ∧ plM D P f i h ∧ gdR D P f i h ∧ h 98 63 = begD D
theorem figM.sam {D : DT} {P E : Int → Int → Prop} {f i g j : Nat} {h : AH} (s : samP D f i g j) (hm : figM D P E f i h) : figM D P E g j h := by
  obtain ⟨a, b, c, d, e⟩ := hm
  refine ⟨by rw [← s.1]; exact a, by rw [← s.1]; exact b, ?_, ?_, e⟩
  · unfold plM plR at c ⊢
    simp only [s.2.1] at c
    exact c
  · unfold gdR at d ⊢
    simp only [s.2.1] at d
    exact d
theorem figM.same {D : DT} {P E : Int → Int → Prop} {f i : Nat} {h h' : AH} (e98 : ∀ j, 59 ≤ j → j ≤ 63 → h' 98 j = h 98 j) (e121 : h' 121 = h 121) (e122 : h' 122 = h 122) (hm : figM D P E f i h) : figM D P E f i h' := by
  unfold figM plM gdR at hm ⊢
  rw [e98 59 (by decide) (by decide), e98 60 (by decide) (by decide), e98 61 (by decide) (by decide), e98 62 (by decide) (by decide), e98 63 (by decide) (by decide), e121, e122]
  exact hm
theorem fst0.one {D : DT} {g j w v : Int} (hl : 1 ≤ D 13 g) (h1 : fst0 D g j w) (h2 : fst0 D g j v) : w = v := by
  obtain ⟨W, a, b⟩ := h1
  obtain ⟨V, c, d⟩ := h2
  rw [← b, ← d]
  exact lineW.one a c 0 (by decide) (by omega)
theorem m_goesThrough {fr : Nat} {o : Int} {D : DT} {h : AH} (hf : 5 ≤ fr) (hD : dM h = D) (hd : okD D) (o0 : 0 ≤ o ∧ o < 24) (h46 : h 98 46 = 0) (h47 : h 98 47 = -1) :
    Sp mX12_goesThrough true fr 0 0 [zR 98, zI o] 137 h (rV (fun h' => kM0 h h' ∧ figM D (Ans D (ampA D (D 9 o) 0 (-1))) (Ech D (ampA D (D 9 o) 0 (-1))) (D 0 3).toNat 0 h')) := by
  refine Sp.mk yX12_goesThrough_ok rfl rfl ?_
  have nF := hd.2.2.2.1
  have n02 := hd.2.2.1
  have e4 : h 98 4 = D 0 3 := by rw [← hD]; rfl
  have ar := all_rng hd
  generalize hA : ampA D (D 9 o) 0 (-1) = A
  generalize hP : Ans D A = P
  generalize hE : Ech D A = E
  generalize hQ : (rV (fun h' : AH => kM0 h h' ∧ figM D P E (D 0 3).toNat 0 h')) = Q
  have lr1 : ∀ (g j : Nat) (m : Int), g < (D 0 3).toNat → LenR D g j m → 1 ≤ m ∧ m ≤ 12 := fun g j m hg hL => by
    obtain ⟨W, a, b⟩ := hL
    have L := (hd.2.2.2.2.2.2.2.2.2.2.2.2.2.2 g (by omega) (by omega)).1
    have := preW_rng hd a.in_ (D 13 g).toNat (by omega)
    omega
  -- the walk
  have walk : ∀ (d f i : Nat) (h1 : AH) (x : Int) (x3 : AV), preN D f + i + d = allD D → wk D h1 x f i → kM0 h h1 → figM D P E f i h1 → Wp mX12_goesThrough (kR fr 0 0) Q (0, 0) 79 [zR 98, zI o, zI x, x3] [] 137 h1 := by
    have fin : ∀ (h1 : AH) (x0 x1 x2 x3 : AV), kM0 h h1 → figM D P E (D 0 3).toNat 0 h1 → Wp mX12_goesThrough (kR fr 0 0) Q (0, 0) 199 [x0, x1, x2, x3] [] 137 h1 := fun h1 _ _ _ _ k1 f1 => by
      refine bX12_goesThrough_199 (hq := ?_)
      rw [← hQ]
      exact ⟨rfl, rfl, k1, f1⟩
    intro d
    induction d with
    | zero =>
      intro f i h1 x x3 hm w k1 hg
      have xr := w.rng
      rcases w with ⟨-, a⟩ | ⟨e, e2, e3⟩
      · have := a.lt hd; omega
      refine bX12_goesThrough_79 (kt := fun _ => fin h1 _ _ _ _ k1 (by rw [e2, e3] at hg; exact hg)) (kf := fun z => absurd e z)
    | succ d ih =>
      intro f i h1 x x3 hm w k1 hg
      have xr := w.rng
      rcases w with ⟨e, a⟩ | ⟨e, e2, e3⟩
      rotate_left
      · refine bX12_goesThrough_79 (kt := fun _ => fin h1 _ _ _ _ k1 (by rw [e2, e3] at hg; exact hg)) (kf := fun z => absurd e z)
      have f1 := a.1.1
      have f46 : h1 98 46 = 0 := by rw [k1.1.2 46 (by unfold perF; omega)]; exact h46
      have f47 : h1 98 47 = -1 := by rw [k1.1.2 47 (by unfold perF; omega)]; exact h47
      have D1 : dM h1 = D := by rw [k1.1.dM]; exact hD
      have L := (hd.2.2.2.2.2.2.2.2.2.2.2.2.2.2 f (by omega) f1).1
      have next : ∀ (h2 : AH) (x2 x3 : AV), kM0 h h2 → atL D h2 f i → figM D P E f (i + 1) h2 → Wp mX12_goesThrough (kR fr 0 0) Q (0, 0) 191 [zR 98, zI o, x2, x3] [] 137 h2 := fun h2 _ _ k2 a2 g2 => by
        refine bX12_goesThrough_191 (hS := m_nextW (by omega) (by rw [k2.1.dM]; exact hD) hd a2) (kk := ?_)
        rintro y h3 ⟨k3, g, j, s, w3⟩
        refine bX12_goesThrough_195 (kk := ih g j h3 y _ ?_ w3 (k2.tr k3.m) ((g2.sam s).same (fun j p q => k3.2 j (by omega)) (k3.1 121 (by decide) (by decide)) (k3.1 122 (by decide) (by decide))))
        have := s.2.2
        omega
      refine bX12_goesThrough_79 (kt := fun z => by omega) (kf := fun _ => ?_)
      refine bX12_goesThrough_83 (hS := m_answers (by omega) D1 hd a o0 (by rw [f46]; decide) (by rw [f47]; decide)) (kk := ?_)
      rintro y h2 ⟨⟨k2, b2⟩, lr2, e57, hy⟩
      rw [f46, f47, hA] at lr2 hy
      rw [hP] at hy
      have k2' := k1.tr k2.m
      have a2 : atL D h2 f i := a.same (k2.2 53 (by decide) (by decide) (by decide) (by decide) (by decide)) (k2.1 118 (by decide) (by decide) (by decide) (by decide))
      have g2 : figM D P E f i h2 := hg.same (fun j p q => k2.2 j (by omega) (by omega) (by omega) (by omega) (by omega)) (k2.1 121 (by decide) (by decide) (by decide) (by decide)) (k2.1 122 (by decide) (by decide) (by decide) (by decide))
      have D2 : dM h2 = D := by rw [k2.dM]; exact D1
      have hlen : LenR D f i (h2 98 57) := ⟨h2 118, lr2.1, e57⟩
      have len1 := lr1 f i _ (by omega) hlen
      have yr : y = 0 ∨ y = 1 := by rcases hy with z | z <;> omega
      refine bX12_goesThrough_88 (hS := m_isEchoed (by omega) D2 hd a2 b2 lr2) (kk := ?_)
      rintro z h3 ⟨e3, hz⟩
      rw [e3]; clear e3 h3
      rw [hE] at hz
      obtain ⟨q59, q60, qpl, qgd, q63⟩ := id g2
      have psP := psum_s D (inC P) f i
      have psE := psum_s D (inC E) f i
      -- behind the echo's count
      have go : ∀ t : Int, h2 98 60 + t = psum D (inC E) f (i + 1) → Wp mX12_goesThrough (kR fr 0 0) Q (0, 0) 106 [zR 98, zI o, none, zI y] [zI t, zI (h2 98 60), zR 98] 137 h2 := fun t ht => by
        have k3 : kM0 h (up h2 98 60 (h2 98 60 + t)) := k2'.tr ⟨keepM.up98 (by unfold perF; omega), up_cn (by decide)⟩
        have a3 : atL D (up h2 98 60 (h2 98 60 + t)) f i := a2.same (up_cn (by decide)) (up_n (by decide))
        refine bX12_goesThrough_106 (kt := fun q => ?_) (kf := fun q => ?_)
        · rcases hy with ⟨w, -⟩ | ⟨-, no⟩
          · omega
          refine next _ _ _ k3 a3 ⟨?_, ?_, ?_, ?_, ?_⟩
          · rw [up_cn (by decide), psP, q59]; unfold inC; rw [if_neg (by rw [cl_neg no]; decide)]; omega
          · rw [up_ci]; exact ht
          · obtain ⟨N, c1, c2⟩ := qpl
            refine ⟨N, ?_, ?_⟩
            · rw [up_cn (by decide)]
              exact plR.no (fun k hk => lines_nn hd (by omega)) hlen (fun w => no w.1) c1
            · rcases c2 with c2 | ⟨g, j, c3, c4, c5, c6, c7⟩
              · exact Or.inl c2
              · exact Or.inr ⟨g, j, bef_s.mpr (Or.inl c3), c4, by rw [up_cn (by decide)]; exact c5, by rw [up_n (by decide)]; exact c6, by rw [up_n (by decide)]; exact c7⟩
          · intro g hg'
            obtain ⟨c1, c2⟩ := qgd g hg'
            rw [up_n (by decide)]
            refine ⟨c1, fun w => ?_⟩
            rw [c2 w]
            constructor
            · rintro ⟨j, p, r⟩; exact ⟨j, bef_s.mpr (Or.inl p), r⟩
            · rintro ⟨j, p, r, s⟩
              rcases bef_s.mp p with p | ⟨p1, p2⟩
              · exact ⟨j, p, r, s⟩
              · rw [p1, p2] at r; exact absurd r no
          · rw [up_cn (by decide)]; exact q63
        rcases hy with ⟨-, yes⟩ | ⟨w, -⟩
        rotate_left
        · exact absurd w q
        generalize hh3 : up h2 98 60 (h2 98 60 + t) = h3 at *
        have s98 : ∀ j, j ≠ 60 → h3 98 j = h2 98 j := fun j hj => by rw [← hh3]; exact up_cn hj
        have sC : ∀ c, c ≠ 98 → h3 c = h2 c := fun c hc => by rw [← hh3]; exact up_n hc
        have s60 : h3 98 60 = psum D (inC E) f (i + 1) := by rw [← hh3, up_ci]; exact ht
        have e53 : h3 98 53 = f := a3.2.1
        have w0 := (a3.2.2.1 0 (by decide) (by omega)).1
        obtain ⟨N, c1, c2⟩ := qpl
        have n61 : h2 98 61 = -1 ∨ (1 ≤ h2 98 61 ∧ h2 98 61 ≤ 12) := by
          rcases c1 with ⟨-, c, -⟩ | ⟨g, j, p1, -, -, p4, -⟩
          · exact Or.inl c
          · exact Or.inr (lr1 g j _ (by unfold bef at p1; omega) p4)
        have o16 := one16 (s := h3 118 0) w0.1 (by omega)
        have ogd := or16 (qgd f (by omega)).1 o16.1
        have e122 : h3 122 f = h2 122 f := by rw [sC 122 (by decide)]
        -- the heap with the line counted
        generalize hh4 : up (up h3 98 59 (h3 98 59 + 1)) 122 (h3 98 53) (bOr (h3 122 (h3 98 53)) (1 * 2 ^ (h3 118 0).toNat)) = h4
        have t98 : ∀ j, j ≠ 59 → h4 98 j = h3 98 j := fun j hj => by rw [← hh4, up_n (by decide), up_cn hj]
        have tC : ∀ c, c ≠ 98 → c ≠ 122 → h4 c = h3 c := fun c p r => by rw [← hh4, up_n r, up_n p]
        have t59 : h4 98 59 = psum D (inC P) f (i + 1) := by
          rw [← hh4, up_n (by decide), up_ci, s98 59 (by decide), psP, q59]; unfold inC; rw [if_pos (cl_pos yes)]
        have k4 : kM0 h h4 := by
          refine k3.tr ⟨⟨fun c hc => ?_, fun j hj => ?_⟩, t98 0 (by decide)⟩
          · unfold perC at hc; exact tC c (by omega) (by omega)
          · unfold perF at hj; exact t98 j (by omega)
        have a4 : atL D h4 f i := a3.same (t98 53 (by decide)) (tC 118 (by decide) (by decide))
        have gd4 : gdR D P f (i + 1) h4 := by
          intro g hg'
          obtain ⟨d1, d2⟩ := qgd g hg'
          by_cases eg : g = f
          · rw [eg] at d2 ⊢
            have e4' : h4 122 f = bOr (h2 122 f) (1 * 2 ^ (h3 118 0).toNat) := by rw [← hh4, e53, up_ci, e122]
            rw [e4']
            refine ⟨ogd.1, fun w => ?_⟩
            rw [ogd.2 w, Bool.or_eq_true, d2 w, o16.2 w, decide_eq_true_eq]
            constructor
            · rintro (⟨j, p, r⟩ | ew)
              · exact ⟨j, bef_s.mpr (Or.inl p), r⟩
              · exact ⟨i, bef_s.mpr (Or.inr ⟨rfl, rfl⟩), yes, h3 118, a3.2.2.1, by omega⟩
            · rintro ⟨j, p, r, s⟩
              rcases bef_s.mp p with p | ⟨-, p2⟩
              · exact Or.inl ⟨j, p, r, s⟩
              · rw [p2] at s
                have := fst0.one (by omega) s ⟨h3 118, a3.2.2.1, rfl⟩
                exact Or.inr (by omega)
          · have e4' : h4 122 g = h2 122 g := by rw [← hh4, up_cn (by omega), up_n (by decide), sC 122 (by decide)]
            rw [e4']
            refine ⟨d1, fun w => ?_⟩
            rw [d2 w]
            constructor
            · rintro ⟨j, p, r⟩; exact ⟨j, bef_s.mpr (Or.inl p), r⟩
            · rintro ⟨j, p, r, s⟩
              rcases bef_s.mp p with p | ⟨p1, p2⟩
              · exact ⟨j, p, r, s⟩
              · exact absurd p1 eg
        have v61 : h4 98 61 = h2 98 61 := by rw [t98 61 (by decide), s98 61 (by decide)]
        have v57 : h4 98 57 = h2 98 57 := by rw [t98 57 (by decide), s98 57 (by decide)]
        have v60 : h4 98 60 = psum D (inC E) f (i + 1) := by rw [t98 60 (by decide)]; exact s60
        have v63 : h4 98 63 = begD D := by rw [t98 63 (by decide), s98 63 (by decide)]; exact q63
        have take : (h2 98 61 = -1 ∨ h2 98 57 < h2 98 61) → Wp mX12_goesThrough (kR fr 0 0) Q (0, 0) 163 [zR 98, zI o, none, none] [] 137 h4 := fun hc => by
          refine bX12_goesThrough_163 (hS := m_copies (N := 3) e118 e121 (by decide)) (kk := ?_)
          rintro h5 e5
          have u98 : ∀ j, j ≠ 61 → j ≠ 62 → h5 98 j = h4 98 j := fun j p r => by rw [e5]; unfold cpy; rw [if_neg (by decide), up_cn r, up_cn p]
          have u61 : h5 98 61 = h4 98 57 := by rw [e5]; unfold cpy; rw [if_neg (by decide), up_cn (by decide), up_ci]
          have u62 : h5 98 62 = f := by rw [e5]; unfold cpy; rw [if_neg (by decide), up_ci, t98 53 (by decide)]; exact e53
          have uC : ∀ c, c ≠ 98 → c ≠ 121 → h5 c = h4 c := fun c p r => by rw [e5]; unfold cpy; rw [if_neg r, up_n p, up_n p]
          have u121 : ∀ k, 0 ≤ k → k < 3 → h5 121 k = h4 118 k := fun k p r => by
            rw [e5]; unfold cpy; rw [if_pos rfl]
            rw [if_pos (by omega), up_n (by decide), up_n (by decide)]
            congr 1; omega
          refine next h5 _ _ (k4.tr ⟨⟨fun c hc => ?_, fun j hj => ?_⟩, u98 0 (by decide) (by decide)⟩) (a4.same (u98 53 (by decide) (by decide)) (uC 118 (by decide) (by decide))) ⟨?_, ?_, ?_, ?_, ?_⟩
          · unfold perC at hc; exact uC c (by omega) (by omega)
          · unfold perF at hj; exact u98 j (by omega) (by omega)
          · rw [u98 59 (by decide) (by decide)]; exact t59
          · rw [u98 60 (by decide) (by decide)]; exact v60
          · refine ⟨preN D f + i, ?_, Or.inr ⟨f, i, bef_s.mpr (Or.inr ⟨rfl, rfl⟩), rfl, u62, fun k p r => ?_, fun k p r => ?_⟩⟩
            · rw [u61, v57]
              exact plR.yes hlen yes (fun g j m p r => (lr1 g j m (by unfold bef at p; omega) r).1) hc c1
            · rw [u121 k p (by omega)]; exact a4.2.2.1 k p r
            · rw [u121 k (by omega) r]; exact a4.2.2.2 k p r
          · unfold gdR; rw [uC 122 (by decide) (by decide)]; exact gd4
          · rw [u98 63 (by decide) (by decide)]; exact v63
        have leave : ¬ (h2 98 61 = -1 ∨ h2 98 57 < h2 98 61) → Wp mX12_goesThrough (kR fr 0 0) Q (0, 0) 191 [zR 98, zI o, none, none] [] 137 h4 := fun hc => by
          refine next h4 _ _ k4 a4 ⟨t59, v60, ⟨N, ?_, ?_⟩, gd4, v63⟩
          · rw [v61]
            exact plR.no (fun k hk => lines_nn hd (by omega)) hlen (fun w => hc w.2) c1
          · rcases c2 with c2 | ⟨g, j, c3, c4, c5, c6, c7⟩
            · exact Or.inl c2
            · have v121 : h4 121 = h2 121 := by rw [tC 121 (by decide) (by decide), sC 121 (by decide)]
              exact Or.inr ⟨g, j, bef_s.mpr (Or.inl c3), c4, by rw [t98 62 (by decide), s98 62 (by decide)]; exact c5, by rw [v121]; exact c6, by rw [v121]; exact c7⟩
        refine bX12_goesThrough_114 (r1 := by rw [e53]; omega) (r3 := by rw [s98 61 (by decide)]; omega) (kt := fun q2 => ?_) (kf := fun q2 => ?_)
        · rw [s98 61 (by decide)] at q2
          rw [hh4]
          exact take (Or.inl q2)
        · rw [s98 61 (by decide)] at q2
          rw [hh4]
          refine bX12_goesThrough_152 (r1 := by rw [v57]; omega) (r2 := by rw [v61]; omega) (kt := fun q3 => ?_) (kf := fun q3 => ?_)
          · rw [v57, v61] at q3
            exact leave (by omega)
          · rw [v57, v61] at q3
            exact take (Or.inr q3)
      refine bX12_goesThrough_98 (r1 := by rcases hz with w | w <;> omega) (kt := fun q => ?_) (kf := fun q => ?_)
      · rcases hz with ⟨w, -⟩ | ⟨-, no⟩
        · omega
        refine bX12_goesThrough_105 (kk := go 0 ?_)
        rw [psE, q60]; unfold inC; rw [if_neg (by rw [cl_neg no]; decide)]
      · rcases hz with ⟨-, yes⟩ | ⟨w, -⟩
        · refine bX12_goesThrough_101 (kk := go 1 ?_)
          rw [psE, q60]; unfold inC; rw [if_pos (cl_pos yes)]
        · exact absurd w q
  -- the start
  refine bX12_goesThrough_0 (kk := ?_)
  suffices I : ∀ (d g : Nat) (h1 : AH) (x3 : AV), (g : Int) + d = D 0 3 → kM0 h h1 → h1 98 59 = 0 → h1 98 60 = 0 → h1 98 61 = -1 → h1 98 63 = sg (begF D) g → (∀ v : Nat, v < g → h1 122 v = 0) → Wp mX12_goesThrough (kR fr 0 0) Q (0, 0) 22 [zR 98, zI o, zI g, x3] [] 137 h1 by
    refine I (D 0 3).toNat 0 _ _ (by omega) ⟨⟨fun c hc => ?_, fun j hj => ?_⟩, ?_⟩ ?_ ?_ ?_ ?_ (fun v hv => by omega)
    · unfold perC at hc; rw [up_n (by omega), up_n (by omega), up_n (by omega), up_n (by omega)]
    · unfold perF at hj; rw [up_cn (by omega), up_cn (by omega), up_cn (by omega), up_cn (by omega)]
    · rw [up_cn (by decide), up_cn (by decide), up_cn (by decide), up_cn (by decide)]
    · rw [up_cn (by decide), up_cn (by decide), up_cn (by decide), up_ci]
    · rw [up_cn (by decide), up_cn (by decide), up_ci]
    · rw [up_cn (by decide), up_ci]
    · rw [up_ci]; rfl
  intro d
  induction d with
  | zero =>
    intro g h1 x3 hg k1 a59 a60 a61 a63 a122
    have f4 : h1 98 4 = D 0 3 := by rw [k1.1.2 4 (by unfold perF; omega), e4]
    refine bX12_goesThrough_22 (kt := fun _ => ?_) (kf := fun w => by omega)
    refine bX12_goesThrough_74 (hS := m_firstW (by omega) (by rw [k1.1.dM]; exact hD) hd) (kk := ?_)
    rintro x h2 ⟨k2, g', j, s, w⟩
    refine bX12_goesThrough_78 (kk := walk (allD D).toNat g' j h2 x _ ?_ w (k1.tr k2.m) ?_)
    · have := s.2.2
      have e0 : preN D 0 = 0 := rfl
      omega
    · refine figM.sam s (figM.same (h := h1) (fun j p q => k2.2 j (by omega)) (k2.1 121 (by decide) (by decide)) (k2.1 122 (by decide) (by decide)) ⟨by rw [a59]; rfl, by rw [a60]; rfl, ⟨-1, Or.inl ⟨rfl, a61, fun a b z => by unfold bef at z; omega⟩, Or.inl rfl⟩, fun v hv => ?_, ?_⟩)
      · rw [a122 v (by omega)]
        refine ⟨by constructor <;> decide, fun w => ?_⟩
        have z0 : bt 0 w = false := by unfold bt; simp
        rw [z0]
        refine ⟨fun z => absurd z (by decide), ?_⟩
        rintro ⟨j, z, -⟩
        unfold bef at z; omega
      · rw [a63]; unfold begD; rw [show (D 0 3).toNat = g by omega]
  | succ d ih =>
    intro g h1 x3 hg k1 a59 a60 a61 a63 a122
    have f4 : h1 98 4 = D 0 3 := by rw [k1.1.2 4 (by unfold perF; omega), e4]
    have ku : kM0 h1 (up h1 122 g 0) := ⟨keepM.upC (by unfold perC; omega) (by decide), by rw [up_n (by decide)]⟩
    have Du : dM (up h1 122 g 0) = D := by rw [ku.1.dM, k1.1.dM]; exact hD
    have ln := linesD_512 hd (f := g) (by omega)
    obtain ⟨Lg, kg⟩ := hd.2.2.2.2.2.2.2.2.2.2.2.2.2.2 g (by omega) (by omega)
    have kg0 := kg 0 (by decide) (by omega)
    refine bX12_goesThrough_22 (kt := fun w => by omega) (kf := fun _ => ?_)
    refine bX12_goesThrough_30 (hS := m_linesOf (by omega) (by rw [Du]; exact hd) (by rw [up_n (by decide)]; omega)) (kk := ?_)
    rintro x h2 ⟨e2, hx⟩
    rw [e2]; clear e2 h2
    rw [Du] at hx
    have next : ∀ (t : Int) (x3 : AV), h1 98 63 + t = sg (begF D) (g + 1) → Wp mX12_goesThrough (kR fr 0 0) Q (0, 0) 64 [zR 98, zI o, zI g, x3] [zI t, zI (h1 98 63), zR 98] 137 (up h1 122 g 0) := fun t _ ht => by
      refine bX12_goesThrough_64 (kk := ?_)
      rw [show (g : Int) + 1 = ((g + 1 : Nat) : Int) by omega]
      refine ih (g + 1) _ _ (by omega) (k1.tr (ku.tr ⟨keepM.up98 (by unfold perF; omega), up_cn (by decide)⟩)) ?_ ?_ ?_ (by rw [up_ci]; exact ht) (fun v hv => ?_)
      · rw [up_cn (by decide), up_n (by decide)]; exact a59
      · rw [up_cn (by decide), up_n (by decide)]; exact a60
      · rw [up_cn (by decide), up_n (by decide)]; exact a61
      · rw [up_n (by decide)]
        by_cases e : v = g
        · rw [e, up_ci]
        · rw [up_cn (by omega)]; exact a122 v (by omega)
    have bs : sg (begF D) (g + 1) = sg (begF D) g + begF D g := rfl
    refine bX12_goesThrough_47 (kt := fun q => ?_) (kf := fun q => ?_)
    · refine bX12_goesThrough_63 (kk := next 0 _ ?_)
      rw [bs, a63]; unfold begF; rw [if_neg (by omega)]
    · refine bX12_goesThrough_50 (hS := m_kindOf (by omega) (by decide)) (kk := ?_)
      rintro y h2 ⟨e2, hy⟩
      rw [e2]; clear e2 h2
      rw [Du] at hy
      refine bX12_goesThrough_57 (hS := m_wordsOf (by rw [Du]; exact hd) (by rw [hy]; constructor <;> omega)) (kk := ?_)
      rintro z h2 ⟨e2, hz⟩
      rw [e2]; clear e2 h2
      rw [Du, hy, Int.add_zero] at hz
      refine bX12_goesThrough_60 (kk := next z _ ?_)
      rw [bs, a63, hz]; unfold begF; rw [if_pos (by omega)]
