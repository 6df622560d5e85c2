/-! ===== the class: hearing tick by tick ===== -/
/-- all ticks ahead of t have been measured -/
def hrd (h h1 : AH) (t : Int) : Prop := same5 h h1 ∧ ptr h1 t ∧ sumZ h1 ∧ ∀ t', 0 ≤ t' → t' < t → (0 ≤ h1 52 t' ∧ h1 52 t' ≤ 1000000) ∧ bestOf (lamH h) (h (h 51 3) 0) t' (h1 52 t') (h1 53 t')
def gOk (h : AH) : Prop := (1 ≤ h (h 51 3) 4 ∧ h (h 51 3) 4 ≤ 99) ∧ (0 ≤ h (h 51 3) 5 ∧ h (h 51 3) 5 ≤ 9) ∧ (0 ≤ h (h 51 3) 6 ∧ h (h 51 3) 6 ≤ 99)
abbrev HrS (h : AH) (t x : Int) : Prop := HeardR (lamH h) (h (h 51 3) 0) (h (h 51 3) 4) (h (h 51 3) 5) (h (h 51 3) 6) t x
theorem hrd_0 {h : AH} (hp : ptr h 0) (hz : sumZ h) : hrd h h 0 := ⟨⟨fun _ _ _ _ _ => rfl, fun _ _ _ => rfl⟩, hp, hz, fun t' a b => by omega⟩
theorem c_measureH {fr N : Nat} {t : Int} {h h1 : AH} (hf : 2 ≤ fr) (ha : att h N) (h5 : h 51 5 < 51 ∨ 54 < h 51 5) (ht : 0 ≤ t ∧ t < 400) (hr : hrd h h1 t) : Sp mX4_measure true fr 0 0 [zR 51, zI t] 137 h1 (rV (fun h' => hrd h h' (t + 1))) := by
  obtain ⟨s5, hp, hz, hb⟩ := hr
  obtain ⟨at1, l1, g1⟩ := s5.lam ha h5
  have e3 : h1 51 3 = h 51 3 := s5.2 3 (by decide) (by decide)
  have e5 : h1 51 5 = h 51 5 := s5.2 5 (by decide) (by decide)
  refine (c_measure hf at1 (by rw [e5]; exact h5) ht hp hz).weak (fun r n h2 z => ?_)
  obtain ⟨z1, z2, m⟩ := z
  refine ⟨z1, z2, s5.tr m.same, m.2.2.2.2.1.later (by omega), m.2.2.2.1, fun t' a b => ?_⟩
  by_cases e : t' = t
  · rw [e]
    have q := m.2.2.2.2.2
    rw [l1, e3, g1] at q
    exact q
  · have := m.2.2.1 t' e
    rw [this.1, this.2]
    exact hb t' a (by omega)
theorem c_hearsH {fr N : Nat} {t : Int} {h h1 : AH} (hf : 1 ≤ fr) (ha : att h N) (h5 : h 51 5 < 51 ∨ 54 < h 51 5) (hg : gOk h) (ht : 0 ≤ t ∧ t < 400) (hr : hrd h h1 (t + 1)) : Sp mX4_hears true fr 0 0 [zR 51, zI t] 137 h1 (rI (fun x h' => h' = h1 ∧ HrS h t x)) := by
  obtain ⟨s5, hp, hz, hb⟩ := hr
  obtain ⟨at1, l1, g1⟩ := s5.lam ha h5
  have e3 : h1 51 3 = h 51 3 := s5.2 3 (by decide) (by decide)
  obtain ⟨d4, d5, d6⟩ := hg
  have := c_hears (fr := fr) (t := t) (Λ := lamH h) (h := h1) hf (by rw [e3]; exact ha.1) ht (by rw [e3, g1]; exact d4) (by rw [e3, g1]; exact d5) (by rw [e3, g1]; exact d6) (by rw [e3, g1]; exact fun t' p q r => hb t' p (by omega))
  rw [e3, g1] at this
  exact this
/-- attending to an array of masks -/
theorem ready2 {h1 : AH} {g o a last : Int} {N : Nat} (hg : isG g) (ho : isO o) (hw : ways h1 o) (hl : ∀ i s, 0 ≤ i → i < h1 o 2 → 0 ≤ s → s < 8 → 0 ≤ h1 (o + 2) (i * 8 + s) ∧ h1 (o + 2) (i * 8 + s) ≤ 1881) (hd : okD (dC h1 g)) (hca : cel 137 a (100, N)) (ha : a < 51 ∨ 54 < a) (hla : -1 ≤ last ∧ last < N)
    (hmk : ∀ u, 0 ≤ u → u ≤ last → (0 ≤ h1 a u ∧ h1 a u < 256) ∧ ∀ j : Nat, bt (h1 a u) j = true → (j : Int) < h1 g 0) (hz : sumZ h1) :
    let h2 := up (up (up (up (up (up h1 51 3 g) 51 4 o) 51 5 a) 51 6 last) 51 7 0) 51 8 0
    att h2 N ∧ ptr h2 0 ∧ sumZ h2 ∧ (∀ c, c ≠ 51 → h2 c = h1 c) ∧ (h2 51 3 = g ∧ h2 51 4 = o ∧ h2 51 5 = a ∧ h2 51 6 = last) ∧ gOk h2 ∧ ∀ t s, lamH h2 t s = lamC h1 o a last t s := by
  intro h2
  have sg3 : g ≠ 51 := by unfold isG at hg; omega
  have so : o ≠ 51 ∧ o + 1 ≠ 51 ∧ o + 2 ≠ 51 := by unfold isO at ho; omega
  have e2 : ∀ c, c ≠ 51 → h2 c = h1 c := fun c hc => by
    show up (up (up (up (up (up h1 51 3 g) 51 4 o) 51 5 a) 51 6 last) 51 7 0) 51 8 0 c = _
    rw [up_n hc, up_n hc, up_n hc, up_n hc, up_n hc, up_n hc]
  have f3 : h2 51 3 = g := rfl
  have f4 : h2 51 4 = o := rfl
  have f5 : h2 51 5 = a := rfl
  have f6 : h2 51 6 = last := rfl
  have f7 : h2 51 7 = 0 := rfl
  have f8 : h2 51 8 = 0 := rfl
  have eg := e2 g sg3
  have eo := e2 o so.1
  have eo1 := e2 (o + 1) so.2.1
  have eo2 := e2 (o + 2) so.2.2
  have ea := e2 a (by omega)
  have hw2 : ways h2 o := ways_same (by rw [eo]) eo1 hw
  have d0 := hd.1
  have d4 := hd.2.2.2.2.1
  have d5 := hd.2.2.2.2.2.1
  have d6 := hd.2.2.2.2.2.2.1
  rw [dC0] at d0 d4 d5 d6
  refine ⟨?_, ?_, ?_, e2, ⟨f3, f4, f5, f6⟩, ?_, ?_⟩
  · unfold att
    rw [f3, f4, f5, f6, eg, ea, eo, eo2]
    exact ⟨hg, ho, hca, hla, hw2, hl, d0, hmk⟩
  · unfold ptr
    rw [f4, f6, f7, f8]
    exact ⟨⟨by decide, by decide, hw2.1.1⟩, fun i a b => by omega, fun i a b => by omega⟩
  · intro s p q
    rw [e2 54 (by decide)]
    exact hz s p q
  · unfold gOk
    rw [f3, eg]
    exact ⟨d4, d5, d6⟩
  · intro t s
    unfold lamH lamC
    rw [f4, f5, f6, eo, eo1, eo2, ea]
theorem HeardR.ne {Λ : Int → Int → Int} {nS least win mar t r : Int} (h : HeardR Λ nS least win mar t r) : ¬ r = -1 ↔ ∃ b, heardAs Λ nS least win mar t b := by
  rcases h with h | ⟨e, h⟩
  · exact ⟨fun _ => ⟨r, h⟩, fun _ e => by have := h.1.1.1; omega⟩
  · exact ⟨fun z => absurd e z, fun ⟨b, z⟩ => absurd z (h b)⟩
/-- something is heard at a tick -/
def Hd (Λ : Int → Int → Int) (nS least win mar t : Int) : Prop := ∃ b, heardAs Λ nS least win mar t b
theorem c_heardGaps {fr N : Nat} {h : AH} (hf : 3 ≤ fr) (ha : att h N) (h5 : h 51 5 < 51 ∨ 54 < h 51 5) (hg : gOk h) (hp : ptr h 0) (hz : sumZ h) :
    Sp mX1_heardGaps true fr 0 0 [zR 95, zR 51] 137 h (rI (fun x h' => (same5 h h' ∧ sumZ h') ∧ m16 x ∧ ∀ j : Nat, bt x j = true ↔ ((j : Int) < 16 ∧ Hd (lamH h) (h (h 51 3) 0) (h (h 51 3) 4) (h (h 51 3) 5) (h (h 51 3) 6) (j + 2)))) := by
  refine Sp.mk yX1_heardGaps_ok rfl rfl ?_
  refine bX1_heardGaps_0 (kk := ?_)
  suffices H : ∀ (d t : Nat) (h1 : AH) (m : Int) (x0 : AV), t + d = 18 → hrd h h1 t → m16 m → (∀ j : Nat, bt m j = true ↔ ((j : Int) + 2 < t ∧ Hd (lamH h) (h (h 51 3) 0) (h (h 51 3) 4) (h (h 51 3) 5) (h (h 51 3) 6) (j + 2))) → Wp mX1_heardGaps (kR fr 0 0) (rI (fun x h' => (same5 h h' ∧ sumZ h') ∧ m16 x ∧ ∀ j : Nat, bt x j = true ↔ ((j : Int) < 16 ∧ Hd (lamH h) (h (h 51 3) 0) (h (h 51 3) 4) (h (h 51 3) 5) (h (h 51 3) 6) (j + 2)))) (0, 0) 4 [x0, zR 51, zI m, zI t] [] 137 h1 by
    exact H 18 0 h 0 _ (by omega) (hrd_0 hp hz) (by constructor <;> decide) (fun j => ⟨fun z => (by rw [bt_zero] at z; cases z), fun z => by omega⟩)
  intro d
  induction d with
  | zero =>
    intro t h1 m x0 ht hr hm hb
    refine bX1_heardGaps_4 (kt := fun _ => ?_) (kf := fun q => by omega)
    refine bX1_heardGaps_43 (hq := ⟨_, rfl, rfl, ⟨hr.1, hr.2.2.1⟩, hm, fun j => ?_⟩)
    rw [hb]
    constructor
    · rintro ⟨a, b⟩; exact ⟨by omega, b⟩
    · rintro ⟨a, b⟩; exact ⟨by omega, b⟩
  | succ d ih =>
    intro t h1 m x0 ht hr hm hb
    refine bX1_heardGaps_4 (kt := fun q => by omega) (kf := fun _ => ?_)
    refine bX1_heardGaps_10 (hS := c_measureH (by omega) ha h5 (by omega) hr) (kk := ?_)
    intro h2 hr2
    have same : (¬ ((2 : Int) ≤ t ∧ Hd (lamH h) (h (h 51 3) 0) (h (h 51 3) 4) (h (h 51 3) 5) (h (h 51 3) 6) t)) → ∀ x0 : AV, Wp mX1_heardGaps (kR fr 0 0) (rI (fun x h' => (same5 h h' ∧ sumZ h') ∧ m16 x ∧ ∀ j : Nat, bt x j = true ↔ ((j : Int) < 16 ∧ Hd (lamH h) (h (h 51 3) 0) (h (h 51 3) 4) (h (h 51 3) 5) (h (h 51 3) 6) (j + 2)))) (0, 0) 37 [x0, zR 51, zI m, zI t] [] 137 h2 := by
      intro hn x0
      refine bX1_heardGaps_37 (kk := ih (t + 1) h2 m _ (by omega) hr2 hm (fun j => ?_))
      rw [hb]
      constructor
      · rintro ⟨a, b⟩; exact ⟨by omega, b⟩
      · rintro ⟨a, b⟩
        by_cases e : (j : Int) + 2 = t
        · rw [e] at b
          exact absurd ⟨by omega, b⟩ hn
        · exact ⟨by omega, b⟩
    refine bX1_heardGaps_15 (kt := fun q => same (by omega) _) (kf := fun q => ?_)
    refine bX1_heardGaps_20 (hS := c_hearsH (by omega) ha h5 hg (by omega) hr2) (kk := ?_)
    rintro x h3 ⟨e3, hx⟩
    rw [e3]; clear e3 h3
    have hne := hx.ne
    have hrg := hx.range
    have nS8 := ha.2.2.2.2.2.2.1
    refine bX1_heardGaps_25 (kt := fun z => same (fun w => hne.mpr w.2 z) _) (kf := fun z => ?_)
    obtain ⟨o1, o2⟩ := one16 (s := (t : Int) - 2) (by omega) (by omega)
    obtain ⟨q1, q2⟩ := or16 hm o1
    refine bX1_heardGaps_29 (kk := bX1_heardGaps_37 (kk := ih (t + 1) h2 _ _ (by omega) hr2 q1 (fun j => ?_)))
    rw [q2, o2, Bool.or_eq_true, hb, decide_eq_true_eq]
    constructor
    · rintro (⟨a, b⟩ | e)
      · exact ⟨by omega, b⟩
      · refine ⟨by omega, ?_⟩
        rw [show (j : Int) + 2 = t by omega]
        exact hne.mp z
    · rintro ⟨a, b⟩
      by_cases e : (j : Int) + 2 = t
      · exact Or.inr (by omega)
      · exact Or.inl ⟨by omega, b⟩
