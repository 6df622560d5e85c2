/-! ===== the class: Hearing ===== -/
def lamC (h : AH) (o a last t s : Int) : Int := sg (fun i : Nat => if (0 ≤ t - h (o + 1) i ∧ t - h (o + 1) i ≤ last) ∧ bt (h a (t - h (o + 1) i)) s.toNat = true then h (o + 2) ((i : Int) * 8 + s) else 0) (h o 2).toNat
def lamH (h : AH) (t s : Int) : Int := lamC h (h 51 4) (h 51 5) (h 51 6) t s
/-- attending to something -/
def att (h : AH) (N : Nat) : Prop := isG (h 51 3) ∧ isO (h 51 4) ∧ cel 137 (h 51 5) (100, N) ∧ (-1 ≤ h 51 6 ∧ h 51 6 < N) ∧ ways h (h 51 4) ∧
  (∀ i s, 0 ≤ i → i < h (h 51 4) 2 → 0 ≤ s → s < 8 → 0 ≤ h (h 51 4 + 2) (i * 8 + s) ∧ h (h 51 4 + 2) (i * 8 + s) ≤ 1881) ∧
  (0 ≤ h (h 51 3) 0 ∧ h (h 51 3) 0 ≤ 8) ∧ (∀ u, 0 ≤ u → u ≤ h 51 6 → (0 ≤ h (h 51 5) u ∧ h (h 51 5) u < 256) ∧ ∀ j : Nat, bt (h (h 51 5) u) j = true → (j : Int) < h (h 51 3) 0)
theorem c_attend {fr : Nat} {g o a last : Int} {h : AH} : Sp mX4_attend true fr 0 0 [zR 51, zR g, zR o, zR a, zI last] 137 h (rV (fun h' => h' = up (up (up (up (up (up h 51 3 g) 51 4 o) 51 5 a) 51 6 last) 51 7 0) 51 8 0)) := by
  refine Sp.mk yX4_attend_ok rfl rfl ?_
  exact bX4_attend_0 (hq := ⟨rfl, rfl, rfl⟩)
theorem lamH_rng {h : AH} {N : Nat} {t s : Int} (ha : att h N) (s0 : 0 ≤ s) (s8 : s < 8) : 0 ≤ lamH h t s ∧ lamH h t s ≤ 35739 := by
  obtain ⟨-, -, -, -, hw, hl, -⟩ := ha
  have hm := hw.1
  have := sg_rng (f := fun i : Nat => if (0 ≤ t - h (h 51 4 + 1) i ∧ t - h (h 51 4 + 1) i ≤ h 51 6) ∧ bt (h (h 51 5) (t - h (h 51 4 + 1) i)) s.toNat = true then h (h 51 4 + 2) ((i : Int) * 8 + s) else 0) (B := 1881) (n := (h (h 51 4) 2).toNat) (fun i hi => by
    split
    · exact hl i s (by omega) (by omega) s0 s8
    · decide)
  unfold lamH lamC
  omega
theorem c_loudness {fr N : Nat} {t s : Int} {h : AH} (ha : att h N) (ht : 0 ≤ t ∧ t < 1000) (hs : 0 ≤ s ∧ s < 8) : Sp mX4_loudness true fr 0 0 [zR 51, zI t, zI s] 137 h (rI (fun x h' => h' = h ∧ x = lamH h t s)) := by
  refine Sp.mk yX4_loudness_ok rfl rfl ?_
  obtain ⟨hg, ho, hc, hla, hw, hl, -, hmk⟩ := ha
  have co := ho.cel
  have hN : N < 4000 := cel_small hc
  obtain ⟨hm, -, hin⟩ := hw
  refine bX4_loudness_0 (kk := ?_)
  suffices H : ∀ (d k : Nat) (x5 : AV), (k : Int) + d = h (h 51 4) 2 → Wp mX4_loudness (kR fr 0 0) (rI (fun x h' => h' = h ∧ x = lamH h t s)) (0, 0) 5 [zR 51, zI t, zI s, zI (sg (fun i : Nat => if (0 ≤ t - h (h 51 4 + 1) i ∧ t - h (h 51 4 + 1) i ≤ h 51 6) ∧ bt (h (h 51 5) (t - h (h 51 4 + 1) i)) s.toNat = true then h (h 51 4 + 2) ((i : Int) * 8 + s) else 0) k), zI k, x5] [] 137 h by
    exact H (h (h 51 4) 2).toNat 0 _ (by omega)
  intro d
  induction d with
  | zero =>
    intro k x5 hk
    refine bX4_loudness_5 (kt := fun q => ?_) (kf := fun q => by omega)
    exact bX4_loudness_83 (hq := ⟨_, rfl, rfl, rfl, by unfold lamH lamC; rw [show (h (h 51 4) 2).toNat = k by omega]⟩)
  | succ d ih =>
    intro k x5 hk
    refine bX4_loudness_5 (kt := fun q => by omega) (kf := fun q => ?_)
    have hi := hin k (by omega) (by omega)
    have no : ¬ ((0 ≤ t - h (h 51 4 + 1) k ∧ t - h (h 51 4 + 1) k ≤ h 51 6) ∧ bt (h (h 51 5) (t - h (h 51 4 + 1) k)) s.toNat = true) → ∀ x5 : AV, Wp mX4_loudness (kR fr 0 0) (rI (fun x h' => h' = h ∧ x = lamH h t s)) (0, 0) 77 [zR 51, zI t, zI s, zI (sg (fun i : Nat => if (0 ≤ t - h (h 51 4 + 1) i ∧ t - h (h 51 4 + 1) i ≤ h 51 6) ∧ bt (h (h 51 5) (t - h (h 51 4 + 1) i)) s.toNat = true then h (h 51 4 + 2) ((i : Int) * 8 + s) else 0) k), zI k, x5] [] 137 h := by
      intro hn x5
      refine bX4_loudness_77 (kk := ?_)
      have := ih (k + 1) none (by omega)
      rw [sg, if_neg hn, Int.add_zero] at this
      exact this
    refine bX4_loudness_17 (kt := fun q => no (by omega) _) (kf := fun q => ?_)
    refine bX4_loudness_36 (kt := fun q => no (by omega) _) (kf := fun q => ?_)
    obtain ⟨mk, -⟩ := hmk (t - h (h 51 4 + 1) k) (by omega) (by omega)
    have el := bit_look (x := h (h 51 5) (t - h (h 51 4 + 1) k)) (s := s) mk.1 hs.1
    have er : -2147483648 ≤ bAnd ((h (h 51 5) (t - h (h 51 4 + 1) k)) / 2 ^ s.toNat) 1 ∧ bAnd ((h (h 51 5) (t - h (h 51 4 + 1) k)) / 2 ^ s.toNat) 1 < 2147483648 := by rw [el]; split <;> decide
    refine bX4_loudness_45 (c1 := hc) (r4 := er) (kt := fun q => ?_) (kf := fun q => ?_)
    · rw [el] at q
      exact no (fun z => by rw [if_pos z.2] at q; omega) _
    · rw [el] at q
      have hb : bt (h (h 51 5) (t - h (h 51 4 + 1) k)) s.toNat = true := by
        by_cases c : bt (h (h 51 5) (t - h (h 51 4 + 1) k)) s.toNat = true
        · exact c
        · rw [if_neg c] at q; omega
      refine bX4_loudness_59 (kk := bX4_loudness_77 (kk := ?_))
      have := ih (k + 1) none (by omega)
      rw [sg, if_pos ⟨⟨by omega, by omega⟩, hb⟩] at this
      exact this
/-- the loudest, and how loud -/
def bestOf (Λ : Int → Int → Int) (nS t m b : Int) : Prop := (m = 0 ∧ b = -1 ∧ ∀ s, 0 ≤ s → s < nS → Λ t s ≤ 0) ∨ (0 < m ∧ Λ t b = m ∧ loudest Λ nS t b)
theorem c_hears {fr : Nat} {t : Int} {Λ : Int → Int → Int} {h : AH} (hf : 1 ≤ fr) (hg : isG (h 51 3)) (ht : 0 ≤ t ∧ t < 400) (hl : 1 ≤ h (h 51 3) 4 ∧ h (h 51 3) 4 ≤ 99) (hw : 0 ≤ h (h 51 3) 5 ∧ h (h 51 3) 5 ≤ 9) (hm : 0 ≤ h (h 51 3) 6 ∧ h (h 51 3) 6 ≤ 99)
    (hb : ∀ t', 0 ≤ t' → t - h (h 51 3) 5 ≤ t' → t' ≤ t → (0 ≤ h 52 t' ∧ h 52 t' ≤ 1000000) ∧ bestOf Λ (h (h 51 3) 0) t' (h 52 t') (h 53 t')) :
    Sp mX4_hears true fr 0 0 [zR 51, zI t] 137 h (rI (fun x h' => h' = h ∧ HeardR Λ (h (h 51 3) 0) (h (h 51 3) 4) (h (h 51 3) 5) (h (h 51 3) 6) t x)) := by
  refine Sp.mk yX4_hears_ok rfl rfl ?_
  have cg := hg.cel
  obtain ⟨bt0, bt1⟩ := hb t (by omega) (by omega) (by omega)
  refine bX4_hears_0 (kt := fun q => ?_) (kf := fun q => ?_)
  rotate_left
  · refine bX4_hears_18 (hq := ⟨_, rfl, rfl, rfl, Or.inr ⟨rfl, fun b hbb => ?_⟩⟩)
    have h1 := hbb.2.1
    have h2 := hbb.1.1
    rcases bt1 with ⟨z0, z1, z2⟩ | ⟨z0, z1, z2⟩
    · have := z2 b h2.1 h2.2
      omega
    · rw [loudest_one hbb.1 z2] at h1
      omega
  have hL : Λ t (h 53 t) = h 52 t ∧ loudest Λ (h (h 51 3) 0) t (h 53 t) := by
    rcases bt1 with ⟨z0, -, -⟩ | ⟨-, z1, z2⟩
    · omega
    · exact ⟨z1, z2⟩
  refine bX4_hears_20 (kk := ?_)
  suffices H : ∀ (d : Nat) (u : Int) (x3 : AV), 0 ≤ u → t - h (h 51 3) 5 ≤ u → u + d = t → (∀ t', 0 ≤ t' → t - h (h 51 3) 5 ≤ t' → t' < u → h 52 t' ≤ h 52 t + h (h 51 3) 6) → Wp mX4_hears (kR fr 0 0) (rI (fun x h' => h' = h ∧ HeardR Λ (h (h 51 3) 0) (h (h 51 3) 4) (h (h 51 3) 5) (h (h 51 3) 6) t x)) (0, 0) 37 [zR 51, zI t, zI (h 52 t), x3, zI u] [] 137 h by
    exact H (t - max 0 (t - h (h 51 3) 5)).toNat _ _ (by omega) (by omega) (by omega) (fun t' a b c => by omega)
  intro d
  induction d with
  | zero =>
    intro u x3 u0 u1 hu hall
    refine bX4_hears_37 (kt := fun q2 => ?_) (kf := fun q2 => by omega)
    refine bX4_hears_70 (hq := ⟨_, rfl, rfl, rfl, Or.inl ⟨hL.2, by omega, fun t' a b c s s0 s1 => ?_⟩⟩)
    have h1 := hall t' a b (by omega)
    have ⟨h2, h3⟩ := hb t' a b (by omega)
    rcases h3 with ⟨z0, z1, z2⟩ | ⟨z0, z1, z2⟩
    · have := z2 s s0 s1
      omega
    · have := z2.2.1 s s0 s1
      omega
  | succ d ih =>
    intro u x3 u0 u1 hu hall
    refine bX4_hears_37 (kt := fun q2 => by omega) (kf := fun q2 => ?_)
    have ⟨h2, h3⟩ := hb u u0 u1 (by omega)
    refine bX4_hears_43 (kt := fun q3 => ?_) (kf := fun q3 => ?_)
    · refine bX4_hears_64 (kk := ih (u + 1) _ (by omega) (by omega) (by omega) (fun t' a b c => ?_))
      by_cases e : t' = u
      · rw [e]; exact q3
      · exact hall t' a b (by omega)
    · refine bX4_hears_62 (hq := ⟨_, rfl, rfl, rfl, Or.inr ⟨rfl, fun b hbb => ?_⟩⟩)
      have e := loudest_one hbb.1 hL.2
      rcases h3 with ⟨z0, z1, z2⟩ | ⟨z0, z1, z2⟩
      · omega
      · have := hbb.2.2 u u0 u1 q2 (h 53 u) z2.1.1 z2.1.2
        rw [e] at this
        omega
