/-! ===== the model: lasts ===== -/
def lasP (D : DT) (ai : Int) (f i : Nat) (v : Int) : Prop := (v = -1 ∧ ∀ g j : Nat, bef D f i g j → ¬ Ans D (ampA D ai 0 (-1)) g j) ∨ ((0 ≤ v ∧ v ≤ 100) ∧ (∃ g j : Nat, bef D f i g j ∧ Ans D (ampA D ai 0 (-1)) g j ∧ Ans D (ampA D ai v (-1)) g j) ∧ ∀ fog, v < fog → fog ≤ 100 → ¬ ∃ g j : Nat, bef D f i g j ∧ Ans D (ampA D ai 0 (-1)) g j ∧ Ans D (ampA D ai fog (-1)) g j)
theorem lasP.rng {D : DT} {ai : Int} {f i : Nat} {v : Int} (h : lasP D ai f i v) : -1 ≤ v ∧ v ≤ 100 := by
  rcases h with ⟨a, -⟩ | ⟨a, -⟩ <;> omega
theorem lasP.sam {D : DT} {ai : Int} {f i g j : Nat} {v : Int} (s : samP D f i g j) (h : lasP D ai f i v) : lasP D ai g j v := by
  unfold lasP at h ⊢
  simp only [s.2.1] at h
  exact h
theorem lasP.no {D : DT} {ai : Int} {f i : Nat} {v : Int} (h : lasP D ai f i v) (hn : ¬ Ans D (ampA D ai 0 (-1)) f i) : lasP D ai f (i + 1) v := by
  have bb : ∀ g j : Nat, bef D f (i + 1) g j → Ans D (ampA D ai 0 (-1)) g j → bef D f i g j := fun g j x y => by
    rcases bef_s.mp x with x | ⟨x1, x2⟩
    · exact x
    · rw [x1, x2] at y; exact absurd y hn
  rcases h with ⟨a, b⟩ | ⟨a, ⟨g, j, b1, b2, b3⟩, c⟩
  · exact Or.inl ⟨a, fun g j x y => b g j (bb g j x y) y⟩
  · refine Or.inr ⟨a, ⟨g, j, bef_s.mpr (Or.inl b1), b2, b3⟩, fun fog p q => ?_⟩
    rintro ⟨g', j', x, y, z⟩
    exact c fog p q ⟨g', j', bb g' j' x y, y, z⟩
/-- the line answers now; none but fogs up to v are left for it -/
theorem lasP.stay {D : DT} {ai : Int} {f i : Nat} {v : Int} (h : lasP D ai f i v) (hy : Ans D (ampA D ai 0 (-1)) f i) (hn : ∀ u, max v 0 < u → u ≤ 100 → ¬ Ans D (ampA D ai u (-1)) f i) : lasP D ai f (i + 1) (max v 0) := by
  have vr := h.rng
  refine Or.inr ⟨by omega, ?_, fun fog p q => ?_⟩
  · rcases h with ⟨a, b⟩ | ⟨a, ⟨g, j, b1, b2, b3⟩, c⟩
    · rw [a]
      exact ⟨f, i, bef_s.mpr (Or.inr ⟨rfl, rfl⟩), hy, hy⟩
    · rw [show max v 0 = v by omega]
      exact ⟨g, j, bef_s.mpr (Or.inl b1), b2, b3⟩
  · rintro ⟨g', j', x, y, z⟩
    rcases bef_s.mp x with x | ⟨x1, x2⟩
    · rcases h with ⟨a, b⟩ | ⟨a, -, c⟩
      · exact b g' j' x y
      · exact c fog (by omega) q ⟨g', j', x, y, z⟩
    · rw [x1, x2] at z; exact hn fog p q z
theorem lasP.up {D : DT} {ai : Int} {f i : Nat} {v u : Int} (h : lasP D ai f i v) (hy : Ans D (ampA D ai 0 (-1)) f i) (hu : max v 0 < u ∧ u ≤ 100) (hyu : Ans D (ampA D ai u (-1)) f i) (hn : ∀ w, u < w → w ≤ 100 → ¬ Ans D (ampA D ai w (-1)) f i) : lasP D ai f (i + 1) u := by
  refine Or.inr ⟨by omega, ⟨f, i, bef_s.mpr (Or.inr ⟨rfl, rfl⟩), hy, hyu⟩, fun fog p q => ?_⟩
  rintro ⟨g', j', x, y, z⟩
  rcases bef_s.mp x with x | ⟨x1, x2⟩
  · rcases h with ⟨a, b⟩ | ⟨a, -, c⟩
    · exact b g' j' x y
    · exact c fog (by omega) q ⟨g', j', x, y, z⟩
  · rw [x1, x2] at z; exact hn fog p q z
theorem m_lasts {fr : Nat} {o : Int} {h : AH} (hf : 9 ≤ fr) (ro : R32 o) (ho : okM h) :
    Sp mX12_lasts true fr 0 0 [zR 98, zI o] 137 h (rI (fun x h' => keepM h h' ∧ (((0 ≤ o ∧ o < 24) ∧ h' 98 0 = 0 ∧ lastsR (dM h) (dM h 9 o) x) ∨ (¬ (0 ≤ o ∧ o < 24) ∧ h' 98 0 = 1)))) := by
  refine Sp.mk yX12_lasts_ok rfl rfl ?_
  refine bX12_lasts_0 (hS := m_isHour (by omega) ro rfl) (kk := ?_)
  rintro x h1 (⟨ok, rfl, rfl⟩ | ⟨ok, rfl, rfl⟩)
  rotate_left
  · refine bX12_lasts_10 (kt := fun w => absurd rfl w) (kf := fun _ => ?_)
    exact bX12_lasts_13 (hq := ⟨_, rfl, rfl, chk1, Or.inr ⟨by omega, rfl⟩⟩)
  refine bX12_lasts_10 (kt := fun _ => ?_) (kf := fun w => absurd w (by decide))
  have o0 : 0 ≤ o ∧ o < 24 := by omega
  have okh := ho.keep (chk0 (h := h))
  have eD : dM (up h 98 0 0) = dM h := (chk0 (h := h)).dM
  have hd := ho.1
  generalize hD : dM h = D at *
  have ar := all_rng hd
  generalize hQ : (rI (fun x h' => keepM h h' ∧ (((0 ≤ o ∧ o < 24) ∧ h' 98 0 = 0 ∧ lastsR D (D 9 o) x) ∨ (¬ (0 ≤ o ∧ o < 24) ∧ h' 98 0 = 1)))) = Q
  have fin : ∀ (h1 : AH) (n : Int) (x0 x1 x3 x4 x5 : AV), kM0 (up h 98 0 0) h1 → lasP D (D 9 o) (D 0 3).toNat 0 n → Wp mX12_lasts (kR fr 0 0) Q (0, 0) 106 [x0, x1, zI n, x3, x4, x5] [] 137 h1 := fun h1 n _ _ _ _ _ k1 hl => by
    refine bX12_lasts_106 (hq := ?_)
    rw [← hQ]
    refine ⟨_, rfl, rfl, chk0.tr k1.1, Or.inl ⟨o0, k1.2, ?_⟩⟩
    rcases hl with ⟨a, b⟩ | a
    · exact Or.inl ⟨a, fun ⟨g, j, x, y, _⟩ => b g j x y⟩
    · exact Or.inr a
  suffices H : ∀ (d f i : Nat) (h1 : AH) (x n : Int) (x4 x5 : AV), preN D f + i + d = allD D → wk D h1 x f i → kM0 (up h 98 0 0) h1 → lasP D (D 9 o) f i n → Wp mX12_lasts (kR fr 0 0) Q (0, 0) 22 [zR 98, zI o, zI n, zI x, x4, x5] [] 137 h1 by
    refine bX12_lasts_15 (hS := m_firstW (by omega) eD hd) (kk := ?_)
    rintro x h1 ⟨k1, g, j, s, w⟩
    refine bX12_lasts_21 (kk := H (allD D).toNat g j h1 x (-1) _ _ ?_ w k1.m ?_)
    · have := s.2.2
      have e0 : preN D 0 = 0 := rfl
      omega
    · refine lasP.sam s (Or.inl ⟨rfl, fun g j z => ?_⟩)
      unfold bef at z; omega
  intro d
  induction d with
  | zero =>
    intro f i h1 x n x4 x5 hm w k1 hn
    have xr := w.rng
    rcases w with ⟨-, a⟩ | ⟨e, e2, e3⟩
    · have := a.lt hd; omega
    refine bX12_lasts_22 (kt := fun _ => fin h1 n _ _ _ _ _ k1 (by rw [e2, e3] at hn; exact hn)) (kf := fun z => absurd e z)
  | succ d ih =>
    intro f i h1 x n x4 x5 hm w k1 hn
    have xr := w.rng
    rcases w with ⟨e, a⟩ | ⟨e, e2, e3⟩
    rotate_left
    · refine bX12_lasts_22 (kt := fun _ => fin h1 n _ _ _ _ _ k1 (by rw [e2, e3] at hn; exact hn)) (kf := fun z => absurd e z)
    have nr := hn.rng
    have f46 : h1 98 46 = 0 := by rw [k1.1.2 46 (by unfold perF; omega)]; exact okh.2.1
    have f47 : h1 98 47 = -1 := by rw [k1.1.2 47 (by unfold perF; omega)]; exact okh.2.2.1
    have D1 : dM h1 = D := by rw [k1.1.dM]; exact eD
    have next : ∀ (h2 : AH) (m : Int) (x3 x4 x5 : AV), kM0 (up h 98 0 0) h2 → atL D h2 f i → lasP D (D 9 o) f (i + 1) m → Wp mX12_lasts (kR fr 0 0) Q (0, 0) 98 [zR 98, zI o, zI m, x3, x4, x5] [] 137 h2 := fun h2 m _ _ _ k2 a2 hm2 => by
      refine bX12_lasts_98 (hS := m_nextW (by omega) (by rw [k2.1.dM]; exact eD) hd a2) (kk := ?_)
      rintro y h3 ⟨k3, g, j, s, w3⟩
      refine bX12_lasts_102 (kk := ih g j h3 y m _ _ ?_ w3 (k2.tr k3.m) (hm2.sam s))
      have := s.2.2
      omega
    refine bX12_lasts_22 (kt := fun z => by omega) (kf := fun _ => ?_)
    refine bX12_lasts_26 (hS := m_answers (by omega) D1 hd a o0 (by rw [f46]; decide) (by rw [f47]; decide)) (kk := ?_)
    rintro y h2 ⟨⟨k2, -⟩, -, -, hy⟩
    rw [f46, f47] at hy
    have k2' := k1.tr k2.m
    have a2 : atL D h2 f i := a.same (k2.2 53 (by decide) (by decide) (by decide) (by decide) (by decide)) (k2.1 118 (by decide) (by decide) (by decide) (by decide))
    refine bX12_lasts_31 (r1 := by rcases hy with z | z <;> omega) (kt := fun q => ?_) (kf := fun q => ?_)
    · rcases hy with ⟨z, -⟩ | ⟨-, z⟩
      · omega
      exact next h2 n _ _ _ k2' a2 (hn.no z)
    rcases hy with ⟨-, yP⟩ | ⟨z, -⟩
    rotate_left
    · exact absurd z q
    -- heaps of the inner loop: as h2 but for the fog
    have g46 : h2 98 46 = 0 := by rw [k2'.1.2 46 (by unfold perF; omega)]; exact okh.2.1
    have inner : ∀ (e : Nat) (u : Int) (h3 : AH) (x3 : AV), u = max n 0 + e → u ≤ 100 → ((∀ c, c ≠ 98 → c ≠ 115 → c ≠ 119 → c ≠ 120 → h3 c = h2 c) ∧ ∀ j, j ≠ 45 → j ≠ 46 → j ≠ 48 → j ≠ 49 → j ≠ 57 → j ≠ 58 → h3 98 j = h2 98 j) → (∀ w, u < w → w ≤ 100 → ¬ Ans D (ampA D (D 9 o) w (-1)) f i) → Wp mX12_lasts (kR fr 0 0) Q (0, 0) 51 [zR 98, zI o, zI (max n 0), x3, zI 0, zI u] [] 137 h3 := by
      have leave : ∀ (h3 : AH) (m : Int) (x3 x4 x5 : AV), ((∀ c, c ≠ 98 → c ≠ 115 → c ≠ 119 → c ≠ 120 → h3 c = h2 c) ∧ ∀ j, j ≠ 45 → j ≠ 46 → j ≠ 48 → j ≠ 49 → j ≠ 57 → j ≠ 58 → h3 98 j = h2 98 j) → lasP D (D 9 o) f (i + 1) m → Wp mX12_lasts (kR fr 0 0) Q (0, 0) 93 [zR 98, zI o, zI m, x3, x4, x5] [] 137 h3 := fun h3 m _ _ _ k3 hl => by
        refine bX12_lasts_93 (kk := next _ m _ _ _ (k2'.tr ⟨⟨fun c hc => ?_, fun j hj => ?_⟩, ?_⟩) (a2.same ?_ ?_) hl)
        · unfold perC at hc
          rw [up_n (by omega)]; exact k3.1 c (by omega) (by omega) (by omega) (by omega)
        · unfold perF at hj
          by_cases e : j = 46
          · rw [e, up_ci, g46]
          · rw [up_cn e]; exact k3.2 j (by omega) e (by omega) (by omega) (by omega) (by omega)
        · rw [up_cn (by decide)]; exact k3.2 0 (by decide) (by decide) (by decide) (by decide) (by decide) (by decide)
        · rw [up_cn (by decide)]; exact k3.2 53 (by decide) (by decide) (by decide) (by decide) (by decide) (by decide)
        · rw [up_n (by decide)]; exact k3.1 118 (by decide) (by decide) (by decide) (by decide)
      intro e
      induction e with
      | zero =>
        intro u h3 x3 hu u1 k3 no
        refine bX12_lasts_51 (kt := fun _ => leave h3 _ _ _ _ k3 (hn.stay yP (fun w p q => no w (by omega) q))) (kf := fun z => by omega)
      | succ e ihe =>
        intro u h3 x3 hu u1 k3 no
        refine bX12_lasts_51 (kt := fun z => by omega) (kf := fun _ => ?_)
        refine bX12_lasts_57 (kt := fun z => absurd rfl z) (kf := fun _ => ?_)
        have D3 : dM (up h3 98 46 u) = D := by
          rw [← D1, ← k2.dM]
          exact dM_eq (fun i a b => by rw [up_cn (by omega)]; exact k3.2 i (by omega) (by omega) (by omega) (by omega) (by omega) (by omega)) (fun c a b => by rw [up_n (by omega)]; exact k3.1 c (by omega) (by omega) (by omega) (by omega))
        have a3 : atL D (up h3 98 46 u) f i := a2.same (by rw [up_cn (by decide)]; exact k3.2 53 (by decide) (by decide) (by decide) (by decide) (by decide) (by decide)) (by rw [up_n (by decide)]; exact k3.1 118 (by decide) (by decide) (by decide) (by decide))
        have e47 : up h3 98 46 u 98 47 = -1 := by rw [up_cn (by decide), k3.2 47 (by decide) (by decide) (by decide) (by decide) (by decide) (by decide), k2.2 47 (by decide) (by decide) (by decide) (by decide) (by decide)]; exact f47
        refine bX12_lasts_62 (hS := m_answers (by omega) D3 hd a3 o0 (by rw [up_ci]; omega) (by rw [e47]; decide)) (kk := ?_)
        rintro y h4 ⟨⟨k4, -⟩, -, -, hy⟩
        rw [up_ci, e47] at hy
        have k4' : ((∀ c, c ≠ 98 → c ≠ 115 → c ≠ 119 → c ≠ 120 → h4 c = h2 c) ∧ ∀ j, j ≠ 45 → j ≠ 46 → j ≠ 48 → j ≠ 49 → j ≠ 57 → j ≠ 58 → h4 98 j = h2 98 j) := ⟨fun c p q r s => by rw [k4.1 c p q r s, up_n p]; exact k3.1 c p q r s, fun j p q r s t v => by rw [k4.2 j p r s t v, up_cn q]; exact k3.2 j p q r s t v⟩
        refine bX12_lasts_73 (r1 := by rcases hy with z | z <;> omega) (kt := fun q2 => ?_) (kf := fun q2 => ?_)
        · rcases hy with ⟨z, -⟩ | ⟨-, z⟩
          · omega
          refine bX12_lasts_85 (kk := bX12_lasts_86 (kk := ?_))
          rw [q2]
          refine ihe (u + (-1)) h4 _ (by omega) (by omega) k4' (fun w p q => ?_)
          by_cases ew : w = u
          · rw [ew]; exact z
          · exact no w (by omega) q
        · rcases hy with ⟨-, z⟩ | ⟨z, -⟩
          · refine bX12_lasts_80 (kk := bX12_lasts_86 (kk := ?_))
            refine bX12_lasts_51 (kt := fun _ => leave h4 u _ _ _ k4' (hn.up yP (by omega) z no)) (kf := fun z => by omega)
          · exact absurd z q2
    have start : Wp mX12_lasts (kR fr 0 0) Q (0, 0) 43 [zR 98, zI o, none, none, none, none] [zI (max n 0)] 137 h2 := by
      refine bX12_lasts_43 (kk := inner (100 - max n 0).toNat 100 h2 _ (by omega) (by decide) ⟨fun _ _ _ _ _ => rfl, fun _ _ _ _ _ _ _ => rfl⟩ (fun w p q => by omega))
    refine bX12_lasts_34 (kt := fun q => ?_) (kf := fun q => ?_)
    · refine bX12_lasts_42 (kk := bX12_lasts_43 (kk := ?_))
      have := inner (100 - max n 0).toNat 100 h2 none (by omega) (by decide) ⟨fun _ _ _ _ _ => rfl, fun _ _ _ _ _ _ _ => rfl⟩ (fun w p q => by omega)
      rw [show max n 0 = n by omega] at this
      exact this
    · refine bX12_lasts_38 (kk := ?_)
      rw [show max n 0 = 0 by omega] at start
      exact start
