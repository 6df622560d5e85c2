/-! ===== the model's gorge, all of it ===== -/
def mgR (h : AH) (T : Int → Int) (n x : Int) (h' : AH) : Prop := (¬ (0 ≤ n ∧ n ≤ h 98 16) ∧ x = 0 ∧ h' = up (up h 98 0 0) 98 0 1) ∨ ((0 ≤ n ∧ n ≤ h 98 16) ∧ ∃ E0, clrD E0 ∧ ((x = 0 ∧ ∃ S : PS, rAll T n 700 (0, E0, 0, 0, 0) = .inr S ∧ okD S.2.1 ∧ capD S.2.1 (dM h') ∧ mgOk h h') ∨ (x ≠ 0 ∧ ∃ q, rAll T n 700 (0, E0, 0, 0, 0) = .inl (x, q) ∧ mgNo h h' q)))
theorem m_gorge {fr : Nat} {n : Int} {T : Int → Int} {h : AH} (hf : 6 ≤ fr) (rn : R32 n) (h16 : 0 ≤ h 98 16 ∧ h 98 16 ≤ 700) (ht : ∀ i, 0 ≤ i → i < h 98 16 → h 106 i = T i ∧ 0 ≤ T i ∧ T i < 256) :
    Sp mX12_gorge true fr 0 0 [zR 98, zI n] 137 h (rI (mgR h T n)) := by
  refine Sp.mk yX12_gorge_ok rfl rfl ?_
  obtain ⟨rn1, rn2⟩ := rn
  generalize hQ : (rI (mgR h T n)) = Q
  generalize hhZ : up h 98 0 0 = hZ
  have z0 : hZ 98 0 = 0 := by rw [← hhZ, up_ci]
  have z16 : hZ 98 16 = h 98 16 := by rw [← hhZ, up_cn (by decide)]
  have no : ¬ (0 ≤ n ∧ n ≤ h 98 16) → ∀ x2 : AV, Wp mX12_gorge (kR fr 0 0) Q (0, 0) 22 [zR 98, zI n, x2] [zR 98] 137 hZ := fun bad _ => by
    refine bX12_gorge_22 (kk := bX12_gorge_23 (hS := m_right R32_0 R32_1 (by decide) (by rw [z0]; exact R32_0)) (kk := ?_))
    rintro x h1 (⟨-, b, -⟩ | ⟨-, -, ex, e1⟩ | ⟨b, -⟩)
    · exact absurd rfl b
    · rw [ex, e1]
      refine bX12_gorge_27 (kt := fun z => absurd rfl z) (kf := fun _ => bX12_gorge_30 (hq := ?_))
      rw [← hQ]
      exact ⟨_, rfl, rfl, Or.inl ⟨bad, rfl, by rw [hhZ]⟩⟩
    · exact absurd z0 b
  refine bX12_gorge_0 (kt := fun z => by rw [hhZ]; exact no (by omega) _) (kf := fun n0 => ?_)
  rw [hhZ]
  refine bX12_gorge_10 (r2 := by omega) (kt := fun z => no (by omega) _) (kf := fun n1 => ?_)
  rw [z16] at n1
  refine bX12_gorge_18 (kk := bX12_gorge_23 (hS := m_right R32_1 R32_1 (by decide) (by rw [z0]; exact R32_0)) (kk := ?_))
  rintro x h1 (⟨-, -, ex, e1⟩ | ⟨-, b, -⟩ | ⟨b, -⟩)
  rotate_left
  · exact absurd b (by decide)
  · exact absurd z0 b
  rw [ex, e1]; clear ex e1 x h1
  refine bX12_gorge_27 (kf := fun z => by omega) (kt := fun _ => ?_)
  refine bX12_gorge_32 (kk := ?_)
  generalize hhI : (up (up (up (up (up (up (up (up (up (up (up (up (up (up (up hZ 98 16 0) 98 18 (-1)) 98 17 0) 98 20 n) 98 21 0) 98 27 0) 98 28 0) 98 29 0) 98 30 0) 98 31 1) 98 32 0) 98 33 0) 98 34 0) 98 35 0) 98 36 0) = hI
  have I1 : ∀ c, c ≠ 98 → hI c = h c := fun c z => by rw [← hhI]; simp only [up_n z]; rw [← hhZ, up_n z]
  have I98 : ∀ j, hI 98 j = if j = 36 then 0 else if j = 35 then 0 else if j = 34 then 0 else if j = 33 then 0 else if j = 32 then 0 else if j = 31 then 1 else if j = 30 then 0 else if j = 29 then 0 else if j = 28 then 0 else if j = 27 then 0 else if j = 21 then 0 else if j = 20 then n else if j = 17 then 0 else if j = 18 then -1 else if j = 16 then 0 else if j = 0 then 0 else h 98 j := fun j => by
    rw [← hhI, ← hhZ]; simp only [up_if, true_and]
  clear hhI
  suffices A1 : ∀ (d : Nat) (i : Int) (hx : AH) (x1 : AV), i + d = 3 → 0 ≤ i → (∀ c, c ≠ 112 → hx c = hI c) → (∀ t, 0 ≤ t → t < i → hx 112 t = 0) → Wp mX12_gorge (kR fr 0 0) Q (0, 0) 109 [zR 98, x1, zI i] [] 137 hx by
    exact A1 3 0 hI _ (by decide) (by decide) (fun _ _ => rfl) (fun t a b => by omega)
  intro d
  induction d with
  | succ d ih =>
    intro i hx _ hi i0 K V
    refine bX12_gorge_109 (kt := fun z => by omega) (kf := fun _ => bX12_gorge_114 (kk := ?_))
    refine ih (i + 1) _ _ (by omega) (by omega) (fun c z => by rw [up_n z]; exact K c z) (fun t a b => ?_)
    by_cases e : t = i
    · rw [e, up_ci]
    · rw [up_cn e]; exact V t a (by omega)
  | zero =>
  intro i hx _ hi i0 KA VA
  refine bX12_gorge_109 (kf := fun z => by omega) (kt := fun _ => bX12_gorge_127 (kk := ?_))
  suffices A2 : ∀ (d : Nat) (i : Int) (hy : AH) (x1 : AV), i + d = 24 → 0 ≤ i → (∀ c, c ≠ 113 → hy c = hx c) → (∀ t, 0 ≤ t → t < i → hy 113 t = 100) → Wp mX12_gorge (kR fr 0 0) Q (0, 0) 129 [zR 98, x1, zI i] [] 137 hy by
    exact A2 24 0 hx _ (by decide) (by decide) (fun _ _ => rfl) (fun t a b => by omega)
  intro d
  induction d with
  | succ d ih =>
    intro i hy _ hi i0 K V
    refine bX12_gorge_129 (kt := fun z => by omega) (kf := fun _ => bX12_gorge_135 (kk := ?_))
    refine ih (i + 1) _ _ (by omega) (by omega) (fun c z => by rw [up_n z]; exact K c z) (fun t a b => ?_)
    by_cases e : t = i
    · rw [e, up_ci]
    · rw [up_cn e]; exact V t a (by omega)
  | zero =>
  intro i2 hy _ hi2 i20 KB VB
  refine bX12_gorge_129 (kf := fun z => by omega) (kt := fun _ => bX12_gorge_149 (kk := ?_))
  suffices A3 : ∀ (d : Nat) (i : Int) (hz : AH) (x1 : AV), i + d = 8 → 0 ≤ i → (∀ c, c ≠ 114 → hz c = hy c) → (∀ t, 0 ≤ t → t < i → hz 114 t = 0) → Wp mX12_gorge (kR fr 0 0) Q (0, 0) 151 [zR 98, x1, zI i] [] 137 hz by
    exact A3 8 0 hy _ (by decide) (by decide) (fun _ _ => rfl) (fun t a b => by omega)
  intro d
  induction d with
  | succ d ih =>
    intro i hz _ hi i0 K V
    refine bX12_gorge_151 (kt := fun z => by omega) (kf := fun _ => bX12_gorge_157 (kk := ?_))
    refine ih (i + 1) _ _ (by omega) (by omega) (fun c z => by rw [up_n z]; exact K c z) (fun t a b => ?_)
    by_cases e : t = i
    · rw [e, up_ci]
    · rw [up_cn e]; exact V t a (by omega)
  | zero =>
  intro i3 h0 _ hi3 i30 KC VC
  refine bX12_gorge_151 (kf := fun z => by omega) (kt := fun _ => ?_)
  have F1 : ∀ c, c ≠ 98 → c ≠ 112 → c ≠ 113 → c ≠ 114 → h0 c = h c := fun c x y z w => by rw [KC c w, KB c z, KA c y, I1 c x]
  have F98 : h0 98 = hI 98 := by rw [KC 98 (by decide), KB 98 (by decide), KA 98 (by decide)]
  have V112 : ∀ t, 0 ≤ t → t < 3 → h0 112 t = 0 := fun t a b => by rw [KC 112 (by decide), KB 112 (by decide)]; exact VA t a (by omega)
  have V113 : ∀ t, 0 ≤ t → t < 24 → h0 113 t = 100 := fun t a b => by rw [KC 113 (by decide)]; exact VB t a (by omega)
  have V114 : ∀ t, 0 ≤ t → t < 8 → h0 114 t = 0 := fun t a b => VC t a (by omega)
  have J : ∀ j, h0 98 j = hI 98 j := fun j => by rw [F98]
  have tx : txM h0 T n := ⟨by rw [J, I98]; rfl, by omega, fun i a b => by rw [F1 106 (by decide) (by decide) (by decide) (by decide)]; exact ht i a (by omega)⟩
  have cl0 : clrD (dN h0) := by
    refine ⟨⟨?_, ?_, ?_, ?_, ?_, ?_, ?_⟩, fun t a b => ?_, fun e a b => ?_, fun o a b => ?_⟩
    · show h0 98 27 = 0; rw [J, I98]; rfl
    · show h0 98 28 = 0; rw [J, I98]; rfl
    · show h0 98 29 = 0; rw [J, I98]; rfl
    · show h0 98 30 = 0; rw [J, I98]; rfl
    · show h0 98 31 = 1; rw [J, I98]; rfl
    · show h0 98 32 = 0; rw [J, I98]; rfl
    · show h0 98 33 = 0; rw [J, I98]; rfl
    · have : dN h0 3 t = h0 114 t := by unfold dN; rw [if_pos ⟨by decide, fun w => absurd w (by decide)⟩]; rfl
      rw [this]; exact V114 t a b
    · have : dN h0 8 e = h0 112 e := by unfold dN; rw [if_pos ⟨by decide, fun w => absurd w (by decide)⟩]; rfl
      rw [this]; exact V112 e a b
    · have : dN h0 9 o = h0 113 o := by unfold dN; rw [if_pos ⟨by decide, fun w => absurd w (by decide)⟩]; rfl
      rw [this]; exact V113 o a b
  have H98 : ∀ j, ((1 ≤ j ∧ j ≤ 15) ∨ j = 19 ∨ 36 < j) → h0 98 j = h 98 j := fun j z => by
    rw [J, I98]
    repeat rw [if_neg (by omega)]
  clear KA KB KC VA VB VC
  -- the lines
  have fin : ∀ (h1 : AH) (p : Int) (E : DT) (a s m : Int) (x1 x2 : AV), gM h0 h1 T n p E a s m → okD E → rAll T n 700 (0, dN h0, 0, 0, 0) = .inr (p, E, a, s, m) → Wp mX12_gorge (kR fr 0 0) Q (0, 0) 195 [zR 98, x1, x2] [] 137 h1 := fun h1 p E a s m _ _ g ok er => by
    refine g_fin (by omega) g (fun h' cp f1 f2 f3 f4 f5 => ?_)
    rw [← hQ]
    refine ⟨_, rfl, rfl, Or.inr ⟨⟨n0, n1⟩, _, cl0, Or.inl ⟨rfl, _, er, ok, cp, fun c z x y => ?_, ⟨?_, ?_, f2⟩, fun j z x y w v => ?_, f4, f5⟩⟩⟩
    · rw [f1 c z x y]; exact F1 c (by omega) (by omega) (by omega) (by omega)
    · rw [f3 0 (by decide) (by decide) (by decide) (by decide) (by decide), J, I98]; rfl
    · rw [f3 16 (by decide) (by decide) (by decide) (by decide) (by decide), J, I98]; rfl
    · rw [f3 j (by omega) x y w v]; exact H98 j (by omega)
  have bad : ∀ (h1 : AH) (k q c : Int) (x1 x2 : AV), rAll T n 700 (0, dN h0, 0, 0, 0) = .inl (k, q) → bdM h0 h1 T n k q c → Wp mX12_gorge (kR fr 0 0) Q (0, 0) 174 [zR 98, x1, x2] [] 137 h1 := fun h1 k q c _ _ er b => by
    refine bX12_gorge_174 (hS := m_isGood_b b) (kk := ?_)
    rintro y h3 ⟨e3, hy⟩
    rw [e3, hy]; clear e3 h3 hy y
    refine bX12_gorge_178 (kf := fun z => absurd rfl z) (kt := fun _ => ?_)
    refine bX12_gorge_195 (hS := m_isGood_b b) (kk := ?_)
    rintro y h3 ⟨e3, hy⟩
    rw [e3, hy]; clear e3 h3 hy y
    refine bX12_gorge_199 (kt := fun z => absurd rfl z) (kf := fun _ => bX12_gorge_202 (hq := ?_))
    obtain ⟨kk, -, b17, b18, kr, -⟩ := b
    have e107 : h1 107 = h 107 := by rw [kk.1 107 (by decide)]; exact F1 107 (by decide) (by decide) (by decide) (by decide)
    rw [← hQ, b17]
    refine ⟨_, rfl, rfl, Or.inr ⟨⟨n0, n1⟩, _, cl0, Or.inr ⟨by omega, q, er, fun c z x => ?_, ⟨?_, fun j z => ?_⟩, ?_, ?_, ?_, fun j z => ?_⟩⟩⟩
    · rw [up_n (by omega), kk.1 c (by omega)]; exact F1 c (by omega) (by omega) (by omega) (by omega)
    · rw [up_ci, e107]
    · rw [up_cn z, e107]
    · rw [up_n (by decide), kk.2 0 (by decide), J, I98]; rfl
    · rw [up_n (by decide), kk.2 16 (by decide), J, I98]; rfl
    · rw [up_n (by decide)]; exact b18
    · rw [up_n (by decide), kk.2 j (by omega)]; exact H98 j z
  suffices L : ∀ (d : Nat) (h1 : AH) (p : Int) (E : DT) (a s m : Int) (x1 x2 : AV), n - p ≤ d → gM h0 h1 T n p E a s m → okS E a s m → rAll T n 700 (0, dN h0, 0, 0, 0) = rAll T n d (p, E, a, s, m) → Wp mX12_gorge (kR fr 0 0) Q (0, 0) 174 [zR 98, x1, x2] [] 137 h1 by
    refine bX12_gorge_170 (hS := m_steps0 (p := 0) (by omega) tx (by rw [J, I98]; rfl) (by decide) n0) (kk := ?_)
    rintro h1 ⟨s1, t1⟩
    refine L 700 h1 0 (dN h0) 0 0 0 _ _ (by omega) ⟨(kpP.rf h0).st s1, ⟨by decide, n0⟩, t1, ?_, dN_st s1, ?_, ?_, ?_, ?_⟩ ⟨cl0.ok, by decide, Or.inl rfl, Or.inl rfl⟩ rfl
    · rw [s1.2 17 (by decide), J, I98]; rfl
    · rw [s1.2 34 (by decide), J, I98]; rfl
    · rw [s1.2 35 (by decide), J, I98]; rfl
    · rw [s1.2 36 (by decide), J, I98]; rfl
    · rw [s1.2 18 (by decide), J, I98]; rfl
  intro d
  induction d with
  | zero =>
    intro h1 p E a s m _ _ hd g ok er
    have tk := g.tok
    have pr := g.2.1
    have k0 : kd T n p = 0 := by
      have := pl_rng T pr.2
      unfold kd; rw [if_pos (by omega)]
    refine bX12_gorge_174 (hS := m_isGood_g g) (kk := ?_)
    rintro y h3 ⟨e3, hy⟩
    rw [e3, hy]; clear e3 h3 hy y
    refine bX12_gorge_178 (kt := fun z => by omega) (kf := fun _ => ?_)
    exact bX12_gorge_181 (kf := fun z => by omega) (kt := fun _ => fin h1 _ _ _ _ _ _ _ g ok.1 er)
  | succ d ih =>
    intro h1 p E a s m _ _ hd g ok er
    have tk := g.tok
    have pr := g.2.1
    refine bX12_gorge_174 (hS := m_isGood_g g) (kk := ?_)
    rintro y h3 ⟨e3, hy⟩
    rw [e3, hy]; clear e3 h3 hy y
    refine bX12_gorge_178 (kt := fun z => by omega) (kf := fun _ => ?_)
    refine bX12_gorge_181 (kt := fun z => ?_) (kf := fun z => ?_)
    · exact fin h1 _ _ _ _ _ _ _ g ok.1 (er.trans (rAll_end (by omega)))
    have k0 : kd T n p ≠ 0 := by omega
    refine bX12_gorge_188 (hS := m_lineP (by omega) ok tx g) (kk := fun h2 r2 => bX12_gorge_192 (kk := ?_))
    cases e : rLine T n p E a s m with
    | inl kq =>
      obtain ⟨k, q⟩ := kq
      rw [e] at r2
      obtain ⟨c, b⟩ := r2
      exact bad h2 k q c _ _ (by rw [er]; exact rAll_no k0 e) b
    | inr S =>
      have gd := rLine_good pr.2 ok e
      obtain ⟨p', E', a', s', m'⟩ := S
      rw [e] at r2
      refine ih h2 p' E' a' s' m' _ _ ?_ r2 gd.1.1 (by rw [er]; exact rAll_ok k0 e)
      have := gd.2
      have := gd.1.2
      dsimp only at *
      omega
