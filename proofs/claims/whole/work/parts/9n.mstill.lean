/-! ===== the model: stillOf, still, without, lasts ===== -/
def kM0 (h h' : AH) : Prop := keepM h h' ∧ h' 98 0 = h 98 0
theorem kM0.rf (h : AH) : kM0 h h := ⟨keepM.rf h, rfl⟩
theorem kM0.tr {a b c : AH} (h1 : kM0 a b) (h2 : kM0 b c) : kM0 a c := ⟨h1.1.tr h2.1, by rw [h2.2, h1.2]⟩
theorem kW.m {h h' : AH} (k : kW h h') : kM0 h h' := ⟨⟨fun c hc => k.1 c (by unfold perC at hc; omega) (by unfold perC at hc; omega), fun i hi => k.2 i (by unfold perF at hi; omega)⟩, k.2 0 (by decide)⟩
theorem kR5.m {h h' : AH} (k : kR5 h h') : kM0 h h' := ⟨⟨fun c hc => by unfold perC at hc; exact k.1 c (by omega) (by omega) (by omega) (by omega), fun i hi => by unfold perF at hi; exact k.2 i (by omega) (by omega) (by omega) (by omega) (by omega)⟩, k.2 0 (by decide) (by decide) (by decide) (by decide) (by decide)⟩
theorem atL.same {D : DT} {h h' : AH} {f i : Nat} (e53 : h' 98 53 = h 98 53) (e118 : h' 118 = h 118) (hp : atL D h f i) : atL D h' f i := by
  unfold atL at hp ⊢
  rw [e53, e118]; exact hp
/-- the head of a walk over all lines: at (f, i), or behind the last -/
def wk (D : DT) (h : AH) (x : Int) (f i : Nat) : Prop := (x = 1 ∧ atL D h f i) ∨ (x = 0 ∧ f = (D 0 3).toNat ∧ i = 0)
theorem wk.rng {D : DT} {h : AH} {x : Int} {f i : Nat} (hw : wk D h x f i) : x = 0 ∨ x = 1 := by rcases hw with ⟨a, -⟩ | ⟨a, -⟩ <;> omega
theorem wk.form {D : DT} {h : AH} {x : Int} {f i : Nat} (hw : wk D h x f i) : f ≤ (D 0 3).toNat := by
  rcases hw with ⟨-, a⟩ | ⟨-, a, -⟩
  · have := a.1.1; omega
  · omega
theorem m_firstW {fr : Nat} {D : DT} {h : AH} (hfr : 3 ≤ fr) (hD : dM h = D) (hd : okD D) : Sp mX12_firstLine true fr 0 0 [zR 98] 137 h (rI (fun x h' => kW h h' ∧ ∃ g j : Nat, samP D 0 0 g j ∧ wk D h' x g j)) := by
  refine Sp.weak (m_firstLine hfr (by rw [hD]; exact hd)) ?_
  rintro r n' h' ⟨x, a, b, c, e⟩
  rw [hD] at e
  refine ⟨x, a, b, c, ?_⟩
  rcases e with ⟨p, g, j, q, s⟩ | ⟨p, s⟩
  · exact ⟨g, j, s, Or.inl ⟨p, q⟩⟩
  · exact ⟨_, 0, s, Or.inr ⟨p, rfl, rfl⟩⟩
theorem m_nextW {fr : Nat} {f i : Nat} {D : DT} {h : AH} (hfr : 3 ≤ fr) (hD : dM h = D) (hd : okD D) (hp : atL D h f i) : Sp mX12_nextLine true fr 0 0 [zR 98] 137 h (rI (fun x h' => kW h h' ∧ ∃ g j : Nat, samP D f (i + 1) g j ∧ wk D h' x g j)) := by
  refine Sp.weak (m_nextLine hfr hD hd hp) ?_
  rintro r n' h' ⟨x, a, b, c, e⟩
  refine ⟨x, a, b, c, ?_⟩
  rcases e with ⟨p, g, j, q, s⟩ | ⟨p, s⟩
  · exact ⟨g, j, s, Or.inl ⟨p, q⟩⟩
  · exact ⟨_, 0, s, Or.inr ⟨p, rfl, rfl⟩⟩
theorem atL.bef {D : DT} {h : AH} {f i : Nat} (hp : atL D h f i) : bef D (D 0 3).toNat 0 f i := bef_all.mpr ⟨by have := hp.1.1; omega, hp.1.2⟩
theorem atL.lt {D : DT} {h : AH} {f i : Nat} (hd : okD D) (hp : atL D h f i) : preN D f + i < allD D := by
  have nF := hd.2.2.2.1
  have := bef_lt2 (D := D) (f := (D 0 3).toNat) (i := 0) (g := f) (j := i) (fun k hk => lines_nn hd (by omega)) hp.bef
  have aP : allD D = preN D (D 0 3).toNat := rfl
  omega
theorem psum_rng {D : DT} (P : Int → Int → Prop) (hd : okD D) {f i : Nat} (hf : f ≤ (D 0 3).toNat) : 0 ≤ psum D (inC P) f i ∧ psum D (inC P) f i ≤ preN D f + i := by
  have a := sg_rng (f := inC P f) (B := 1) (n := i) (fun j _ => inC_rng P f j)
  have b : ∀ n : Nat, n ≤ (D 0 3).toNat → 0 ≤ sg (fun g => sg (inC P g) (linesD D g).toNat) n ∧ sg (fun g => sg (inC P g) (linesD D g).toNat) n ≤ sg (linesD D) n := fun n => by
    induction n with
    | zero => intro _; exact ⟨Int.le_refl _, Int.le_refl _⟩
    | succ n ih =>
      intro hn
      have q := ih (by omega)
      have r := sg_rng (f := inC P n) (B := 1) (n := (linesD D n).toNat) (fun j _ => inC_rng P n j)
      have s := lines_nn hd (k := n) (by omega)
      rw [sg, sg]
      omega
  have c := b f hf
  unfold psum preN
  omega
theorem all_rng {D : DT} (hd : okD D) : 0 ≤ allD D ∧ allD D ≤ 3072 := by
  have nF := hd.2.2.2.1
  have := sg_rng (f := linesD D) (B := 512) (n := (D 0 3).toNat) (fun k hk => linesD_512 hd (by omega))
  unfold allD
  omega
theorem m_stillOf {fr : Nat} {o fog gone : Int} {D : DT} {h : AH} (hf : 5 ≤ fr) (hD : dM h = D) (hd : okD D) (o0 : 0 ≤ o ∧ o < 24) (h46 : h 98 46 = 0) (h47 : h 98 47 = -1) (hfog : 0 ≤ fog ∧ fog ≤ 100) (hgo : -1 ≤ gone ∧ gone < 6) :
    Sp mX12_stillOf true fr 0 0 [zR 98, zI o, zI fog, zI gone, zI 10000] 137 h (rI (fun x h' => kM0 h h' ∧ stillR D (D 9 o) fog gone x)) := by
  refine Sp.mk yX12_stillOf_ok rfl rfl ?_
  have ar := all_rng hd
  unfold stillR
  generalize hP : Ans D (ampA D (D 9 o) 0 (-1)) = P
  generalize hW : Ans D (ampA D (D 9 o) fog gone) = W
  generalize hQ : (rI (fun x h' => kM0 h h' ∧ x = psum D (inC (fun f i => P f i ∧ W f i)) (D 0 3).toNat 0)) = Q
  suffices H : ∀ (d f i : Nat) (h1 : AH) (x n : Int), preN D f + i + d = allD D → wk D h1 x f i → kM0 h h1 → n = psum D (inC (fun f i => P f i ∧ W f i)) f i → Wp mX12_stillOf (kR fr 0 0) Q (0, 0) 9 [zR 98, zI o, zI fog, zI gone, zI 10000, zI n, zI x] [] 137 h1 by
    refine bX12_stillOf_0 (hS := m_firstW (by omega) hD hd) (kk := ?_)
    rintro x h1 ⟨k1, g, j, s, w⟩
    refine bX12_stillOf_7 (kk := H (allD D).toNat g j h1 x 0 ?_ w k1.m ?_)
    · have := s.2.2
      have e0 : preN D 0 = 0 := rfl
      omega
    · rw [← s.1]; rfl
  intro d
  induction d with
  | zero =>
    intro f i h1 x n hm w k1 hn
    have xr := w.rng
    rcases w with ⟨-, a⟩ | ⟨e, e2, e3⟩
    · have := a.lt hd; omega
    refine bX12_stillOf_9 (kt := fun _ => ?_) (kf := fun z => absurd e z)
    refine bX12_stillOf_76 (hq := ?_)
    rw [← hQ]
    exact ⟨_, rfl, rfl, k1, by rw [hn, e2, e3]⟩
  | succ d ih =>
    intro f i h1 x n hm w k1 hn
    have xr := w.rng
    have pr := psum_rng (D := D) (fun f i => P f i ∧ W f i) hd (i := i) w.form
    rcases w with ⟨e, a⟩ | ⟨e, e2, e3⟩
    rotate_left
    · refine bX12_stillOf_9 (kt := fun _ => ?_) (kf := fun z => absurd e z)
      refine bX12_stillOf_76 (hq := ?_)
      rw [← hQ]
      exact ⟨_, rfl, rfl, k1, by rw [hn, e2, e3]⟩
    have f46 : h1 98 46 = 0 := by rw [k1.1.2 46 (by unfold perF; omega)]; exact h46
    have f47 : h1 98 47 = -1 := by rw [k1.1.2 47 (by unfold perF; omega)]; exact h47
    have D1 : dM h1 = D := by rw [k1.1.dM]; exact hD
    have ps := psum_s D (inC (fun f i => P f i ∧ W f i)) f i
    have next : ∀ (h2 : AH) (m : Int), kM0 h h2 → atL D h2 f i → m = psum D (inC (fun f i => P f i ∧ W f i)) f (i + 1) → Wp mX12_stillOf (kR fr 0 0) Q (0, 0) 67 [zR 98, zI o, zI fog, zI gone, zI 10000, zI m, none] [] 137 h2 := fun h2 m k2 a2 hm2 => by
      refine bX12_stillOf_67 (hS := m_nextW (by omega) (by rw [k2.1.dM]; exact hD) hd a2) (kk := ?_)
      rintro y h3 ⟨k3, g, j, s, w3⟩
      refine bX12_stillOf_71 (kk := ih g j h3 y m ?_ w3 (k2.tr k3.m) (by rw [hm2]; exact s.1 _))
      have := s.2.2
      omega
    have noS : ¬ (P f i ∧ W f i) → n = psum D (inC (fun f i => P f i ∧ W f i)) f (i + 1) := fun z => by
      have : inC (fun f i => P f i ∧ W f i) f i = 0 := by unfold inC; rw [if_neg (by rw [cl_neg z]; decide)]
      omega
    have yesS : (P f i ∧ W f i) → n + 1 = psum D (inC (fun f i => P f i ∧ W f i)) f (i + 1) := fun z => by
      have : inC (fun f i => P f i ∧ W f i) f i = 1 := by unfold inC; rw [if_pos (cl_pos z)]
      omega
    refine bX12_stillOf_9 (kt := fun z => by omega) (kf := fun _ => ?_)
    refine bX12_stillOf_14 (kt := fun z => by have := a.lt hd; omega) (kf := fun _ => ?_)
    refine bX12_stillOf_21 (hS := m_answers (by omega) D1 hd a o0 (by rw [f46]; decide) (by rw [f47]; decide)) (kk := ?_)
    rintro y h2 ⟨⟨k2, -⟩, -, -, hy⟩
    rw [f46, f47, hP] at hy
    have k2' := k1.tr k2.m
    have a2 : atL D h2 f i := a.same (k2.2 53 (by decide) (by decide) (by decide) (by decide) (by decide)) (k2.1 118 (by decide) (by decide) (by decide) (by decide))
    refine bX12_stillOf_26 (r1 := by rcases hy with z | z <;> omega) (kt := fun q => ?_) (kf := fun q => ?_)
    · rcases hy with ⟨z, -⟩ | ⟨-, z⟩
      · omega
      exact next h2 n k2' a2 (noS (fun y => z y.1))
    rcases hy with ⟨-, yP⟩ | ⟨z, -⟩
    rotate_left
    · exact absurd z q
    have g46 : h2 98 46 = 0 := by rw [k2'.1.2 46 (by unfold perF; omega)]; exact h46
    have g47 : h2 98 47 = -1 := by rw [k2'.1.2 47 (by unfold perF; omega)]; exact h47
    have D2 : dM (up (up h2 98 46 fog) 98 47 gone) = D := by
      rw [← D1, ← k2.dM]
      exact dM_eq (fun i a b => by rw [up_cn (by omega), up_cn (by omega)]) (fun c a b => by rw [up_n (by omega), up_n (by omega)])
    refine bX12_stillOf_29 (hS := m_answers (by omega) D2 hd (a2.same (by rw [up_cn (by decide), up_cn (by decide)]) (by rw [up_n (by decide), up_n (by decide)])) o0 (by rw [up_cn (by decide), up_ci]; exact hfog) (by rw [up_ci]; exact hgo)) (kk := ?_)
    rintro y h3 ⟨⟨k3, -⟩, -, -, hy⟩
    rw [up_ci, up_cn (by decide), up_ci, hW] at hy
    have back : kM0 h2 (up (up h3 98 46 0) 98 47 (-1)) := by
      refine ⟨⟨fun c hc => ?_, fun i hi => ?_⟩, ?_⟩
      · unfold perC at hc
        rw [up_n (by omega), up_n (by omega), k3.1 c (by omega) (by omega) (by omega) (by omega), up_n (by omega), up_n (by omega)]
      · unfold perF at hi
        by_cases e7 : i = 47
        · rw [e7, up_ci, g47]
        · rw [up_cn e7]
          by_cases e6 : i = 46
          · rw [e6, up_ci, g46]
          · rw [up_cn e6, k3.2 i (by omega) (by omega) (by omega) (by omega) (by omega), up_cn e7, up_cn e6]
      · rw [up_cn (by decide), up_cn (by decide), k3.2 0 (by decide) (by decide) (by decide) (by decide) (by decide), up_cn (by decide), up_cn (by decide)]
    have a3 : atL D (up (up h3 98 46 0) 98 47 (-1)) f i := by
      refine a2.same ?_ ?_
      · rw [up_cn (by decide), up_cn (by decide), k3.2 53 (by decide) (by decide) (by decide) (by decide) (by decide), up_cn (by decide), up_cn (by decide)]
      · rw [up_n (by decide), up_n (by decide), k3.1 118 (by decide) (by decide) (by decide) (by decide), up_n (by decide), up_n (by decide)]
    refine bX12_stillOf_46 (r1 := by rcases hy with z | z <;> omega) (kt := fun q2 => ?_) (kf := fun q2 => ?_)
    · rcases hy with ⟨z, -⟩ | ⟨-, z⟩
      · omega
      refine bX12_stillOf_53 (kk := bX12_stillOf_54 (kk := ?_))
      rw [Int.add_zero]
      exact next _ n (k2'.tr back) a3 (noS (fun y => z y.2))
    · rcases hy with ⟨-, z⟩ | ⟨z, -⟩
      · exact bX12_stillOf_49 (kk := bX12_stillOf_54 (kk := next _ (n + 1) (k2'.tr back) a3 (yesS ⟨yP, z⟩)))
      · exact absurd z q2
theorem chk0 {h : AH} : keepM h (up h 98 0 0) := keepM.up98 (by unfold perF; omega)
theorem chk1 {h : AH} {v : Int} : keepM h (up (up h 98 0 0) 98 0 v) := chk0.tr (keepM.up98 (by unfold perF; omega))
theorem m_still {fr : Nat} {o fog : Int} {h : AH} (hf : 9 ≤ fr) (ro : R32 o) (rf : R32 fog) (ho : okM h) :
    Sp mX12_still true fr 0 0 [zR 98, zI o, zI fog] 137 h (rI (fun x h' => keepM h h' ∧ ((((0 ≤ o ∧ o < 24) ∧ 0 ≤ fog ∧ fog ≤ 100) ∧ h' 98 0 = 0 ∧ stillR (dM h) (dM h 9 o) fog (-1) x) ∨ (¬ (0 ≤ o ∧ o < 24) ∧ h' 98 0 = 1) ∨ (((0 ≤ o ∧ o < 24) ∧ ¬ (0 ≤ fog ∧ fog ≤ 100)) ∧ h' 98 0 = 2)))) := by
  refine Sp.mk yX12_still_ok rfl rfl ?_
  have e0 : up h 98 0 0 98 0 = 0 := rfl
  refine bX12_still_0 (hS := m_isHour (by omega) ro rfl) (kk := ?_)
  rintro x h1 (⟨ok, rfl, rfl⟩ | ⟨ok, rfl, rfl⟩)
  rotate_left
  · refine bX12_still_10 (kt := fun _ => ?_) (kf := fun w => absurd rfl w)
    exact bX12_still_41 (kk := bX12_still_42 (hq := ⟨_, rfl, rfl, chk1, Or.inr (Or.inl ⟨by omega, rfl⟩)⟩))
  refine bX12_still_10 (kt := fun w => absurd w (by decide)) (kf := fun _ => ?_)
  refine bX12_still_13 (hS := m_within rf R32_0 (by constructor <;> decide)) (kk := ?_)
  rintro x h1 ⟨e1, z⟩
  rw [e1]; clear e1 h1
  refine bX12_still_21 (hS := m_right (by rcases z with ⟨rfl, -⟩ | ⟨rfl, -⟩ <;> constructor <;> decide) (by constructor <;> decide) (by decide) (by rw [e0]; exact R32_0)) (kk := ?_)
  rintro y h1 (⟨-, w, rfl, rfl⟩ | ⟨-, w, rfl, rfl⟩ | ⟨w, -⟩)
  rotate_left
  · refine bX12_still_25 (kt := fun _ => ?_) (kf := fun w => absurd rfl w)
    exact bX12_still_41 (kk := bX12_still_42 (hq := ⟨_, rfl, rfl, chk1, Or.inr (Or.inr ⟨⟨by omega, fun y => by omega⟩, rfl⟩)⟩))
  · exact absurd e0 w
  refine bX12_still_25 (kt := fun w => absurd w (by decide)) (kf := fun _ => ?_)
  have o1 := ho.keep (chk0 (h := h))
  have eD : dM (up h 98 0 0) = dM h := (chk0 (h := h)).dM
  refine bX12_still_28 (hS := m_stillOf (by omega) eD ho.1 (by omega) o1.2.1 o1.2.2.1 (by omega) (by decide)) (kk := ?_)
  rintro x h1 ⟨k1, hx⟩
  exact bX12_still_38 (kk := bX12_still_42 (hq := ⟨_, rfl, rfl, chk0.tr k1.1, Or.inl ⟨⟨by omega, by omega⟩, k1.2, hx⟩⟩))
theorem m_without {fr : Nat} {o w : Int} {h : AH} (hf : 9 ≤ fr) (ro : R32 o) (rw_ : R32 w) (ho : okM h) :
    Sp mX12_without true fr 0 0 [zR 98, zI o, zI w] 137 h (rI (fun x h' => keepM h h' ∧ ((((0 ≤ o ∧ o < 24) ∧ 0 ≤ w ∧ w < dM h 0 1) ∧ h' 98 0 = 0 ∧ stillR (dM h) (dM h 9 o) 0 w x) ∨ (¬ ((0 ≤ o ∧ o < 24) ∧ 0 ≤ w ∧ w < dM h 0 1) ∧ h' 98 0 = 1)))) := by
  refine Sp.mk yX12_without_ok rfl rfl ?_
  obtain ⟨rw1, rw2⟩ := id rw_
  have e0 : up h 98 0 0 98 0 = 0 := rfl
  have e01 : dM h 0 1 = h 98 2 := rfl
  have nW : 0 ≤ h 98 2 ∧ h 98 2 ≤ 6 := ho.1.2.1
  have f2 : up h 98 0 0 98 2 = h 98 2 := up_cn (by decide)
  refine bX12_without_0 (hS := m_isHour (by omega) ro rfl) (kk := ?_)
  rintro x h1 (⟨ok, rfl, rfl⟩ | ⟨ok, rfl, rfl⟩)
  rotate_left
  · refine bX12_without_10 (kt := fun _ => ?_) (kf := fun w => absurd rfl w)
    exact bX12_without_51 (kk := bX12_without_52 (hq := ⟨_, rfl, rfl, chk1, Or.inr ⟨by omega, rfl⟩⟩))
  refine bX12_without_10 (kt := fun w => absurd w (by decide)) (kf := fun _ => ?_)
  have no : ¬ (0 ≤ w ∧ w < h 98 2) → Wp mX12_without (kR fr 0 0) (rI (fun x h' => keepM h h' ∧ ((((0 ≤ o ∧ o < 24) ∧ 0 ≤ w ∧ w < dM h 0 1) ∧ h' 98 0 = 0 ∧ stillR (dM h) (dM h 9 o) 0 w x) ∨ (¬ ((0 ≤ o ∧ o < 24) ∧ 0 ≤ w ∧ w < dM h 0 1) ∧ h' 98 0 = 1)))) (0, 0) 30 [zR 98, zI o, zI w] [zR 98] 137 (up h 98 0 0) := fun nn => by
    refine bX12_without_30 (kk := bX12_without_31 (hS := m_right R32_0 R32_1 (by decide) (by rw [e0]; exact R32_0)) (kk := ?_))
    rintro y h1 (⟨-, w, rfl, rfl⟩ | ⟨-, w, rfl, rfl⟩ | ⟨w, -⟩)
    · exact absurd rfl w
    · refine bX12_without_35 (kt := fun _ => ?_) (kf := fun w => absurd rfl w)
      exact bX12_without_51 (kk := bX12_without_52 (hq := ⟨_, rfl, rfl, chk1, Or.inr ⟨fun y => nn ⟨y.2.1, by omega⟩, rfl⟩⟩))
    · exact absurd e0 w
  refine bX12_without_13 (kt := fun q => no (by omega)) (kf := fun q0 => ?_)
  refine bX12_without_18 (kt := fun q => no (by omega)) (kf := fun q1 => ?_)
  refine bX12_without_26 (kk := bX12_without_31 (hS := m_right R32_1 R32_1 (by decide) (by rw [e0]; exact R32_0)) (kk := ?_))
  rintro y h1 (⟨-, w', rfl, rfl⟩ | ⟨-, w', rfl, rfl⟩ | ⟨w', -⟩)
  rotate_left
  · exact absurd w' (by decide)
  · exact absurd e0 w'
  refine bX12_without_35 (kt := fun w => absurd w (by decide)) (kf := fun _ => ?_)
  have o1 := ho.keep (chk0 (h := h))
  have eD : dM (up h 98 0 0) = dM h := (chk0 (h := h)).dM
  refine bX12_without_38 (hS := m_stillOf (by omega) eD ho.1 (by omega) o1.2.1 o1.2.2.1 (by decide) (by omega)) (kk := ?_)
  rintro x h1 ⟨k1, hx⟩
  exact bX12_without_48 (kk := bX12_without_52 (hq := ⟨_, rfl, rfl, chk0.tr k1.1, Or.inl ⟨⟨by omega, by omega⟩, k1.2, hx⟩⟩))
