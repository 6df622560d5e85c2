/-! ===== the class: findNext, find, rivals ===== -/
/-- all six answers stand -/
def ansV (R : Int → Prop) (E : Int → Int → Int → Prop) (n : Int) (h : AH) : Prop := ∀ k, 0 ≤ k → k ≤ 5 → rivalsR R E n k (h 83 k)
theorem c_findNext {fr : Nat} {g : Int} {L T : Int → Int} {R : Int → Prop} {h : AH} (hf : 1 ≤ fr) (hg : isG g) (hd : okD (dC h g)) (hL : ∀ s, 0 ≤ s → s < h g 0 → h (g + 1) s = L s ∧ h 86 (8 + s) = T s ∧ 0 ≤ T s ∧ T s ≤ 99) (ht : (∃ y, R y) → tkR R (h g 5).toNat h) (hc0 : h 83 0 = cntN R) (hR : ∀ y, R y → m20 y) :
    Sp mX3_findNext true fr 0 0 [zR 82, zR g] 137 h (rV (fun h' => (∀ c, c ≠ 83 → h' c = h c) ∧ (∀ i, i ≤ 3 → h' 83 i = h 83 i) ∧ nextR R (eqA L T (h g 0) (h g 4) (h g 5) (h g 6)) (h g 0) (h' 83 4) (h' 83 5))) := by
  refine Sp.mk yX3_findNext_ok rfl rfl ?_
  have cg := hg.cel
  have cr := cntN_rng R
  have d0 := hd.1
  rw [dC0] at d0
  have gs : g < 47 ∨ (54 < g ∧ g < 82) := by unfold isG at hg; omega
  have g1 : g + 1 < 47 ∨ (54 < g + 1 ∧ g + 1 < 82) := by unfold isG at hg; omega
  refine bX3_findNext_0 (kt := fun q => ?_) (kf := fun q => ?_)
  rotate_left
  · refine bX3_findNext_23 (hq := ⟨rfl, rfl, fun c a => by rw [up_n a, up_n a], fun i hi => by rw [up_cn (by omega), up_cn (by omega)], Or.inl ⟨rfl, rfl, Or.inr (fun y hy => ?_)⟩⟩)
    have := cntN_pos (hR y hy) hy
    omega
  have hne : ∃ y, R y := by
    by_cases c : ∃ y, R y
    · exact c
    · exfalso
      exact q (by rw [hc0]; exact cntN_none (fun y _ z => c ⟨y, z⟩))
  have ht' := ht hne
  generalize hE : eqA L T (h g 0) (h g 4) (h g 5) (h g 6) = E
  refine bX3_findNext_24 (kk := ?_)
  suffices K : ∀ (d : Nat) (s : Int) (h1 : AH) (x3 : AV), 0 ≤ s → s + d = h g 0 → (∀ c, c ≠ 83 → h1 c = h c) → (∀ i, i ≤ 3 → h1 83 i = h 83 i) → nextR R E s (h1 83 4) (h1 83 5) → (0 ≤ h1 83 5 ∧ h1 83 5 ≤ 1048576) → Wp mX3_findNext (kR fr 0 0) (rV (fun h' => (∀ c, c ≠ 83 → h' c = h c) ∧ (∀ i, i ≤ 3 → h' 83 i = h 83 i) ∧ nextR R E (h g 0) (h' 83 4) (h' 83 5))) (0, 0) 26 [zR 82, zR g, zI s, x3] [] 137 h1 by
    exact K (h g 0).toNat 0 _ _ (by decide) (by omega) (fun c a => by rw [up_n a, up_n a]) (fun i hi => by rw [up_cn (by omega), up_cn (by omega)]) (Or.inl ⟨rfl, rfl, Or.inl (by decide)⟩) (show (0 : Int) ≤ 0 ∧ (0 : Int) ≤ 1048576 by decide)
  intro d
  induction d with
  | zero =>
    intro s h1 x3 s0 hs k1 f1 n1 r1
    have eg : h1 g = h g := k1 g (by omega)
    refine bX3_findNext_26 (r2 := by rw [eg]; omega) (kt := fun _ => ?_) (kf := fun w => by rw [eg] at w; omega)
    refine bX3_findNext_81 (hq := ⟨rfl, rfl, k1, f1, ?_⟩)
    rw [show h g 0 = s by omega]; exact n1
  | succ d ih =>
    intro s h1 x3 s0 hs k1 f1 n1 r1
    have eg : h1 g = h g := k1 g (by omega)
    have eg1 : h1 (g + 1) = h (g + 1) := k1 _ (by omega)
    have e82 : h1 82 = h 82 := k1 82 (by decide)
    have e86 : h1 86 = h 86 := k1 86 (by decide)
    have eD : ∀ k, 0 ≤ k → k ≤ 14 → dC h1 g k = dC h g k := fun k a b => k1 (g + k) (by unfold isG at hg; omega)
    obtain ⟨l1, l2, l3⟩ := hL s s0 (by omega)
    have tk : tkR R (h1 g 5).toNat h1 := by
      unfold tkR
      rw [eg, e82, f1 0 (by decide), f1 1 (by decide), f1 2 (by decide), f1 3 (by decide)]
      exact ht'
    refine bX3_findNext_26 (r2 := by rw [eg]; omega) (kt := fun w => by rw [eg] at w; omega) (kf := fun _ => ?_)
    refine bX3_findNext_34 (hS := c_greatestGroup (L := L) (T := T) hg (okD_cong eD hd) s0 (by rw [eg]; omega) (by rw [eg1]; exact l1) (by rw [e86]; exact l2) l3 tk hne (by rw [f1 0 (by decide)]; exact hc0)) (kk := ?_)
    rintro x h2 ⟨e2, gx, xr⟩
    rw [e2]; clear e2 h2
    rw [eg, hE] at gx
    have take : (∀ t f, 0 ≤ t → t < s → grpR R (E t) f → x < f) → Wp mX3_findNext (kR fr 0 0) (rV (fun h' => (∀ c, c ≠ 83 → h' c = h c) ∧ (∀ i, i ≤ 3 → h' 83 i = h 83 i) ∧ nextR R E (h g 0) (h' 83 4) (h' 83 5))) (0, 0) 61 [zR 82, zR g, zI s, zI x] [] 137 h1 := fun hb => by
      refine bX3_findNext_61 (kk := bX3_findNext_75 (kk := ih (s + 1) _ _ (by omega) (by omega) (fun c a => by rw [up_n a, up_n a]; exact k1 c a) (fun i hi => by rw [up_cn (by omega), up_cn (by omega)]; exact f1 i hi) (Or.inr ⟨?_, ?_, ?_, ?_⟩) xr))
      · show 0 ≤ s ∧ s < s + 1
        omega
      · exact gx
      · intro t f a b c
        show x ≤ f
        by_cases e : t = s
        · rw [e] at c
          have := gx.one c; omega
        · have := hb t f a (by omega) c; omega
      · intro t f a b c
        exact hb t f a b c
    rcases id n1 with ⟨p1, p2, p3⟩ | ⟨p1, p2, p3, p4⟩
    · have s00 : s = 0 := by
        rcases p3 with p3 | p3
        · omega
        · obtain ⟨y, hy⟩ := hne; exact absurd hy (p3 y)
      exact bX3_findNext_40 (kt := fun _ => take (fun t f a b => by omega)) (kf := fun w => absurd p1 w)
    · refine bX3_findNext_40 (r1 := by omega) (kt := fun w => by omega) (kf := fun _ => ?_)
      refine bX3_findNext_51 (kt := fun w => ?_) (kf := fun w => take (fun t f a b c => by have := p3 t f a b c; omega))
      refine bX3_findNext_75 (kk := ih (s + 1) h1 _ (by omega) (by omega) k1 f1 (Or.inr ⟨by omega, p2, fun t f a b c => ?_, p4⟩) r1)
      by_cases e : t = s
      · rw [e] at c
        have := gx.one c; omega
      · exact p3 t f a (by omega) c
abbrev thT (D : DT) (sh ai : Int) : Int → Int := fun s => D 1 s * sh / 100 * ai / 100
/-- the rivals by a share, of what the class has -/
def RvC (h : AH) (g sh ai : Int) : Int → Prop := RivP (h 35) (dC h g 1) (thT (dC h g) sh ai) (h g 0) (h g 4) (h g 5) (h g 6) (h 36)
def EqC (h : AH) (g sh ai : Int) : Int → Int → Int → Prop := eqA (dC h g 1) (thT (dC h g) sh ai) (h g 0) (h g 4) (h g 5) (h g 6)
def guOk (h : AH) (g ai : Int) : Prop := h 82 2 = 0 ∨ (h 82 2 = 1 ∧ (1 ≤ h 82 3 ∧ h 82 3 ≤ 100) ∧ ansV (RvC h g (h 82 3) ai) (EqC h g (h 82 3) ai) (h g 0) h)
theorem thT_rng {D : DT} {sh ai s : Int} (hd : okD D) (hs : 0 ≤ sh ∧ sh ≤ 100) (ha : 0 ≤ ai ∧ ai ≤ 100) (s0 : 0 ≤ s) (s1 : s < D 0 0) : 0 ≤ thT D sh ai s ∧ thT D sh ai s ≤ 99 := by
  have v := (hd.2.2.2.2.2.2.2.1 s s0 s1).1
  have m1 := mul_rng (a := D 1 s) (b := sh) (by omega) v.2 hs.1 hs.2
  have m2 := mul_rng (a := D 1 s * sh / 100) (A := 99) (b := ai) (by omega) (by omega) ha.1 ha.2
  show 0 ≤ D 1 s * sh / 100 * ai / 100 ∧ D 1 s * sh / 100 * ai / 100 ≤ 99
  omega
theorem c_findG {fr : Nat} {g sh : Int} {h : AH} (hf : 8 ≤ fr) (hg : isG g) (hd : okD (dC h g)) (hz : sumZ h) (hsh : 1 ≤ sh ∧ sh ≤ 100) (r86 : ∀ i, 0 ≤ i → i < 32 → 0 ≤ h 86 i ∧ h 86 i ≤ 1881) (h35 : ∀ u, 0 ≤ u → u ≤ 199 → (0 ≤ h 35 u ∧ h 35 u < 256) ∧ ∀ j : Nat, bt (h 35 u) j = true → (j : Int) < h g 0) (h36 : ∀ t, 0 ≤ t → t < 60 → -1 ≤ h 36 t ∧ h 36 t < h g 0) (hk : guOk h g (h (g + 9) 12)) :
    Sp mX3_find true fr 0 0 [zR 82, zR g, zR 34, zR 51, zI sh] 137 h (rV (fun h' => ((∀ c, (c < 51 ∨ 54 < c) → (c < 82 ∨ 86 < c) → h' c = h c) ∧ sumZ h') ∧ (∀ i, 0 ≤ i → i < 32 → 0 ≤ h' 86 i ∧ h' 86 i ≤ 1881) ∧ h' 82 2 = 1 ∧ h' 82 3 = sh ∧ ansV (RvC h g sh (h (g + 9) 12)) (EqC h g sh (h (g + 9) 12)) (h g 0) h')) := by
  refine Sp.mk yX3_find_ok rfl rfl ?_
  have cg := hg.cel
  have d0 := hd.1
  have d5 := hd.2.2.2.2.2.1
  rw [dC0] at d0 d5
  have hai : 0 ≤ h (g + 9) 12 ∧ h (g + 9) 12 ≤ 100 := hd.2.2.2.2.2.2.2.2.2.2.2.2.1 12 (by decide) (by decide)
  have gs : ∀ k, 0 ≤ k → k ≤ 14 → (g + k < 47 ∨ (54 < g + k ∧ g + k < 82)) := fun k a b => by unfold isG at hg; omega
  have g00 := gs 0 (by decide) (by decide)
  rw [Int.add_zero] at g00
  have work : Wp mX3_find (kR fr 0 0) (rV (fun h' => ((∀ c, (c < 51 ∨ 54 < c) → (c < 82 ∨ 86 < c) → h' c = h c) ∧ sumZ h') ∧ (∀ i, 0 ≤ i → i < 32 → 0 ≤ h' 86 i ∧ h' 86 i ≤ 1881) ∧ h' 82 2 = 1 ∧ h' 82 3 = sh ∧ ansV (RvC h g sh (h (g + 9) 12)) (EqC h g sh (h (g + 9) 12)) (h g 0) h')) (0, 0) 17 [zR 82, zR g, zR 34, zR 51, zI sh] [] 137 h := by
    generalize hh0 : up (up (up (up (up (up (up h 82 2 1) 82 3 sh) 83 0 0) 83 1 (-1)) 83 2 0) 83 3 (-1)) 82 5 0 = h0
    have k0 : ∀ c, c ≠ 82 → c ≠ 83 → h0 c = h c := fun c a b => by rw [← hh0, up_n a, up_n b, up_n b, up_n b, up_n b, up_n a, up_n a]
    have i2 : h0 82 2 = 1 := by rw [← hh0]; rfl
    have i3 : h0 82 3 = sh := by rw [← hh0]; rfl
    have i5 : h0 82 5 = 0 := by rw [← hh0]; rfl
    have j0 : h0 83 0 = 0 := by rw [← hh0]; rfl
    have j1 : h0 83 1 = -1 := by rw [← hh0]; rfl
    have j2 : h0 83 2 = 0 := by rw [← hh0]; rfl
    have j3 : h0 83 3 = -1 := by rw [← hh0]; rfl
    have eD0 : ∀ k, 0 ≤ k → k ≤ 14 → dC h0 g k = dC h g k := fun k a b => by have := gs k a b; exact k0 (g + k) (by omega) (by omega)
    have e9 : h0 (g + 9) = h (g + 9) := eD0 9 (by decide) (by decide)
    have eg0 : h0 g = h g := k0 g (by omega) (by omega)
    refine bX3_find_17 (hS := by rw [hh0, e9]; exact c_prepareLike2 (Or.inr rfl) hg (okD_cong eD0 hd) ⟨by omega, by omega⟩ hai) (kk := ?_)
    rintro h1 ⟨⟨⟨k1, r1⟩, v1⟩, f4, f0, f2, f1⟩
    have k1' : ∀ c, (c < 84 ∨ 86 < c) → h1 c = h0 c := fun c a => k1 c (by omega) (by omega) (by omega)
    have eD1 : ∀ k, 0 ≤ k → k ≤ 14 → dC h1 g k = dC h g k := fun k a b => by have := gs k a b; rw [← eD0 k a b]; exact k1' (g + k) (by omega)
    have eg1 : h1 g = h g := by rw [k1' g (by omega), eg0]
    have e35' : h1 35 = h 35 := by rw [k1' 35 (by decide), k0 35 (by decide) (by decide)]
    have e36' : h1 36 = h 36 := by rw [k1' 36 (by decide), k0 36 (by decide) (by decide)]
    have eTh : ∀ s, thin h0 g sh (h (g + 9) 12) s = thT (dC h g) sh (h (g + 9) 12) s := fun s => by
      unfold thin thT
      have : h0 (g + 1) = dC h g 1 := eD0 1 (by decide) (by decide)
      rw [this]
    have s1 : gsC h1 g (dC h g 1) (thT (dC h g) sh (h (g + 9) 12)) := by
      unfold gsC
      rw [eg1, e35', e36']
      refine ⟨hg, okD_cong eD1 hd, f0, fun s a b => ?_, fun i a b => r1 i (by show 0 ≤ h0 86 i ∧ h0 86 i ≤ 1881; rw [k0 86 (by decide) (by decide)]; exact r86 i a b), h35, h36⟩
      have := v1 s a (by rw [eg0]; exact b)
      refine ⟨?_, fun w p q => ?_⟩
      · show h1 86 s = _
        have e1 : h0 (g + 1) = dC h g 1 := eD0 1 (by decide) (by decide)
        rw [← e1]; exact this.1
      · rw [← eTh]; exact this.2 w p q
    have z1 : sumZ h1 := fun s p q => by rw [k1' 54 (by decide), k0 54 (by decide) (by decide)]; exact hz s p q
    have e82 : h1 82 = h0 82 := k1' 82 (by decide)
    have e83 : h1 83 = h0 83 := k1' 83 (by decide)
    refine bX3_find_78 (hS := c_searchAll (by omega) s1 z1 ?_) (kk := ?_)
    · refine ⟨⟨by rw [e83, j0]; exact (cntN_none (fun _ _ z => z)).symm, by rw [e83, j2]; exact ⟨by constructor <;> decide, fun j => by rw [bt_zero]; exact ⟨fun z => absurd z (by decide), fun z => by obtain ⟨_, z, _⟩ := z; exact z.elim⟩⟩, fun _ z => z.elim⟩, Or.inl ⟨fun _ z => z, by rw [e83]; exact j1, by rw [e83]; exact j3, by rw [e82]; exact i5⟩⟩
    rintro h2 ⟨⟨k2, z2⟩, t2⟩
    rw [eg1, e35', e36'] at t2
    change tkR (RvC h g sh (h (g + 9) 12)) (h g 5).toNat h2 at t2
    have s2 := s1.keep k2
    have k2' : ∀ c, (c < 51 ∨ (54 < c ∧ c < 82) ∨ 85 < c) → h2 c = h1 c := fun c p => k2.1 c (by omega) (by omega) (by omega) (by omega) (by omega) (by omega) (by omega) (by omega)
    have eD2 : ∀ k, 0 ≤ k → k ≤ 14 → dC h2 g k = dC h g k := fun k a b => by have := gs k a b; rw [← eD1 k a b]; exact k2' (g + k) (by omega)
    have eg2 : h2 g = h g := by rw [k2' g (by omega), eg1]
    have kall : ∀ c, (c < 51 ∨ 54 < c) → (c < 82 ∨ 86 < c) → h2 c = h c := fun c a b => by rw [k2' c (by omega), k1' c (by omega), k0 c (by omega) (by omega)]
    have i22 : h2 82 2 = 1 := by rw [k2.2.2.2 2 (by decide), e82, i2]
    have i23 : h2 82 3 = sh := by rw [k2.2.2.2 3 (by decide), e82, i3]
    generalize hRR : RvC h g sh (h (g + 9) 12) = RR at t2
    have cr := cntN_rng RR
    obtain ⟨⟨a0, a2, a20⟩, -⟩ := id t2
    have t3 : ((∀ y, ¬ RR y) ∧ h2 83 3 = -1) ∨ fstR RR (h2 83 3) := by
      rcases t2.2 with ⟨n1, -, n3, -⟩ | ⟨z0, -, -, -, s4, -⟩
      · exact Or.inl ⟨n1, n3⟩
      · exact Or.inr s4.1
    -- the end
    have fin : ∀ h3 : AH, (∀ c, c ≠ 83 → h3 c = h2 c) → (∀ i, i ≠ 1 → h3 83 i = h2 83 i) → (((∀ y, ¬ RR y) ∧ h3 83 1 = 0) ∨ ((∃ y, RR y) ∧ andR RR (h3 83 1) ∧ tkR RR (h g 5).toNat h3)) → ∀ x2 x3 x4 : AV, Wp mX3_find (kR fr 0 0) (rV (fun h' => ((∀ c, (c < 51 ∨ 54 < c) → (c < 82 ∨ 86 < c) → h' c = h c) ∧ sumZ h') ∧ (∀ i, 0 ≤ i → i < 32 → 0 ≤ h' 86 i ∧ h' 86 i ≤ 1881) ∧ h' 82 2 = 1 ∧ h' 82 3 = sh ∧ ansV RR (EqC h g sh (h (g + 9) 12)) (h g 0) h')) (0, 0) 101 [zR 82, zR g, x2, x3, x4] [] 137 h3 := by
      intro h3 k3 f3 c3 x2 x3 x4
      have eg3 : h3 g = h g := by rw [k3 g (by omega), eg2]
      have eD3 : ∀ k, 0 ≤ k → k ≤ 14 → dC h3 g k = dC h g k := fun k a b => by have := gs k a b; rw [← eD2 k a b]; exact k3 (g + k) (by omega)
      refine bX3_find_101 (hS := c_findNext (L := dC h g 1) (T := thT (dC h g) sh (h (g + 9) 12)) (R := RR) (by omega) hg (okD_cong eD3 hd) (fun s p q => ?_) (fun e => ?_) (by rw [f3 0 (by decide)]; exact a0) a20) (kk := ?_)
      · rw [eg3] at q
        have := s2.2.2.2.1 s p (by rw [eg2]; exact q)
        refine ⟨by have e := eD3 1 (by decide) (by decide); exact congrFun e s, ?_, thT_rng hd (by omega) hai p (by rw [dC0]; exact q)⟩
        rw [k3 86 (by decide)]
        have := this.2 1 (by decide) (by decide)
        rw [show (1 : Int) * 8 + s = 8 + s by omega] at this
        exact this
      · rw [eg3]
        rcases c3 with ⟨c, -⟩ | ⟨-, -, c⟩
        · obtain ⟨y, hy⟩ := e; exact absurd hy (c y)
        · exact c
      rintro h4 ⟨k4, f4', n4⟩
      rw [eg3] at n4
      change nextR RR (EqC h g sh (h (g + 9) 12)) (h g 0) (h4 83 4) (h4 83 5) at n4
      refine bX3_find_106 (hq := ⟨rfl, rfl, ⟨fun c a b => by rw [k4 c (by omega), k3 c (by omega), kall c a b], fun s p q => by rw [k4 54 (by decide), k3 54 (by decide)]; exact z2 s p q⟩, fun i a b => by rw [k4 86 (by decide), k3 86 (by decide)]; exact s2.2.2.2.2.1 i a b, by rw [k4 82 (by decide), k3 82 (by decide)]; exact i22, by rw [k4 82 (by decide), k3 82 (by decide)]; exact i23, fun k p q => ?_⟩)
      rcases (show k = 0 ∨ k = 1 ∨ k = 2 ∨ k = 3 ∨ k = 4 ∨ k = 5 by omega) with e | e | e | e | e | e <;> rw [e]
      · exact Or.inl ⟨rfl, by rw [f4' 0 (by decide), f3 0 (by decide)]; exact a0⟩
      · refine Or.inr (Or.inl ⟨rfl, ?_⟩)
        rw [f4' 1 (by decide)]
        rcases c3 with c | ⟨c, c', -⟩
        · exact Or.inl c
        · exact Or.inr ⟨c, c'⟩
      · exact Or.inr (Or.inr (Or.inl ⟨rfl, by rw [f4' 2 (by decide), f3 2 (by decide)]; exact a2⟩))
      · refine Or.inr (Or.inr (Or.inr (Or.inl ⟨rfl, ?_⟩)))
        rw [f4' 3 (by decide), f3 3 (by decide)]
        exact t3
      · exact Or.inr (Or.inr (Or.inr (Or.inr (Or.inl ⟨rfl, _, n4⟩))))
      · exact Or.inr (Or.inr (Or.inr (Or.inr (Or.inr ⟨rfl, _, n4⟩))))
    rcases t2.2 with ⟨n1, n2, n3, n5⟩ | ⟨z0, b1, b2, b3, b4, b7, b6, b5, b8⟩
    · have c0 : cntN RR = 0 := cntN_none (fun z _ => n1 z)
      refine bX3_find_85 (kt := fun w => by omega) (kf := fun _ => bX3_find_94 (kk := fin _ (fun c a => up_n a) (fun i hi => up_cn hi) (Or.inl ⟨n1, rfl⟩) _ _ _))
    · have cp := cntN_pos (a20 z0 b1) b1
      exact bX3_find_85 (kt := fun _ => fin h2 (fun _ _ => rfl) (fun _ _ => rfl) (Or.inr ⟨⟨z0, b1⟩, b3, t2⟩) _ _ _) (kf := fun w => by omega)
  rcases hk with e | ⟨e, er, ha⟩
  · exact bX3_find_0 (kt := fun _ => work) (kf := fun w => absurd e w)
  · refine bX3_find_0 (kt := fun _ => work) (kf := fun _ => ?_)
    refine bX3_find_7 (kt := fun _ => work) (kf := fun q => ?_)
    rw [q] at ha
    exact bX3_find_16 (hq := ⟨rfl, rfl, ⟨fun _ _ _ => rfl, hz⟩, r86, e, q, ha⟩)
theorem c_rivals {fr : Nat} {sh k : Int} {h : AH} (hf : 30 ≤ fr) (rs : R32 sh) (rk : R32 k) (he : earC h) (r86 : ∀ i, 0 ≤ i → i < 32 → 0 ≤ h 86 i ∧ h 86 i ≤ 1881) (h36 : ∀ t, 0 ≤ t → t < 60 → -1 ≤ h 36 t ∧ h 36 t < h (h 1 4) 0) (hk : guOk h (h 1 4) (h (h 1 4 + 9) 12)) :
    Sp mX11_rivals true fr 8 48 [zR 1, zI sh, zI k] 137 h (rIx (fun x h' => ((0 ≤ k ∧ k ≤ 5) ∧ 1 ≤ sh ∧ sh ≤ 100) ∧ rivalsR (RvC h (h 1 4) sh (h (h 1 4 + 9) 12)) (EqC h (h 1 4) sh (h (h 1 4 + 9) 12)) (h (h 1 4) 0) k x ∧ ((∀ c, (c < 51 ∨ 54 < c) → (c < 82 ∨ 86 < c) → h' c = h c) ∧ sumZ h') ∧ (∀ i, 0 ≤ i → i < 32 → 0 ≤ h' 86 i ∧ h' 86 i ≤ 1881) ∧ guOk h' (h 1 4) (h (h 1 4 + 9) 12)) (fun E h' => h' = h ∧ ((E = NSE ∧ ¬ (0 ≤ k ∧ k ≤ 5)) ∨ (E = IAE ∧ (0 ≤ k ∧ k ≤ 5) ∧ ¬ (1 ≤ sh ∧ sh ≤ 100))))) := by
  refine Sp.mk yX11_rivals_ok rfl rfl ?_
  obtain ⟨rk1, rk2⟩ := id rk
  obtain ⟨rs1, rs2⟩ := id rs
  obtain ⟨hg, hd, hrt, hz, h35⟩ := id he
  have iG : isG (h 1 4) := by unfold isG; omega
  refine bX11_rivals_0 (kt := fun q => bX11_rivals_9 (hq := ⟨rfl, Or.inr ⟨_, rfl, rfl, Or.inl ⟨rfl, fun w => by omega⟩⟩⟩)) (kf := fun k0 => ?_)
  refine bX11_rivals_4 (kt := fun k1 => ?_) (kf := fun q => bX11_rivals_9 (hq := ⟨rfl, Or.inr ⟨_, rfl, rfl, Or.inl ⟨rfl, fun w => by omega⟩⟩⟩))
  refine bX11_rivals_17 (kt := fun q => bX11_rivals_28 (hq := ⟨rfl, Or.inr ⟨_, rfl, rfl, Or.inr ⟨rfl, ⟨k0, k1⟩, fun w => by omega⟩⟩⟩)) (kf := fun s0 => ?_)
  refine bX11_rivals_22 (kt := fun s1 => ?_) (kf := fun q => bX11_rivals_28 (hq := ⟨rfl, Or.inr ⟨_, rfl, rfl, Or.inr ⟨rfl, ⟨k0, k1⟩, fun w => by omega⟩⟩⟩))
  refine bX11_rivals_36 (hS := c_findG (by omega) iG hd hz ⟨s0, s1⟩ r86 (fun u a b => h35 u a (by omega)) h36 hk) (kk := ?_)
  rintro h1 ⟨⟨k1', z1⟩, r1, i2, i3, ha⟩
  refine bX11_rivals_56 (hq := ⟨rfl, Or.inl ⟨_, rfl, ⟨⟨k0, k1⟩, s0, s1⟩, ha k k0 k1, ⟨k1', z1⟩, r1, Or.inr ⟨i2, by omega, ?_⟩⟩⟩)
  have gs : ∀ k, 0 ≤ k → k ≤ 14 → (h 1 4 + k < 47) := fun k a b => by omega
  have eD : dC h1 (h 1 4) 1 = dC h (h 1 4) 1 := k1' (h 1 4 + 1) (by omega) (by omega)
  have eg : h1 (h 1 4) = h (h 1 4) := k1' _ (by omega) (by omega)
  have eT : thT (dC h1 (h 1 4)) sh (h (h 1 4 + 9) 12) = thT (dC h (h 1 4)) sh (h (h 1 4 + 9) 12) := by unfold thT; rw [eD]
  unfold RvC EqC at *
  rw [i3, eD, eT, eg, k1' 35 (by decide) (by decide), k1' 36 (by decide) (by decide)]
  exact ha
