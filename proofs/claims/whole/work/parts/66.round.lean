/-! ===== the class: clashes, rests, round ===== -/
theorem wayR_same {h h1 : AH} {o l n t s : Int} (e0 : h1 l = h l) (e1 : h1 (o + 1) = h (o + 1)) (e2 : h1 (o + 2) = h (o + 2)) (e3 : h1 (l + 3) = h (l + 3)) : wayR h1 o l n t s = wayR h o l n t s := by
  unfold wayR
  rw [e0, e1, e2, e3]
abbrev lamW (h : AH) (o l n : Int) : Int → Int → Int := fun t s => sg (wayR h o l n t s) (h o 2).toNat
noncomputable abbrev clashC (h : AH) (g o l n : Int) : Nat → Bool := fun t => cl (clashB (lamW h o l n t) (h g 0) (h g 4) (fun s => h (g + 3) s))
theorem c_clashes {fr : Nat} {g o l n : Int} {h : AH} (hf : 3 ≤ fr) (hg : isG g) (ho : isO o) (hl4 : l = 34) (hw : ways h o) (hl : ∀ i s, 0 ≤ i → i < h o 2 → 0 ≤ s → s < 8 → 0 ≤ h (o + 2) (i * 8 + s) ∧ h (o + 2) (i * 8 + s) ≤ 1881) (n0 : 0 ≤ n) (n1 : n ≤ 32) (hr : rowOk h l) (hS : 0 ≤ h g 0 ∧ h g 0 ≤ 8) (hL : 1 ≤ h g 4 ∧ h g 4 ≤ 99) :
    Sp mX0_clashes true fr 0 0 [zR 80, zR g, zR o, zR l, zI n] 137 h (rI (fun x h' => (∀ c, c ≠ 81 → h' c = h c) ∧ x = clashN (lamW h o l n) (h g 0) (h g 4) (fun s => h (g + 3) s) n.toNat)) := by
  refine Sp.mk yX0_clashes_ok rfl rfl ?_
  have sepo : o ≠ 81 ∧ o + 1 ≠ 81 ∧ o + 2 ≠ 81 := by unfold isO at ho; omega
  have sepg : g ≠ 81 ∧ g + 3 ≠ 81 := by unfold isG at hg; omega
  refine bX0_clashes_0 (kk := ?_)
  suffices H : ∀ (d t : Nat) (h1 : AH), (t : Int) + d = n → (∀ c, c ≠ 81 → h1 c = h c) → Wp mX0_clashes (kR fr 0 0) (rI (fun x h' => (∀ c, c ≠ 81 → h' c = h c) ∧ x = clashN (lamW h o l n) (h g 0) (h g 4) (fun s => h (g + 3) s) n.toNat)) (0, 0) 6 [zR 80, zR g, zR o, zR l, zI n, zI (cnt (clashC h g o l n) t), zI t] [] 137 h1 by
    exact H n.toNat 0 h (by omega) (fun _ _ => rfl)
  intro d
  induction d with
  | zero =>
    intro t h1 ht hc
    refine bX0_clashes_6 (kt := fun _ => ?_) (kf := fun q => by omega)
    refine bX0_clashes_40 (hq := ⟨_, rfl, rfl, hc, ?_⟩)
    rw [show n.toNat = t by omega]
    rfl
  | succ d ih =>
    intro t h1 ht hc
    refine bX0_clashes_6 (kt := fun q => by omega) (kf := fun _ => ?_)
    have eo : h1 o = h o := hc o sepo.1
    have eo1 : h1 (o + 1) = h (o + 1) := hc _ sepo.2.1
    have eo2 : h1 (o + 2) = h (o + 2) := hc _ sepo.2.2
    have el : h1 l = h l := hc _ (by omega)
    have el3 : h1 (l + 3) = h (l + 3) := hc _ (by omega)
    have eg : h1 g = h g := hc _ sepg.1
    refine bX0_clashes_13 (hS := c_listen (by omega) hg ho hl4 (ways_same (by rw [eo]) eo1 hw) (by rw [eo, eo2]; exact hl) (by omega) n1 (by omega) (by unfold rowOk at *; rw [el, el3]; exact hr) (by rw [eg]; exact hS) (by rw [eg]; exact hL)) (kk := ?_)
    rintro m h2 ⟨hc2, ha⟩
    rw [eg, eo] at ha
    have ha : audR (lamW h o l n t) (h g 0) (h g 4) m := audR_cong (fun s _ _ => by rw [wayR_same el eo1 eo2 el3]) ha
    refine bX0_clashes_25 (hS := c_isClash (by omega) hg ha.1.1 ha.1.2) (kk := ?_)
    rintro x h3 ⟨e3, hx⟩
    rw [e3]; clear e3 h3
    have hc2' : ∀ c, c ≠ 81 → h2 c = h c := fun c z => by rw [hc2 c z, hc c z]
    rw [hc2' _ sepg.2] at hx
    have hB := clashB_iff (SW := fun s => h (g + 3) s) ha
    have nx := ih (t + 1) h2 (by omega) hc2'
    rw [show cnt (clashC h g o l n) (t + 1) = cnt (clashC h g o l n) t + if clashC h g o l n t = true then 1 else 0 from rfl] at nx
    rcases hx with ⟨rfl, hP⟩ | ⟨rfl, hP⟩
    · rw [if_pos (cl_pos (hB.mpr hP))] at nx
      exact bX0_clashes_28 (kt := fun z => by omega) (kf := fun _ => bX0_clashes_31 (kk := bX0_clashes_34 (kk := nx)))
    · rw [if_neg (by show ¬ cl _ = true; rw [cl_neg (fun z => hP (hB.mp z))]; decide), Int.add_zero] at nx
      exact bX0_clashes_28 (kt := fun _ => bX0_clashes_34 (kk := nx)) (kf := fun z => absurd rfl z)
def restR (f : Int → Int) (x : Int) : Prop := (0 ≤ x ∧ x ≤ 16 ∧ f x = 0 ∧ ∀ y, 0 ≤ y → y < x → ¬ f y = 0) ∨ (x = -1 ∧ ∀ y, 0 ≤ y → y ≤ 16 → ¬ f y = 0)
theorem restR.one {f g : Int → Int} (e : ∀ y, 0 ≤ y → y ≤ 16 → f y = g y) {x y : Int} (h1 : restR f x) (h2 : restR g y) : x = y := by
  rcases h1 with ⟨a0, a1, a2, a3⟩ | ⟨a0, a1⟩ <;> rcases h2 with ⟨b0, b1, b2, b3⟩ | ⟨b0, b1⟩
  · rcases Int.lt_trichotomy x y with c | c | c
    · exact absurd (by rw [← e x a0 a1]; exact a2) (b3 x a0 c)
    · exact c
    · exact absurd (by rw [e y b0 b1]; exact b2) (a3 y b0 c)
  · exact absurd (by rw [← e x a0 a1]; exact a2) (b1 x a0 a1)
  · exact absurd (by rw [e y b0 b1]; exact b2) (a1 y b0 b1)
  · omega
theorem cnt_R (p : Nat → Bool) {n : Nat} (h : n < 1000000) : R32 (cnt p n) := by
  have := cnt_rng p n
  unfold R32
  omega
theorem c_rests {fr : Nat} {g o l : Int} {h : AH} (hf : 4 ≤ fr) (hg : isG g) (ho : isO o) (hl4 : l = 34) (hw : ways h o) (hl : ∀ i s, 0 ≤ i → i < h o 2 → 0 ≤ s → s < 8 → 0 ≤ h (o + 2) (i * 8 + s) ∧ h (o + 2) (i * 8 + s) ≤ 1881) (hr : rowOk h l) (hS : 0 ≤ h g 0 ∧ h g 0 ≤ 8) (hL : 1 ≤ h g 4 ∧ h g 4 ≤ 99) :
    Sp mX0_rests true fr 0 0 [zR 80, zR g, zR o, zR l] 137 h (rI (fun x h' => (∀ c, c ≠ 81 → h' c = h c) ∧ restR (fun k => clashN (lamW h o l (h l 5 + k)) (h g 0) (h g 4) (fun s => h (g + 3) s) (h l 5 + k).toNat) x)) := by
  refine Sp.mk yX0_rests_ok rfl rfl ?_
  have sepo : o ≠ 81 ∧ o + 1 ≠ 81 ∧ o + 2 ≠ 81 := by unfold isO at ho; omega
  have sepg : g ≠ 81 ∧ g + 3 ≠ 81 := by unfold isG at hg; omega
  have cl4 : cel 137 l (8, 8) := by rw [hl4]; exact e34
  have R0 := hr.1
  refine bX0_rests_0 (kk := ?_)
  suffices H : ∀ (d k : Nat) (h1 : AH), k + d = 17 → (∀ c, c ≠ 81 → h1 c = h c) → (∀ y, 0 ≤ y → y < (k : Int) → ¬ clashN (lamW h o l (h l 5 + y)) (h g 0) (h g 4) (fun s => h (g + 3) s) (h l 5 + y).toNat = 0) → Wp mX0_rests (kR fr 0 0) (rI (fun x h' => (∀ c, c ≠ 81 → h' c = h c) ∧ restR (fun k => clashN (lamW h o l (h l 5 + k)) (h g 0) (h g 4) (fun s => h (g + 3) s) (h l 5 + k).toNat) x)) (0, 0) 3 [zR 80, zR g, zR o, zR l, zI k] [] 137 h1 by
    exact H 17 0 h (by omega) (fun _ _ => rfl) (fun y a b => by omega)
  intro d
  induction d with
  | zero =>
    intro k h1 hk hc hn
    refine bX0_rests_3 (kt := fun _ => ?_) (kf := fun q => by omega)
    exact bX0_rests_36 (hq := ⟨_, rfl, rfl, hc, Or.inr ⟨rfl, fun y a b => hn y a (by omega)⟩⟩)
  | succ d ih =>
    intro k h1 hk hc hn
    have eo : h1 o = h o := hc o sepo.1
    have eo1 : h1 (o + 1) = h (o + 1) := hc _ sepo.2.1
    have eo2 : h1 (o + 2) = h (o + 2) := hc _ sepo.2.2
    have el : h1 l = h l := hc _ (by omega)
    have el3 : h1 (l + 3) = h (l + 3) := hc _ (by omega)
    have eg : h1 g = h g := hc _ sepg.1
    have eg3 : h1 (g + 3) = h (g + 3) := hc _ sepg.2
    refine bX0_rests_3 (kt := fun q => by omega) (kf := fun _ => ?_)
    refine bX0_rests_10 (hS := c_clashes (by omega) hg ho hl4 (ways_same (by rw [eo]) eo1 hw) (by rw [eo, eo2]; exact hl) (by rw [el]; omega) (by rw [el]; omega) (by unfold rowOk at *; rw [el, el3]; exact hr) (by rw [eg]; exact hS) (by rw [eg]; exact hL)) (kk := ?_)
    rintro x h2 ⟨hc2, hx⟩
    have hx : x = clashN (lamW h o l (h l 5 + k)) (h g 0) (h g 4) (fun s => h (g + 3) s) (h l 5 + k).toNat := by
      rw [hx, eg, eg3, el]
      refine clashN_cong (fun t s _ _ _ _ => ?_) (fun _ _ _ => rfl)
      show sg (wayR h1 o l (h l 5 + k) t s) (h1 o 2).toNat = sg (wayR h o l (h l 5 + k) t s) (h o 2).toNat
      rw [wayR_same el eo1 eo2 el3, eo]
    have hc2' : ∀ c, c ≠ 81 → h2 c = h c := fun c z => by rw [hc2 c z, hc c z]
    have rx : R32 x := by rw [hx]; exact cnt_R _ (by omega)
    refine bX0_rests_24 (r1 := rx) (kt := fun q => ?_) (kf := fun q => ?_)
    · refine bX0_rests_30 (kk := ih (k + 1) h2 (by omega) hc2' (fun y a b => ?_))
      by_cases e : y = k
      · rw [e, ← hx]; exact q
      · exact hn y a (by omega)
    · exact bX0_rests_27 (hq := ⟨_, rfl, rfl, hc2', Or.inl ⟨by omega, by omega, hx.symm.trans q, hn⟩⟩)
/-- what round answers -/
def roundR (A : Int → Int → Int) (row : Int → Int) (R nS least : Int) (SW : Int → Int) (k x : Int) : Prop :=
  (k = 0 ∧ x = clashN (lamR A row R R) nS least SW R.toNat) ∨ (k = 1 ∧ restR (fun y => clashN (lamR A row R (R + y)) nS least SW (R + y).toNat) x) ∨ (k = 2 ∧ x = R)
theorem lamW_R {h : AH} {o g l n t s air : Int} (hv : valid h o g 0 air 0 (-1)) (s0 : 0 ≤ s) (s1 : s < h g 0) (s8 : s < 8) : lamW h o l n t s = lamR (fun s d => amp (dC h g) 0 air 0 (-1) s d) (fun i => h (l + 3) i) (h l 5) n t s := by
  show sg (wayR h o l n t s) (h o 2).toNat = _
  have := tab_sum (s := s) (P := fun d => decide ((t - d) % n < h l 5 ∧ h (l + 3) ((t - d) % n) = s)) hv.1
  refine this.trans ?_
  unfold lamR
  refine sg_cong (fun d _ => ?_)
  rw [hv.2 _ s s0 s8, if_pos s1]
abbrev keepR (h h' : AH) : Prop := ∀ c, (c < 47 ∨ 54 < c) → c ≠ 81 → h' c = h c
theorem c_round {fr : Nat} {k : Int} {h : AH} (hf : 9 ≤ fr) (rk : R32 k) (he : earC h) (hr : rowOk h 34) :
    Sp mX11_round true fr 8 48 [zR 1, zI k] 137 h (rIx (fun x h' => (0 ≤ k ∧ k ≤ 2) ∧ roundR (fun s d => amp (dC h (h 1 4)) 0 (h (h 1 4 + 9) 12) 0 (-1) s d) (fun i => h 37 i) (h 34 5) (h (h 1 4) 0) (h (h 1 4) 4) (fun s => h (h 1 4 + 3) s) k x ∧ keepR h h' ∧ retOk h' 47 (h 1 4) ∧ sumZ h') (fun E h' => E = NSE ∧ ¬ (0 ≤ k ∧ k ≤ 2) ∧ keepR h h' ∧ retOk h' 47 (h 1 4) ∧ sumZ h')) := by
  refine Sp.mk yX11_round_ok rfl rfl ?_
  obtain ⟨rk1, rk2⟩ := rk
  obtain ⟨hg, hd, hrt, hz, -⟩ := id he
  have iG : isG (h 1 4) := by unfold isG; omega
  have cg := iG.cel
  have hai : 0 ≤ h (h 1 4 + 9) 12 ∧ h (h 1 4 + 9) 12 ≤ 100 := hd.2.2.2.2.2.2.2.2.2.2.2.2.1 12 (by decide) (by decide)
  have d0 := hd.1
  have d4 := hd.2.2.2.2.1
  rw [dC0] at d0 d4
  refine bX11_round_0 (hS := c_build (by omega) (Or.inl rfl) iG hd hrt (by decide) hai (by decide) (by decide)) (kk := ?_)
  rintro h1 ⟨b1, b2, b3⟩
  have e14 : h1 1 4 = h 1 4 := by rw [b1 1 (by decide)]
  have eg : h1 (h 1 4) = h (h 1 4) := b1 _ (by omega)
  have eg3 : h1 (h 1 4 + 3) = h (h 1 4 + 3) := b1 _ (by omega)
  have e34 : h1 34 = h 34 := b1 _ (by decide)
  have e37 : h1 (34 + 3) = h 37 := b1 _ (by decide)
  have hr1 : rowOk h1 34 := by unfold rowOk; rw [e34, e37]; exact hr
  have eD : ∀ k, 0 ≤ k → k ≤ 14 → dC h1 (h 1 4) k = dC h (h 1 4) k := fun k a b => b1 (h 1 4 + k) (by omega)
  have hrng := valid_rng b2 (okD_cong eD hd) (by decide) (by decide) hai.1 hai.2
  have zz : ∀ h2 : AH, (∀ c, c ≠ 81 → h2 c = h1 c) → keepR h h2 ∧ retOk h2 47 (h 1 4) ∧ sumZ h2 := fun h2 hc => by
    refine ⟨fun c a b => by rw [hc c b, b1 c (by omega)], ?_, fun s a b => ?_⟩
    · exact retOk_same (hc _ (by decide)) (hc _ (by decide)) (hc _ (by decide)) (hc _ (by omega)) (fun k a b => hc (h 1 4 + k) (by omega)) b3
    · rw [hc 54 (by decide), b1 54 (by decide)]; exact hz s a b
  have lam : ∀ n t s, 0 ≤ s → s < h (h 1 4) 0 → lamW h1 47 34 n t s = lamR (fun s d => amp (dC h (h 1 4)) 0 (h (h 1 4 + 9) 12) 0 (-1) s d) (fun i => h 37 i) (h 34 5) n t s := fun n t s s0 s1 => by
    rw [lamW_R b2 s0 (by rw [eg]; exact s1) (by omega), e34, e37]
    unfold lamR
    refine sg_cong (fun d _ => ?_)
    dsimp only
    rw [amp_cong eD]
  refine bX11_round_24 (k0 := fun q => ?_) (k1 := fun q => ?_) (k2 := fun q => ?_) (kd := fun q => ?_)
  · refine bX11_round_52 (hS := by rw [e14]; exact c_clashes (by omega) iG (Or.inl rfl) rfl b2.1 hrng (by rw [e34]; exact hr.1.1) (by rw [e34]; have := hr.1.2; omega) hr1 (by rw [eg]; exact d0) (by rw [eg]; exact d4)) (kk := ?_)
    rintro x h2 ⟨hc, hx⟩
    obtain ⟨z1, z2, z3⟩ := zz h2 hc
    refine bX11_round_78 (hq := ⟨rfl, Or.inl ⟨_, rfl, by omega, Or.inl ⟨q, ?_⟩, z1, z2, z3⟩⟩)
    rw [hx, eg, eg3, e34]
    exact clashN_cong (fun t s _ _ a b => lam _ _ _ a b) (fun _ _ _ => rfl)
  · refine bX11_round_79 (hS := by rw [e14]; exact c_rests (by omega) iG (Or.inl rfl) rfl b2.1 hrng hr1 (by rw [eg]; exact d0) (by rw [eg]; exact d4)) (kk := ?_)
    rintro x h2 ⟨hc, hx⟩
    obtain ⟨z1, z2, z3⟩ := zz h2 hc
    refine bX11_round_98 (hq := ⟨rfl, Or.inl ⟨_, rfl, by omega, Or.inr (Or.inl ⟨q, ?_⟩), z1, z2, z3⟩⟩)
    have e : ∀ y, clashN (lamW h1 47 34 (h1 34 5 + y)) (h1 (h 1 4) 0) (h1 (h 1 4) 4) (fun s => h1 (h 1 4 + 3) s) (h1 34 5 + y).toNat = clashN (lamR (fun s d => amp (dC h (h 1 4)) 0 (h (h 1 4 + 9) 12) 0 (-1) s d) (fun i => h 37 i) (h 34 5) (h 34 5 + y)) (h (h 1 4) 0) (h (h 1 4) 4) (fun s => h (h 1 4 + 3) s) (h 34 5 + y).toNat := fun y => by
      rw [eg, eg3, e34]
      exact clashN_cong (fun t s _ _ a b => lam _ _ _ a b) (fun _ _ _ => rfl)
    simp only [e] at hx
    exact hx
  · obtain ⟨z1, z2, z3⟩ := zz h1 (fun _ _ => rfl)
    exact bX11_round_99 (hq := ⟨rfl, Or.inl ⟨_, rfl, by omega, Or.inr (Or.inr ⟨q, by rw [e34]⟩), z1, z2, z3⟩⟩)
  · obtain ⟨z1, z2, z3⟩ := zz h1 (fun _ _ => rfl)
    exact bX11_round_107 (hq := ⟨rfl, Or.inr ⟨_, rfl, rfl, by omega, z1, z2, z3⟩⟩)
