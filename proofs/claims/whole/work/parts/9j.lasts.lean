/-! ===== the class: changesShares, searchFog, thickestFog, lasts ===== -/
theorem sg_hit {f : Nat → Int} (hf : ∀ i, 0 ≤ f i) : ∀ {n : Nat}, 0 < sg f n → ∃ i, i < n ∧ 0 < f i
  | 0, h => by have : sg f 0 = 0 := rfl; omega
  | n + 1, h => by
    by_cases c : 0 < f n
    · exact ⟨n, by omega, c⟩
    · have e : sg f (n + 1) = sg f n + f n := rfl
      obtain ⟨i, a, b⟩ := sg_hit hf (n := n) (by omega)
      exact ⟨i, by omega, b⟩
theorem sg_ge {f : Nat → Int} (hf : ∀ i, 0 ≤ f i) : ∀ {n i : Nat}, i < n → f i ≤ sg f n
  | 0, i, h => by omega
  | n + 1, i, h => by
    have e : sg f (n + 1) = sg f n + f n := rfl
    by_cases c : i = n
    · have := sg_mono hf (a := 0) (b := n) (by omega)
      have e0 : sg f 0 = 0 := rfl
      rw [c]; omega
    · have := sg_ge hf (n := n) (i := i) (by omega)
      have := hf n
      omega
theorem inC_pos {P : Int → Int → Prop} {f i : Nat} : 0 < inC P f i ↔ P f i := by
  unfold inC
  by_cases c : P f i
  · rw [if_pos (cl_pos c)]; exact ⟨fun _ => c, fun _ => by decide⟩
  · rw [if_neg (by rw [cl_neg c]; decide)]; exact ⟨fun w => by omega, fun w => absurd w c⟩
theorem psum_pos {D : DT} {P : Int → Int → Prop} {f i : Nat} : 0 < psum D (inC P) f i ↔ ∃ g j : Nat, bef D f i g j ∧ P g j := by
  have n1 : ∀ g k, 0 ≤ sg (inC P g) k := fun g k => by
    have := sg_mono (F := inC P g) (fun j => (inC_rng P g j).1) (a := 0) (b := k) (by omega)
    have e0 : sg (inC P g) 0 = 0 := rfl
    omega
  have n2 : 0 ≤ sg (fun g => sg (inC P g) (linesD D g).toNat) f := by
    have := sg_mono (F := fun g => sg (inC P g) (linesD D g).toNat) (fun g => n1 g _) (a := 0) (b := f) (by omega)
    have e0 : sg (fun g => sg (inC P g) (linesD D g).toNat) 0 = 0 := rfl
    omega
  unfold psum
  constructor
  · intro h
    by_cases c : 0 < sg (inC P f) i
    · obtain ⟨j, a, b⟩ := sg_hit (fun j => (inC_rng P f j).1) c
      exact ⟨f, j, Or.inr ⟨rfl, a⟩, inC_pos.mp b⟩
    · obtain ⟨g, a, b⟩ := sg_hit (f := fun g => sg (inC P g) (linesD D g).toNat) (fun g => n1 g _) (n := f) (by have := n1 f i; omega)
      obtain ⟨j, c, d⟩ := sg_hit (fun j => (inC_rng P g j).1) b
      exact ⟨g, j, Or.inl ⟨a, by omega⟩, inC_pos.mp d⟩
  · rintro ⟨g, j, b, p⟩
    have p' := inC_pos.mpr p
    rcases b with ⟨a, b⟩ | ⟨rfl, b⟩
    · have u := sg_ge (f := inC P g) (fun j => (inC_rng P g j).1) (n := (linesD D g).toNat) (i := j) (by omega)
      have v := sg_ge (f := fun g => sg (inC P g) (linesD D g).toNat) (fun g => n1 g _) a
      have w := n1 f i
      omega
    · have u := sg_ge (f := inC P g) (fun j => (inC_rng P g j).1) b
      omega
/-- nothing is heard behind what is said: no line answers -/
theorem no_ans {D : DT} {A : Int → Int → Int} {f i : Int} (hd : okD D) (hq : ∀ (S : Int → Int) (n t s : Int), 0 ≤ n → n ≤ t → 0 ≤ s → s < D 0 0 → lamT A S n t s < D 0 4) : ¬ Ans D A f i := by
  rintro ⟨W, S, B, n, ⟨hW, hS, hr⟩, g, a, b⟩
  have p0 : 0 ≤ preW D W (D 13 f).toNat := by
    unfold preW
    by_cases e : (D 13 f).toNat = 0
    · rw [e]; exact Int.le_refl _
    have := sg_rng (f := fun i : Nat => D 11 (W i)) (B := 4) (n := (D 13 f).toNat) (fun k hk => by
      have q := (hW k (by omega) (by omega)).1
      have := (hd.2.2.2.2.2.2.2.2.2.2.2.2.2.1 _ q.1 q.2).2.1
      omega)
    exact this.1
  have n0 : n = 0 := by
    rw [hr.1]
    unfold cH
    refine sg_zero (fun u hu => ?_)
    refine if_neg (fun zz => ?_)
    obtain ⟨z1, z2⟩ := of_decide_eq_true zz
    rcases hearF_is (lamT A S (preW D W (D 13 f).toNat)) (D 0 0) (D 0 4) (D 0 5) (D 0 6) u with z | ⟨z, -⟩
    · have := hq S _ u _ p0 z1 z.1.1.1 z.1.1.2
      have := z.2.1
      omega
    · exact z2 z
  have L := (hd.2.2.2.2.2.2.2.2.2.2.2.2.2.2 g a.1 a.2).1
  have := reachL.rng hd b.len
  omega
theorem quiet_fog {D : DT} {ai : Int} (hd : okD D) (S : Int → Int) (n t s : Int) (n0 : 0 ≤ n) (nt : n ≤ t) : lamT (ampA D ai 100 (-1)) S n t s < D 0 4 := by
  have z : lamT (ampA D ai 100 (-1)) S n t s = 0 := by
    refine sg_zero (fun k hk => ?_)
    split
    · show amp D 0 ai 100 (-1) s (t - k) = 0
      unfold amp
      rw [if_neg (by rw [hd.2.2.2.2.2.2.2.2.2.2.2.1]; omega), sg_zero]
      · rfl
      intro w hw
      unfold ampW
      split
      · rfl
      refine sg_zero (fun m _ => ?_)
      unfold ampN
      split
      · have f0 : foggy D 100 w = 0 := by unfold foggy; rw [show (100 : Int) - 100 = 0 by decide, Int.mul_zero]; rfl
        rw [f0, vol, Int.mul_zero, show (0 : Int) / 100 = 0 by decide, Int.zero_mul]
        rfl
      · rfl
    · rfl
  have := hd.2.2.2.2.1
  omega
theorem quiet_sum {h : AH} {o s t n : Int} {S : Int → Int} (hl : ∀ i s, 0 ≤ i → i < h o 2 → 0 ≤ s → s < 8 → 0 ≤ h (o + 2) (i * 8 + s) ∧ h (o + 2) (i * 8 + s) ≤ 1881) (s0 : 0 ≤ s) (s8 : s < 8) (n0 : 0 ≤ n) (nt : n ≤ t) : lamT (fun s d => tab h o d s) S n t s ≤ sg (laterF h o s) (h o 2).toNat := by
  have e : lamT (fun s d => tab h o d s) S n t s = sg (fun i : Nat => if (0 ≤ t - h (o + 1) i ∧ t - h (o + 1) i < n.toNat) ∧ decide (s = S ((t - h (o + 1) i).toNat : Nat)) = true then h (o + 2) ((i : Int) * 8 + s) else 0) (h o 2).toNat := by
    show sg (fun k : Nat => if s = S k then tab h o (t - k) s else 0) n.toNat = _
    rw [sg_cong (g := fun k : Nat => sg (fun i : Nat => if decide (s = S k) = true ∧ (k : Int) = t - h (o + 1) i then h (o + 2) ((i : Int) * 8 + s) else 0) (h o 2).toNat), sg_swap]
    · exact sg_cong (fun i _ => sg_pick (p := fun k : Nat => decide (s = S k)))
    · intro k hk
      by_cases c : s = S k
      · rw [if_pos c]
        refine sg_cong (fun i _ => ?_)
        by_cases d : h (o + 1) i = t - k
        · rw [if_pos d, if_pos ⟨decide_eq_true c, by omega⟩]
        · rw [if_neg d, if_neg (fun w => by omega)]
      · rw [if_neg c, sg_zero]
        intro i _
        rw [if_neg (fun w => c (of_decide_eq_true w.1))]
  rw [e]
  refine sg_le (fun i hi => ?_)
  have v := hl i s (by omega) (by omega) s0 s8
  unfold laterF
  by_cases c : (0 ≤ t - h (o + 1) i ∧ t - h (o + 1) i < n.toNat) ∧ decide (s = S ((t - h (o + 1) i).toNat : Nat)) = true
  · rw [if_pos c, if_pos (by omega)]; exact Int.le_refl _
  · rw [if_neg c]; split <;> omega
theorem quiet_reach {h : AH} {g ai fog gone : Int} {D : DT} (hd : okD D) (he : eqD D (dC h g)) (hv : valid h 47 g 0 ai fog gone) (hfog : 0 ≤ fog ∧ fog ≤ 100) (hai : 0 ≤ ai ∧ ai ≤ 100) (hc : ¬ canR h 47 (D 0 4)) (S : Int → Int) (n t s : Int) (n0 : 0 ≤ n) (nt : n ≤ t) (s0 : 0 ≤ s) (s1 : s < D 0 0) : lamT (ampA D ai fog gone) S n t s < D 0 4 := by
  have d8 := hd.1
  have e0 : h g 0 = D 0 0 := by rw [← dC0 h g, he 0 (by decide) (by decide)]
  have e : lamT (ampA D ai fog gone) S n t s = lamT (fun s d => tab h 47 d s) S n t s := by
    refine sg_cong (fun k hk => ?_)
    dsimp only
    by_cases c : s = S k
    · rw [if_pos c, if_pos c, hv.2 _ s s0 (by omega), if_pos (by omega), amp_cong he]
    · rw [if_neg c, if_neg c]
  have b := quiet_sum (t := t) (n := n) (S := S) (valid_rng hv (okD_cong he hd) hfog.1 hfog.2 hai.1 hai.2) s0 (by omega) n0 nt
  have c : ¬ D 0 4 ≤ sg (laterF h 47 s) (h 47 2).toNat := fun w => hc ⟨s, s0, by omega, w⟩
  omega
theorem amp_fog {D : DT} {ai a b gone : Int} (e : ∀ w : Nat, w < (D 0 1).toNat → foggy D a w = foggy D b w) : ampA D ai a gone = ampA D ai b gone := by
  funext s d
  show amp D 0 ai a gone s d = amp D 0 ai b gone s d
  unfold amp
  congr 1
  refine sg_cong (fun w hw => ?_)
  unfold ampW
  split
  · rfl
  · refine sg_cong (fun n _ => ?_)
    unfold ampN
    rw [e w hw]
theorem c_changesShares {fr : Nat} {g fog : Int} {D : DT} {h : AH} (hf : 1 ≤ fr) (hv : vst h g D) (f0 : 0 ≤ fog) (f1 : fog < 100) :
    Sp mX10_changesShares true fr 0 0 [zR 55, zI fog] 137 h (rI (fun x h' => h' = h ∧ ((x = 1) ∨ (x = 0 ∧ ∀ w : Nat, w < (D 0 1).toNat → foggy D fog w = foggy D (fog + 1) w)))) := by
  refine Sp.mk yX10_changesShares_ok rfl rfl ?_
  have he := hv.eq
  have hok := hv.ok
  obtain ⟨⟨hg, h0⟩, heg, hd, -⟩ := id hv
  have cg : cel 137 (h 55 0) (2, 21) := by rw [h0]; exact hg.cel
  have ig : isG (h 55 0) := by rw [h0]; exact hg
  have eW : h (h 55 0) 1 = D 0 1 := by rw [← dV0 h, he 0 (by decide) (by decide)]
  have nW := hd.2.1
  have efg : ∀ (v : Int) (w : Nat), foggy (dC h (h 55 0)) v w = foggy D v w := fun v w => by unfold foggy; rw [show dC h (h 55 0) 5 = D 5 from he 5 (by decide) (by decide)]
  refine bX10_changesShares_0 (kk := ?_)
  suffices H : ∀ (d w : Nat), (w : Int) + d = D 0 1 → (∀ v : Nat, v < w → foggy D fog v = foggy D (fog + 1) v) → Wp mX10_changesShares (kR fr 0 0) (rI (fun x h' => h' = h ∧ ((x = 1) ∨ (x = 0 ∧ ∀ w : Nat, w < (D 0 1).toNat → foggy D fog w = foggy D (fog + 1) w)))) (0, 0) 2 [zR 55, zI fog, zI w] [] 137 h by
    exact H (D 0 1).toNat 0 (by omega) (fun v hv => by omega)
  intro d
  induction d with
  | zero =>
    intro w hw ha
    refine bX10_changesShares_2 (r2 := by rw [eW]; omega) (kt := fun _ => ?_) (kf := fun q => by rw [eW] at q; omega)
    exact bX10_changesShares_44 (hq := ⟨_, rfl, rfl, rfl, Or.inr ⟨rfl, fun v hv => ha v (by omega)⟩⟩)
  | succ d ih =>
    intro w hw ha
    have w1 : (w : Int) < h (h 55 0) 1 := by rw [eW]; omega
    refine bX10_changesShares_2 (r2 := by rw [eW]; omega) (kt := fun q => by omega) (kf := fun _ => ?_)
    have w1' : (w : Int) < dC h (h 55 0) 0 1 := by rw [dC0]; exact w1
    have w5 : 0 ≤ h (h 55 0 + 5) w ∧ h (h 55 0 + 5) w ≤ 100 := (hok.2.2.2.2.2.2.2.2.2.1 w (by omega) w1').2.1
    have g1 := (foggy_rng (fog := fog) hok (w := (w : Int)) (by omega) w1' f0 (by omega)).2
    have g2 := (foggy_rng (fog := fog + 1) hok (w := (w : Int)) (by omega) w1' (by omega) (by omega)).2
    refine bX10_changesShares_13 (hS := c_fogged cg (by omega) w5 (by omega)) (kk := ?_)
    rintro x h1 ⟨e1, hx⟩
    rw [e1]; clear e1 h1
    refine bX10_changesShares_22 (hS := c_fogged cg (by omega) w5 (by omega)) (kk := ?_)
    rintro y h1 ⟨e1, hy⟩
    rw [e1]; clear e1 h1
    have hx' : 0 ≤ x ∧ x ≤ 100 := by rw [hx]; exact g1
    have hy' : 0 ≤ y ∧ y ≤ 100 := by rw [hy]; exact g2
    refine bX10_changesShares_33 (kt := fun q => ?_) (kf := fun q => ?_)
    · refine bX10_changesShares_38 (kk := ?_)
      rw [show (w : Int) + 1 = ((w + 1 : Nat) : Int) by omega]
      refine ih (w + 1) (by omega) (fun v hv => ?_)
      by_cases e : v = w
      · rw [e, ← efg, ← efg, ← hx, ← hy, q]
      · exact ha v (by omega)
    · exact bX10_changesShares_36 (hq := ⟨_, rfl, rfl, rfl, Or.inl rfl⟩)
def ansFog (D : DT) (ai fog : Int) : Prop := ∃ g j : Nat, bef D (D 0 3).toNat 0 g j ∧ Ans D (ampA D ai 0 (-1)) g j ∧ Ans D (ampA D ai fog (-1)) g j
theorem LasR.one {D : DT} {ai x y : Int} (h1 : LasR D ai x) (h2 : LasR D ai y) : x = y := by
  obtain ⟨a, b, c⟩ := h1
  obtain ⟨d, e, f⟩ := h2
  rcases Int.lt_trichotomy x y with z | z | z
  · exact absurd e (c y z d.2)
  · exact z
  · exact absurd b (f x z a.2)
def kpF (h h' : AH) : Prop := (∀ c, (c < 47 ∨ 55 < c) → (c < 76 ∨ 79 < c) → h' c = h c) ∧ ∀ j, j ≠ 12 → j ≠ 14 → h' 55 j = h 55 j
theorem c_searchFog {fr : Nat} {l g : Int} {D : DT} {h : AH} (hf : 10 ≤ fr) (hv : vst h g D) (hs : survd D l h) (l0 : 0 ≤ l) (l1 : l < 24) (hk : retOk h 47 g) (hz : sumZ h) (hA : ansFog D (D 9 l) 0) :
    Sp mX10_searchFog true fr 0 0 [zR 55, zI l, zR 51, zR 47] 137 h (rI (fun x h' => (kpF h h' ∧ sumZ h' ∧ vst h' g D ∧ retOk h' 47 g) ∧ LasR D (D 9 l) x)) := by
  refine Sp.mk yX10_searchFog_ok rfl rfl ?_
  have hd := hv.2.2.1
  have hg := hv.1.1
  have ai := hd.2.2.2.2.2.2.2.2.2.2.2.2.1 l l0 l1
  have gc := gcells hg
  refine bX10_searchFog_0 (kk := ?_)
  suffices H : ∀ (d : Nat) (h1 : AH), d ≤ 99 → (kpF h h1 ∧ sumZ h1 ∧ vst h1 g D ∧ retOk h1 47 g) → (∀ v, (d : Int) < v → v ≤ 100 → ¬ ansFog D (D 9 l) v) → Wp mX10_searchFog (kR fr 0 0) (rI (fun x h' => (kpF h h' ∧ sumZ h' ∧ vst h' g D ∧ retOk h' 47 g) ∧ LasR D (D 9 l) x)) (0, 0) 4 [zR 55, zI l, zR 51, zR 47, zI d] [] 137 h1 by
    refine H 99 h (by omega) ⟨⟨fun _ _ _ => rfl, fun _ _ _ => rfl⟩, hz, hv, hk⟩ (fun v a b => ?_)
    have : v = 100 := by omega
    rw [this]
    rintro ⟨g', j, -, -, z⟩
    exact no_ans hd (fun S n t s a b _ _ => quiet_fog hd S n t s a b) z
  intro d
  induction d with
  | zero =>
    intro h1 hd9 k1 hno
    refine bX10_searchFog_4 (kt := fun _ => ?_) (kf := fun q => by omega)
    exact bX10_searchFog_73 (hq := ⟨_, rfl, rfl, k1, by decide, hA, fun v a b => hno v (by omega) b⟩)
  | succ d ih =>
    intro h1 hd9 k1 hno
    obtain ⟨kp, z1, v1, r1⟩ := id k1
    have h0 : h1 55 0 = g := v1.1.2
    have q9 : h1 (h1 55 0 + 9) l = D 9 l := congrFun (v1.eq 9 (by decide) (by decide)) l
    have q4 : h1 (h1 55 0) 4 = D 0 4 := by rw [← dV0 h1, v1.eq 0 (by decide) (by decide)]
    have next : ∀ h2 : AH, (kpF h h2 ∧ sumZ h2 ∧ vst h2 g D ∧ retOk h2 47 g) → ¬ ansFog D (D 9 l) ((d + 1 : Nat) : Int) → Wp mX10_searchFog (kR fr 0 0) (rI (fun x h' => (kpF h h' ∧ sumZ h' ∧ vst h' g D ∧ retOk h' 47 g) ∧ LasR D (D 9 l) x)) (0, 0) 67 [zR 55, zI l, zR 51, zR 47, zI ((d + 1 : Nat) : Int)] [] 137 h2 := fun h2 k2 no => by
      refine bX10_searchFog_67 (kk := ?_)
      rw [show ((d + 1 : Nat) : Int) + -1 = (d : Int) by omega]
      refine ih h2 (by omega) k2 (fun v a b => ?_)
      by_cases e : v = ((d + 1 : Nat) : Int)
      · rw [e]; exact no
      · exact hno v (by omega) b
    refine bX10_searchFog_4 (kt := fun q => by omega) (kf := fun _ => ?_)
    refine bX10_searchFog_9 (hS := c_changesShares (by omega) v1 (by omega) (by omega)) (kk := ?_)
    rintro x h2 ⟨e2, hx⟩
    rw [e2]; clear e2 h2
    refine bX10_searchFog_15 (r1 := by rcases hx with z | z <;> omega) (kt := fun q => ?_) (kf := fun q => ?_)
    · rcases hx with z | ⟨-, z⟩
      · omega
      refine next h1 k1 ?_
      have := hno (((d + 1 : Nat) : Int) + 1) (by omega) (by omega)
      unfold ansFog at this ⊢
      rw [amp_fog z]
      exact this
    clear hx q
    refine bX10_searchFog_18 (c1 := by rw [h0]; exact hg.cel) (c2 := e47) (hS := by rw [h0]; exact c_build (by omega) (Or.inl rfl) hg (okD_cong v1.2.1 hd) r1 (by decide) (by rw [← h0, q9]; exact ai) (by omega) (by decide)) (kk := ?_)
    rintro h2 ⟨b1, b2, b3⟩
    rw [← h0, q9, h0] at b2
    have v2 : vst h2 g D := v1.keep (fun c a b => b1 c (by omega)) (fun j _ _ => by rw [b1 55 (by decide)]) (by rw [b1 78 (by decide)]; exact v1.2.2.2.2.1) (by rw [b1 75 (by decide)]; exact v1.2.2.2.2.2)
    have sZ2 : sumZ h2 := fun s a b => by rw [b1 54 (by decide)]; exact z1 s a b
    have kp2 : kpF h h2 := ⟨fun c a b => by rw [b1 c (by omega), kp.1 c a b], fun j a b => by rw [b1 55 (by decide), kp.2 j a b]⟩
    have g2 : h2 55 0 = g := v2.1.2
    have q42 : h2 (h2 55 0) 4 = D 0 4 := by rw [← dV0 h2, v2.eq 0 (by decide) (by decide)]
    have d4 := hd.2.2.2.2.1
    refine bX10_searchFog_39 (c1 := by rw [g2]; exact hg.cel) (c2 := e47) (hS := c_canReach (Or.inl rfl) b2.1 (by rw [q42]; constructor <;> omega) (valid_rng b2 (okD_cong v2.2.1 hd) (by omega) (by omega) ai.1 ai.2)) (kk := ?_)
    rintro x h3 ⟨e3, hx⟩
    rw [e3]; clear e3 h3
    rw [q42] at hx
    refine bX10_searchFog_50 (r1 := by rcases hx with z | z <;> omega) (kt := fun q => ?_) (kf := fun q => ?_)
    · rcases hx with ⟨z, -⟩ | ⟨-, z⟩
      · omega
      refine next h2 ⟨kp2, sZ2, v2, b3⟩ ?_
      rintro ⟨g', j, -, -, w⟩
      exact no_ans hd (fun S n t s a b c e => quiet_reach hd v2.2.1 b2 (by omega) ai z S n t s a b c e) w
    clear hx q
    have sd2 : survd D l h2 := hs.same (fun j _ _ => by rw [kp2.1 74 (by decide) (by decide)]) (fun i _ _ => by rw [kp2.1 75 (by decide) (by decide)])
    refine bX10_searchFog_53 (hS := c_countStill (by omega) v2 sd2 l0 l1 b2 (by omega) ai sZ2 (by decide) (by decide)) (kk := ?_)
    rintro x h3 ⟨⟨k3, z3, v3⟩, hx⟩
    have k3' : kpF h h3 ∧ sumZ h3 ∧ vst h3 g D ∧ retOk h3 47 g := by
      refine ⟨⟨fun c a b => by rw [k3.1 c (by omega) b, kp2.1 c a b], fun j a b => by rw [k3.2 j a b, kp2.2 j a b]⟩, z3, v3, ?_⟩
      exact retOk_same (k3.1 _ (by decide) (by decide)) (k3.1 _ (by decide) (by decide)) (k3.1 _ (by decide) (by decide)) (k3.1 _ (by omega) (by omega)) (fun k a b => by have := gc.2 k a b; exact k3.1 (g + k) (by omega) (by omega)) b3
    have pp := psum_pos (D := D) (P := fun f i => Ans D (ampA D (D 9 l) 0 (-1)) f i ∧ Ans D (ampA D (D 9 l) ((d + 1 : Nat) : Int) (-1)) f i) (f := (D 0 3).toNat) (i := 0)
    have pn := psum_mono (D := D) (fun f i => Ans D (ampA D (D 9 l) 0 (-1)) f i ∧ Ans D (ampA D (D 9 l) ((d + 1 : Nat) : Int) (-1)) f i) (D 0 3).toNat (Nat.le_refl 0)
    have nn : 0 ≤ psum D (inC (fun f i => Ans D (ampA D (D 9 l) 0 (-1)) f i ∧ Ans D (ampA D (D 9 l) ((d + 1 : Nat) : Int) (-1)) f i)) (D 0 3).toNat 0 := by
      have := sg_mono (F := fun g => sg (inC (fun f i => Ans D (ampA D (D 9 l) 0 (-1)) f i ∧ Ans D (ampA D (D 9 l) ((d + 1 : Nat) : Int) (-1)) f i) g) (linesD D g).toNat) (fun g => by
        have := sg_mono (F := inC (fun f i => Ans D (ampA D (D 9 l) 0 (-1)) f i ∧ Ans D (ampA D (D 9 l) ((d + 1 : Nat) : Int) (-1)) f i) g) (fun j => (inC_rng _ g j).1) (a := 0) (b := (linesD D g).toNat) (by omega)
        exact this) (a := 0) (b := (D 0 3).toNat) (by omega)
      unfold psum
      show 0 ≤ _ + (0 : Int)
      rw [Int.add_zero]
      exact this
    refine bX10_searchFog_61 (kt := fun q => ?_) (kf := fun q => ?_)
    · refine next h3 k3' ?_
      intro w
      have : 0 < psum D (inC (fun f i => Ans D (ampA D (D 9 l) 0 (-1)) f i ∧ Ans D (ampA D (D 9 l) ((d + 1 : Nat) : Int) (-1)) f i)) (D 0 3).toNat 0 := pp.mpr w
      omega
    · refine bX10_searchFog_64 (hq := ⟨_, rfl, rfl, k3', ⟨by omega, by omega⟩, pp.mp (by omega), fun v a b => hno v a b⟩)
def lastsR (D : DT) (ai x : Int) : Prop := (x = -1 ∧ ¬ ansFog D ai 0) ∨ LasR D ai x
theorem lastsR.one {D : DT} {ai x y : Int} (h1 : lastsR D ai x) (h2 : lastsR D ai y) : x = y := by
  have z : ∀ v, LasR D ai v → ansFog D ai 0 := fun v ⟨_, ⟨g, j, a, b, _⟩, _⟩ => ⟨g, j, a, b, b⟩
  rcases h1 with ⟨a, b⟩ | a <;> rcases h2 with ⟨c, d⟩ | c
  · rw [a, c]
  · exact absurd (z _ c) b
  · exact absurd (z _ a) d
  · exact a.one c
theorem c_thickestFog {fr : Nat} {l g : Int} {D : DT} {h : AH} (hf : 12 ≤ fr) (hv : vst h g D) (hs : survd D l h) (hfg : figs D h) (l0 : 0 ≤ l) (l1 : l < 24) (hk : retOk h 47 g) (hz : sumZ h) :
    Sp mX10_thickestFog true fr 0 0 [zR 55, zI l, zR 51, zR 47] 137 h (rI (fun x h' => keptV D g h h' ∧ lastsR D (D 9 l) x)) := by
  refine Sp.mk yX10_thickestFog_ok rfl rfl ?_
  have hd := hv.2.2.1
  have hg := hv.1.1
  have nF := hd.2.2.2.1
  have e0 : h 74 (l * 6 + 0) = psum D (inC (Ans D (ampA D (D 9 l) 0 (-1)))) (D 0 3).toNat 0 := hs.1.1
  have pp := psum_pos (D := D) (P := Ans D (ampA D (D 9 l) 0 (-1))) (f := (D 0 3).toNat) (i := 0)
  have pa := psum_all (Ans D (ampA D (D 9 l) 0 (-1))) hd
  have pn := preN_nn hd (n := (D 0 3).toNat) (by omega)
  have aP : allD D = preN D (D 0 3).toNat := rfl
  have nn : 0 ≤ psum D (inC (Ans D (ampA D (D 9 l) 0 (-1)))) (D 0 3).toNat 0 := by
    have := sg_mono (F := fun g => sg (inC (Ans D (ampA D (D 9 l) 0 (-1))) g) (linesD D g).toNat) (fun g => by
      have := sg_mono (F := inC (Ans D (ampA D (D 9 l) 0 (-1))) g) (fun j => (inC_rng _ g j).1) (a := 0) (b := (linesD D g).toNat) (by omega)
      exact this) (a := 0) (b := (D 0 3).toNat) (by omega)
    unfold psum
    show 0 ≤ _ + (0 : Int)
    rw [Int.add_zero]
    exact this
  have same : keptV D g h h := ⟨⟨⟨fun _ _ _ => rfl, fun _ _ _ => rfl⟩, hz, hv, hk⟩, hfg⟩
  have fl := hfg l l0 l1
  have hA : 0 < h 74 (l * 6 + 0) → ansFog D (D 9 l) 0 := fun q => by
    obtain ⟨g', j, a, b⟩ := pp.mp (by omega)
    exact ⟨g', j, a, b, b⟩
  have r5 : h 74 (l * 6 + 5) = -2 ∨ LasR D (D 9 l) (h 74 (l * 6 + 5)) := by
    rcases fl with ⟨-, a⟩ | ⟨-, a⟩
    · exact Or.inl a
    · exact a
  have r5' : -2 ≤ h 74 (l * 6 + 5) ∧ h 74 (l * 6 + 5) ≤ 100 := by
    rcases r5 with a | a
    · omega
    · have := a.1; omega
  refine bX10_thickestFog_0 (kt := fun q => ?_) (kf := fun q => ?_)
  rotate_left
  · refine bX10_thickestFog_18 (hq := ⟨_, rfl, rfl, same, Or.inl ⟨rfl, ?_⟩⟩)
    rintro ⟨g', j, a, b, -⟩
    have := pp.mpr ⟨g', j, a, b⟩
    omega
  refine bX10_thickestFog_20 (kt := fun w => ?_) (kf := fun w => ?_)
  · rcases r5 with a | a
    · exact absurd a w
    exact bX10_thickestFog_50 (hq := ⟨_, rfl, rfl, same, Or.inr a⟩)
  refine bX10_thickestFog_34 (hS := c_searchFog (by omega) hv hs l0 l1 hk hz (hA (by omega))) (kk := ?_)
  rintro x h1 ⟨⟨k1, z1, v1, b1⟩, hx⟩
  refine bX10_thickestFog_49 (c1 := e74) (kk := bX10_thickestFog_50 (hq := ?_))
  have gc := gcells hg
  refine ⟨_, rfl, rfl, ⟨⟨⟨fun c a b => by rw [up_n (by omega), k1.1 c a (by omega)], fun j a b => by rw [up_n (by decide), k1.2 j a b]⟩, fun s a b => by rw [up_n (by decide)]; exact z1 s a b, ?_, ?_⟩, ?_⟩, Or.inr (by rw [up_ci]; exact hx)⟩
  · exact v1.keep (fun c a b => up_n (by omega)) (fun j _ _ => by rw [up_n (by decide)]) (by rw [up_n (by decide)]; exact v1.2.2.2.2.1) (by rw [up_n (by decide)]; exact v1.2.2.2.2.2)
  · exact retOk_same (up_n (by decide)) (up_n (by decide)) (up_n (by decide)) (up_n (by omega)) (fun k a b => by have := gc.2 k a b; exact up_n (by omega)) b1
  · intro m m0 m1
    have e74 : ∀ i, i ≠ l * 6 + 5 → up h1 74 (l * 6 + 5) x 74 i = h 74 i := fun i hi => by rw [up_cn hi, k1.1 74 (by decide) (by decide)]
    have e75 : up h1 74 (l * 6 + 5) x 75 = h 75 := by rw [up_n (by decide), k1.1 75 (by decide) (by decide)]
    by_cases e : m = l
    · rw [e]
      refine Or.inr ⟨hs.same (fun k a b => e74 _ (by omega)) (fun i _ _ => by rw [e75]), Or.inr ?_⟩
      rw [up_ci]; exact hx
    · exact (hfg m m0 m1).same (fun k a b => e74 _ (by omega)) (fun i _ _ => by rw [e75])
theorem c_lastsV {fr : Nat} {o g : Int} {D : DT} {h : AH} (hf : 30 ≤ fr) (ro : R32 o) (hv : vst h g D) (hkk : retOk h 47 g) (hz : sumZ h) (hfg : figs D h) :
    Sp mX11_lasts true fr 8 48 [zR 1, zI o] 137 h (rIx (fun x h' => (0 ≤ o ∧ o < 24) ∧ lastsR D (D 9 o) x ∧ keptV D g h h') (fun E h' => h' = h ∧ E = NSE ∧ ¬ (0 ≤ o ∧ o < 24))) := by
  refine Sp.mk yX11_lasts_ok rfl rfl ?_
  refine bX11_lasts_0 (hS := c_needHour (by omega) ro) (kk := ?_) (kx := ?_)
  rotate_left
  · rintro E h' ⟨rfl, rfl, z⟩
    exact ⟨rfl, Or.inr ⟨_, rfl, rfl, rfl, fun w => by omega⟩⟩
  rintro h' ⟨e', o0, o1⟩
  rw [e']; clear e' h'
  refine bX11_lasts_5 (hS := c_survey (by omega) hv hkk hz hfg o0 o1) (kk := ?_)
  rintro l h1 ⟨⟨lr, ea⟩, kq, fg1, sd⟩
  refine bX11_lasts_25 (hS := c_thickestFog (by omega) kq.2.2.1 sd fg1 lr.1 lr.2 kq.2.2.2 kq.2.1) (kk := ?_)
  rintro x h2 ⟨⟨⟨k2, r2⟩, f2⟩, hx⟩
  rw [ea] at hx
  exact bX11_lasts_36 (hq := ⟨rfl, Or.inl ⟨_, rfl, ⟨o0, o1⟩, hx, ⟨⟨⟨fun c a b => by rw [k2.1 c a b, kq.1.1 c a b], fun j a b => by rw [k2.2 j a b, kq.1.2 j a b]⟩, r2⟩, f2⟩⟩⟩)
