/-! ===== the class: a wall's returns; build ===== -/
theorem sg_one {x : Nat} {v : Int} : ∀ {n : Nat}, sg (fun i => if i = x then v else 0) n = if x < n then v else 0
  | 0 => by simp [sg]
  | n + 1 => by
    rw [sg, sg_one (n := n)]
    by_cases e : n = x
    · rw [if_pos e, if_neg (by omega), if_pos (by omega)]; omega
    · rw [if_neg e]
      by_cases e2 : x < n
      · rw [if_pos e2, if_pos (by omega)]; omega
      · rw [if_neg e2, if_neg (by omega)]; rfl
theorem ris_inj {h : AH} {o m i j : Int} (hr : ris h o m) (i0 : 0 ≤ i) (i1 : i < m) (j0 : 0 ≤ j) (j1 : j < m) (e : h (o + 1) i = h (o + 1) j) : i = j := by
  by_cases c1 : i < j
  · have := hr i j i0 c1 j1; omega
  · by_cases c2 : j < i
    · have := hr j i j0 c2 i1; omega
    · omega
/-- one way's row grew -/
theorem tab_grow {h1 h2 : AH} {o x t v s : Int} (hw : ways h1 o) (x0 : 0 ≤ x) (x1 : x < h1 o 2) (hx : h1 (o + 1) x = t) (em : h2 o 2 = h1 o 2) (el : h2 (o + 1) = h1 (o + 1))
    (hv : ∀ i, 0 ≤ i → i < h1 o 2 → h2 (o + 2) (i * 8 + s) = h1 (o + 2) (i * 8 + s) + if i = x then v else 0) (d : Int) : tab h2 o d s = tab h1 o d s + if d = t then v else 0 := by
  unfold tab tabN
  rw [em, el]
  have h3 : sg (fun i : Nat => if i = x.toNat then (if d = t then v else 0) else 0) (h1 o 2).toNat = if d = t then v else 0 := by
    rw [sg_one, if_pos (by omega)]
  rw [← h3, ← sg_add]
  refine sg_cong (fun i hi => ?_)
  rw [hv i (by omega) (by omega)]
  by_cases e : (i : Int) = x
  · rw [if_pos e, if_pos (show i = x.toNat by omega), e, hx]
    by_cases c : t = d
    · rw [if_pos c, if_pos c, if_pos c.symm]
    · rw [if_neg c, if_neg c, if_neg (fun z => c z.symm)]; rfl
  · rw [if_neg e, if_neg (show ¬ i = x.toNat by omega)]
    split <;> omega
theorem dC0 (h : AH) (g i : Int) : dC h g 0 i = h g i := by show h (g + 0) i = _; rw [Int.add_zero]
theorem dC_eq {h h' : AH} {g : Int} (e : ∀ c, g ≤ c → c ≤ g + 14 → h' c = h c) : ∀ k, 0 ≤ k → k ≤ 14 → dC h' g k = dC h g k := fun k a b => e (g + k) (by omega) (by omega)
theorem c_swallows {fr : Nat} {g w s : Int} {h : AH} (hc : cel 137 g (2, 21)) (hw : 0 ≤ w ∧ w < 6) (hs : 0 ≤ s ∧ s < 8) (h2 : 0 ≤ h (g + 2) s ∧ h (g + 2) s ≤ 3) (h6 : 0 ≤ h (g + 6) w ∧ h (g + 6) w < 16) :
    Sp mX2_swallowsSound true fr 0 0 [zR g, zI w, zI s] 137 h (rI (fun x h' => h' = h ∧ x = if bt (h (g + 6) w) (h (g + 2) s).toNat = true then 1 else 0)) := by
  refine Sp.mk yX2_swallowsSound_ok rfl rfl ?_
  have el := bit_look (x := h (g + 6) w) (s := h (g + 2) s) h6.1 h2.1
  have er : -2147483648 ≤ bAnd ((h (g + 6) w) / 2 ^ (h (g + 2) s).toNat) 1 ∧ bAnd ((h (g + 6) w) / 2 ^ (h (g + 2) s).toNat) 1 < 2147483648 := by rw [el]; split <;> decide
  refine bX2_swallowsSound_0 (r5 := er) (kt := fun q => ?_) (kf := fun q => ?_)
  · rw [el] at q
    refine bX2_swallowsSound_22 (kk := bX2_swallowsSound_23 (hq := ⟨_, rfl, rfl, rfl, ?_⟩))
    rw [if_neg (fun z => by rw [if_pos z] at q; omega)]
  · rw [el] at q
    refine bX2_swallowsSound_18 (kk := bX2_swallowsSound_23 (hq := ⟨_, rfl, rfl, rfl, ?_⟩))
    by_cases c : bt (h (g + 6) w) (h (g + 2) s).toNat = true
    · rw [if_pos c]
    · rw [if_neg c] at q; omega
theorem c_fogged {fr : Nat} {g w fog : Int} {h : AH} (hc : cel 137 g (2, 21)) (hw : 0 ≤ w ∧ w < 6) (h5 : 0 ≤ h (g + 5) w ∧ h (g + 5) w ≤ 100) (hf : 0 ≤ fog ∧ fog ≤ 100) :
    Sp mX2_foggedShare true fr 0 0 [zR g, zI w, zI fog] 137 h (rI (fun x h' => h' = h ∧ x = foggy (dC h g) fog w)) := by
  refine Sp.mk yX2_foggedShare_ok rfl rfl ?_
  have := mul_rng (a := h (g + 5) w) (b := 100 - fog) h5.1 h5.2 (by omega) (show 100 - fog ≤ 100 by omega)
  exact bX2_foggedShare_0 (r2 := by omega) (hq := ⟨_, rfl, rfl, rfl, rfl⟩)
def isG (g : Int) : Prop := g = 4 ∨ g = 19 ∨ g = 56
def isO (o : Int) : Prop := o = 47 ∨ o = 84
theorem isG.cel {g : Int} (hg : isG g) : cel 137 g (2, 21) := by rcases hg with rfl | rfl | rfl <;> first | exact e4 | exact e19 | exact e56
theorem isO.cel {o : Int} (ho : isO o) : cel 137 o (7, 9) := by rcases ho with rfl | rfl <;> first | exact e47 | exact e84
/-- n rounds of a wall -/
def walled (h h1 : AH) (o g : Int) (w n : Nat) : Prop := (∀ c, (c < o ∨ o + 3 < c) → h1 c = h c) ∧ (∀ i, i ≠ 2 → h1 o i = h o i) ∧ (h o 2 ≤ h1 o 2 ∧ h1 o 2 ≤ h o 2 + n) ∧ ways h1 o ∧
  ∀ d s, 0 ≤ s → s < 8 → tab h1 o d s = tab h o d s + if s < h g 0 ∧ bt (h (g + 6) w) (h (g + 2) s).toNat = false then sg (ampN (dC h g) (h o 5) (h o 6) (h o 7) s d w) n else 0
theorem tab_same {h h1 : AH} {o : Int} (e0 : h1 o 2 = h o 2) (e1 : h1 (o + 1) = h (o + 1)) (e2 : h1 (o + 2) = h (o + 2)) (d s : Int) : tab h1 o d s = tab h o d s := by
  unfold tab tabN
  rw [e0, e1, e2]
theorem ways_same {h h1 : AH} {o : Int} (e0 : h1 o 2 = h o 2) (e1 : h1 (o + 1) = h (o + 1)) (hw : ways h o) : ways h1 o := by
  unfold ways ris inW at *
  rw [e0, e1]
  exact hw
theorem c_addWall {fr : Nat} {o g : Int} {w : Nat} {h : AH} (hf : 2 ≤ fr) (ho : isO o) (hg : isG g) (hd : okD (dC h g)) (hw : ways h o) (w1 : (w : Int) < h g 1) (hm : h o 2 + 3 ≤ 19) (he : 0 ≤ h o 5 ∧ h o 5 < 3) (ha : 0 ≤ h o 6 ∧ h o 6 ≤ 100) (hg7 : 0 ≤ h o 7 ∧ h o 7 ≤ 100) :
    Sp mX7_addWall true fr 0 0 [zR o, zR g, zI w] 137 h (rV (fun h' => walled h h' o g w (h (g + 7) w).toNat)) := by
  refine Sp.mk yX7_addWall_ok rfl rfl ?_
  have co := ho.cel
  have cg := hg.cel
  have sep : (∀ k, 0 ≤ k → k ≤ 14 → g + k < o ∨ o + 3 < g + k) := by unfold isO isG at *; omega
  have S0 := hd.1
  have W0 := hd.2.1
  have hsnd : ∀ s, 0 ≤ s → s < h g 0 → (1 ≤ h (g + 1) s ∧ h (g + 1) s ≤ 99) ∧ (0 ≤ h (g + 2) s ∧ h (g + 2) s ≤ 3) := fun s a b => hd.2.2.2.2.2.2.2.1 s a (by rw [dC0]; exact b)
  obtain ⟨hdel, h5, h6, h7⟩ := hd.2.2.2.2.2.2.2.2.2.1 w (by omega) (by rw [dC0]; exact w1)
  rw [dC0] at S0 W0
  have hdel := hdel (h o 5) he.1 he.2
  have hfog := foggy_rng (fog := h o 7) hd (show (0 : Int) ≤ w by omega) (by rw [dC0]; exact w1) hg7.1 hg7.2
  have w6 : (w : Int) < 6 := by omega
  have h7' : 1 ≤ h (g + 7) w ∧ h (g + 7) w ≤ 3 := h7
  have h6' : 0 ≤ h (g + 6) w ∧ h (g + 6) w < 16 := h6
  have hdel' : 1 ≤ h (g + 4) (w * 3 + h o 5) ∧ h (g + 4) (w * 3 + h o 5) ≤ 40 := hdel
  refine bX7_addWall_0 (hS := c_fogged cg (by omega) h5 hg7) (kk := ?_)
  rintro sh h1 ⟨eh, hsh⟩
  rw [eh]
  clear eh h1
  refine bX7_addWall_9 (kk := ?_)
  -- the rounds
  suffices H : ∀ (d n : Nat) (h1 : AH), (n : Int) + d = h (g + 7) w → walled h h1 o g w n → (∀ s, 0 ≤ s → s < h g 0 → h1 (o + 3) s = vol (h (g + 1) s) sh n) → Wp mX7_addWall (kR fr 0 0) (rV (fun h' => walled h h' o g w (h (g + 7) w).toNat)) (0, 0) 45 [zR o, zR g, zI w, zI sh, zI (h (g + 4) (w * 3 + h o 5)), zI (n + 1 : Int), none, none] [] 137 h1 by
    have ec : ∀ c, c ≠ o + 3 → cpy h (g + 1) 0 (o + 3) 0 (h g 0) c = h c := fun c hc => by unfold cpy; rw [if_neg hc]
    have := H (h (g + 7) w).toNat 0 (cpy h (g + 1) 0 (o + 3) 0 (h g 0)) (by omega) ⟨fun c hc => ec c (by omega), fun i _ => by rw [ec o (by omega)], by rw [ec o (by omega)]; omega, ways_same (by rw [ec o (by omega)]) (ec _ (by omega)) hw, fun d s a b => by
        rw [tab_same (by rw [ec o (by omega)]) (ec _ (by omega)) (ec _ (by omega))]
        show tab h o d s = tab h o d s + if _ then (0 : Int) else 0
        split <;> omega⟩ (fun s a b => by
          unfold cpy
          rw [if_pos rfl, if_pos (by omega)]
          show h (g + 1) (0 + (s - 0)) = h (g + 1) s
          congr 1
          omega)
    exact this
  intro d
  induction d with
  | zero =>
    intro n h1 hn hW hfad
    have e7 : h1 (g + 7) = h (g + 7) := hW.1 _ (sep 7 (by decide) (by decide))
    refine bX7_addWall_45 (r3 := by rw [e7]; omega) (kt := fun q => ?_) (kf := fun q => by rw [e7] at q; omega)
    exact bX7_addWall_151 (hq := ⟨rfl, rfl, by rw [show (h (g + 7) w).toNat = n by omega]; exact hW⟩)
  | succ d ih =>
    intro n h1 hn hW hfad
    have n3 : (n : Int) < 3 := by omega
    obtain ⟨v1, v2, v3, v4, v5⟩ := id hW
    have e7 : h1 (g + 7) = h (g + 7) := v1 _ (sep 7 (by decide) (by decide))
    refine bX7_addWall_45 (r3 := by rw [e7]; omega) (kt := fun q => by rw [e7] at q; omega) (kf := fun q => ?_)
    have ht : 0 ≤ ((n : Int) + 1) * h (g + 4) (w * 3 + h o 5) ∧ ((n : Int) + 1) * h (g + 4) (w * 3 + h o 5) ≤ 120 := by
      have := mul_rng (a := (n : Int) + 1) (A := 3) (b := h (g + 4) (w * 3 + h o 5)) (B := 40) (by omega) (by omega) (by have : dC h g 4 (w * 3 + h o 5) = h (g + 4) (w * 3 + h o 5) := rfl; omega) hdel.2
      omega
    refine bX7_addWall_56 (hS := c_place (by omega) ho v4 (by omega) ht) (kk := ?_)
    rintro x h2 ⟨p1, p2, p3, p4, p5, p6, p7⟩
    refine bX7_addWall_65 (kk := ?_)
    have eg : ∀ k, 0 ≤ k → k ≤ 14 → h2 (g + k) = h (g + k) := fun k a b => by
      have := sep k a b
      rw [p1 _ (by omega) (by omega) (by omega), v1 _ this]
    have eg0 : h2 g = h g := by have := eg 0 (by decide) (by decide); rwa [Int.add_zero] at this
    have eo : ∀ i, i ≠ 2 → h2 o i = h o i := fun i hi => by rw [p2 i hi, v2 i hi]
    have ef : h2 (o + 3) = h1 (o + 3) := p1 _ (by omega) (by omega) (by omega)
    have m19 := p6.1.2
    -- the sounds of a round
    suffices K : ∀ (dk k : Nat) (h3 : AH), (k : Int) + dk = h g 0 → (∀ c, c ≠ o + 2 → c ≠ o + 3 → h3 c = h2 c) → (∀ s : Int, 0 ≤ s → s < k → h3 (o + 3) s = vol (h (g + 1) s) sh (n + 1)) → (∀ s : Int, k ≤ s → s < h g 0 → h3 (o + 3) s = vol (h (g + 1) s) sh n) →
        (∀ i s : Int, 0 ≤ i → i < h2 o 2 → 0 ≤ s → s < 8 → h3 (o + 2) (i * 8 + s) = h2 (o + 2) (i * 8 + s) + if i = x then (if s < k ∧ bt (h (g + 6) w) (h (g + 2) s).toNat = false then vol (h (g + 1) s) sh (n + 1) * h o 6 / 100 else 0) else 0) →
        Wp mX7_addWall (kR fr 0 0) (rV (fun h' => walled h h' o g w (h (g + 7) w).toNat)) (0, 0) 70 [zR o, zR g, zI w, zI sh, zI (h (g + 4) (w * 3 + h o 5)), zI (n + 1 : Int), zI x, zI k] [] 137 h3 by
      exact K (h g 0).toNat 0 h2 (by omega) (fun _ _ _ => rfl) (fun s a b => by omega) (fun s a b => by rw [ef]; exact hfad s (by omega) b) (fun i s a b c e => by
        rw [if_neg (c := s < ((0 : Nat) : Int) ∧ _) (by omega)]
        split <;> omega)
    intro dk
    induction dk with
    | zero =>
      intro k h3 hk q1 q2 q3 q4
      have e0 : h3 g = h g := by rw [q1 g (by have := sep 0 (by decide) (by decide); omega) (by have := sep 0 (by decide) (by decide); omega), eg0]
      have eo3 : h3 o = h2 o := q1 o (by omega) (by omega)
      refine bX7_addWall_70 (r2 := by rw [e0]; omega) (kt := fun q => ?_) (kf := fun q => by rw [e0] at q; omega)
      refine bX7_addWall_145 (kk := ?_)
      have := ih (n + 1) h3 (by omega) ⟨fun c hc => by rw [q1 c (by omega) (by omega), p1 c (by omega) (by omega) (by omega), v1 c hc], fun i hi => by rw [eo3, eo i hi], by rw [eo3]; omega, ways_same (by rw [eo3]) (q1 _ (by omega) (by omega)) p6, fun d' s a b => by
        rw [tab_grow p6 p4.1 p4.2 p5 (by rw [eo3]) (q1 _ (by omega) (by omega)) (fun i i0 i1 => q4 i s i0 i1 a b) d', p7 d' s a b, v5 d' s a b]
        by_cases c : s < h g 0 ∧ bt (h (g + 6) w) (h (g + 2) s).toNat = false
        · rw [if_pos c, if_pos c, if_pos (c := s < (k : Int) ∧ _) ⟨by omega, c.2⟩, sg]
          rw [Int.add_assoc]
          congr 2
          unfold ampN
          rw [hsh]
        · rw [if_neg c, if_neg c, if_neg (c := s < (k : Int) ∧ _) (fun z => c ⟨by omega, z.2⟩)]
          split <;> omega⟩ (fun s a b => q2 s a (by omega))
      exact this
    | succ dk ihk =>
      intro k h3 hk q1 q2 q3 q4
      have sp0 := sep 0 (by decide) (by decide)
      have e0 : h3 g = h g := by rw [q1 g (by omega) (by omega), eg0]
      have eo3 : h3 o = h2 o := q1 o (by omega) (by omega)
      have egk : ∀ j, 0 ≤ j → j ≤ 14 → h3 (g + j) = h (g + j) := fun j a b => by
        have := sep j a b
        rw [q1 _ (by omega) (by omega), eg j a b]
      refine bX7_addWall_70 (r2 := by rw [e0]; omega) (kt := fun q => by rw [e0] at q; omega) (kf := fun q => ?_)
      have hk0 := hsnd k (by omega) (by omega)
      have hv := vol_rng (a := h (g + 1) k) (sh := sh) (by have : dC h g 1 k = h (g + 1) k := rfl; omega) hk0.1.2 (by omega) (by omega)
      have hmul := mul_rng (hv n).1 (hv n).2 (b := sh) (B := 100) (by omega) (by omega)
      have e3 : h3 (o + 3) k = vol (h (g + 1) k) sh n := q3 k (by omega) (by omega)
      have ev : vol (h (g + 1) k) sh n * sh / 100 = vol (h (g + 1) k) sh (n + 1) := rfl
      refine bX7_addWall_79 (r2 := by rw [e3]; omega) (hS := c_swallows cg (by omega) (by omega) (by rw [up_n (by have := sep 2 (by decide) (by decide); omega), egk 2 (by decide) (by decide)]; exact hk0.2) (by rw [up_n (by have := sep 6 (by decide) (by decide); omega), egk 6 (by decide) (by decide)]; exact h6)) (kk := ?_)
      rintro y h4 ⟨rfl, hy⟩
      rw [up_n (by have := sep 6 (by decide) (by decide); omega), egk 6 (by decide) (by decide), up_n (by have := sep 2 (by decide) (by decide); omega), egk 2 (by decide) (by decide)] at hy
      rw [e3, ev]
      have NX : ∀ h5 : AH, (∀ c, c ≠ o + 2 → h5 c = up h3 (o + 3) k (vol (h (g + 1) k) sh (n + 1)) c) → (∀ i s : Int, 0 ≤ i → i < h2 o 2 → 0 ≤ s → s < 8 → h5 (o + 2) (i * 8 + s) = h3 (o + 2) (i * 8 + s) + if i = x then (if s = k ∧ bt (h (g + 6) w) (h (g + 2) s).toNat = false then vol (h (g + 1) s) sh (n + 1) * h o 6 / 100 else 0) else 0) → Wp mX7_addWall (kR fr 0 0) (rV (fun h' => walled h h' o g w (h (g + 7) w).toNat)) (0, 0) 139 [zR o, zR g, zI w, zI sh, zI (h (g + 4) (w * 3 + h o 5)), zI (n + 1 : Int), zI x, zI k] [] 137 h5 := by
        intro h5 z1 z2
        refine bX7_addWall_139 (kk := ?_)
        refine ihk (k + 1) h5 (by omega) (fun c a b => by rw [z1 c a, up_n b, q1 c a b]) (fun s a b => ?_) (fun s a b => ?_) (fun i s a b c e => ?_)
        · rw [z1 _ (by omega)]
          by_cases e : s = k
          · rw [e, up_ci]
          · rw [up_cn e, q2 s a (by omega)]
        · rw [z1 _ (by omega), up_cn (by omega), q3 s (by omega) b]
        · rw [z2 i s a b c e, q4 i s a b c e]
          by_cases e1 : i = x
          · rw [if_pos e1, if_pos e1, if_pos e1]
            cases hb : bt (h (g + 6) w) (h (g + 2) s).toNat with
            | true => simp
            | false =>
              by_cases e2 : s = k
              · rw [if_neg (c := s < (k : Int) ∧ _) (by omega), if_pos (c := s = (k : Int) ∧ _) ⟨e2, rfl⟩, if_pos (c := s < ((k + 1 : Nat) : Int) ∧ _) ⟨by omega, rfl⟩]; omega
              · rw [if_neg (c := s = (k : Int) ∧ _) (fun z => e2 z.1)]
                by_cases e3 : s < k
                · rw [if_pos (c := s < (k : Int) ∧ _) ⟨e3, rfl⟩, if_pos (c := s < ((k + 1 : Nat) : Int) ∧ _) ⟨by omega, rfl⟩]; omega
                · rw [if_neg (c := s < (k : Int) ∧ _) (fun z => e3 z.1), if_neg (c := s < ((k + 1 : Nat) : Int) ∧ _) (by omega)]; omega
          · rw [if_neg e1, if_neg e1, if_neg e1]; omega
      refine bX7_addWall_105 (r1 := by rw [hy]; split <;> decide) (kt := fun qy => ?_) (kf := fun qy => ?_)
      · refine NX _ (fun c _ => rfl) (fun i s a b c e => ?_)
        rw [up_n (by omega)]
        have hb : bt (h (g + 6) w) (h (g + 2) k).toNat = true := by
          cases hb : bt (h (g + 6) w) (h (g + 2) k).toNat with
          | true => rfl
          | false => rw [hb] at hy; simp at hy; omega
        by_cases e2 : s = k
        · rw [e2, hb]
          simp
        · rw [if_neg (c := s = (k : Int) ∧ _) (fun z => e2 z.1)]
          split <;> omega
      · have hb : bt (h (g + 6) w) (h (g + 2) k).toNat = false := by
          cases hb : bt (h (g + 6) w) (h (g + 2) k).toNat with
          | false => rfl
          | true => rw [hb] at hy; simp at hy; omega
        have hv1 := mul_rng (hv (n + 1)).1 (hv (n + 1)).2 ha.1 ha.2
        have e6 : up h3 (o + 3) k (vol (h (g + 1) k) sh (n + 1)) o 6 = h o 6 := by rw [up_n (by omega), eo3, eo 6 (by decide)]
        refine bX7_addWall_108 (r3 := by rw [e6, up_ci]; omega) (kk := ?_)
        rw [e6, up_ci]
        refine NX _ (fun c hc => up_n hc) (fun i s a b c e => ?_)
        by_cases e2 : i = x ∧ s = k
        · obtain ⟨rfl, rfl⟩ := e2
          rw [up_ci, up_n (by omega), if_pos rfl, if_pos ⟨rfl, hb⟩]
        · rw [up_cn (by omega), up_n (by omega)]
          by_cases e3 : i = x
          · rw [if_pos e3, if_neg (c := s = (k : Int) ∧ _) (fun z => e2 ⟨e3, z.1⟩)]; omega
          · rw [if_neg e3]; omega
