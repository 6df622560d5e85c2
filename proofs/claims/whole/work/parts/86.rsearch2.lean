/-! ===== the class: firstMiss, searchAll ===== -/
theorem tkR.same {R : Int → Prop} {w : Nat} {h h' : AH} (e1 : h' 82 = h 82) (e2 : h' 83 = h 83) (ht : tkR R w h) : tkR R w h' := by
  unfold tkR; rw [e1, e2]; exact ht
theorem c_firstMiss {fr : Nat} {g y : Int} {L T : Int → Int} {h : AH} (hf : 3 ≤ fr) (hs : gsC h g L T) (hw : ways h 84) (h4 : h 84 2 ≤ 4) (htab : ∀ d s, 0 ≤ s → s < h g 0 → tab h 84 d s = ampY L T y s d) (hz : sumZ h) :
    Sp mX3_firstMiss true fr 0 0 [zR 82, zR g, zR 34, zR 51] 137 h (rI (fun x h' => ((∀ c, c ≠ 51 → c ≠ 52 → c ≠ 53 → c ≠ 54 → h' c = h c) ∧ sumZ h') ∧ ((x = 60 ∧ toldAs (lamU (h 35) (ampY L T y) 200) (h g 0) (h g 4) (h g 5) (h g 6) (h 36)) ∨ ((0 ≤ x ∧ x < 60) ∧ ¬ HeardR (lamU (h 35) (ampY L T y) 200) (h g 0) (h g 4) (h g 5) (h g 6) x (h 36 x))))) := by
  refine Sp.mk yX3_firstMiss_ok rfl rfl ?_
  obtain ⟨hg, hd, h85, h86, rg86, h35, h36⟩ := hs
  have d0 := hd.1
  have d5 := hd.2.2.2.2.2.1
  rw [dC0] at d0 d5
  have gs : g < 47 ∨ (54 < g ∧ g < 82) := by unfold isG at hg; omega
  obtain ⟨r1, r2, r3, r4, ⟨i3, i4, i5, i6⟩, r6, r7⟩ := ready2 (h1 := h) (g := g) (o := 84) (a := 34 + 1) (last := 199) (N := 200) hg (Or.inr rfl) hw (fun i s a b c d => rg86 (i * 8 + s) (by omega) (by omega)) hd e35 (by decide) (by decide) h35 hz
  refine bX3_firstMiss_0 (c1 := e34) (hS := c_attend) (kk := ?_)
  rintro h2 rfl
  revert r1 r2 r3 r4 i3 i4 i5 i6 r6 r7
  generalize up (up (up (up (up (up h 51 3 g) 51 4 84) 51 5 (34 + 1)) 51 6 199) 51 7 0) 51 8 0 = h2
  intro r1 r2 r3 r4 i3 i4 i5 i6 r6 r7
  have a5 : h2 51 5 < 51 ∨ 54 < h2 51 5 := by rw [i5]; decide
  have eg2 : h2 g = h g := r4 g (by omega)
  have eL : ∀ t s, 0 ≤ s → s < h g 0 → lamH h2 t s = lamU (h 35) (ampY L T y) 200 t s := fun t s p q => by
    rw [r7, lamC_tab (by decide)]
    show sg _ 200 = sg _ 200
    refine sg_cong (fun u _ => ?_)
    rw [htab _ s p q]
    rfl
  generalize lamU (h 35) (ampY L T y) 200 = Λ at eL
  refine bX3_firstMiss_16 (kk := ?_)
  suffices K : ∀ (d t : Nat) (h3 : AH) (x0 x1 : AV), t + d = 60 → hrd h2 h3 t → (∀ u, 0 ≤ u → u < (t : Int) → HeardR Λ (h g 0) (h g 4) (h g 5) (h g 6) u (h 36 u)) → Wp mX3_firstMiss (kR fr 0 0) (rI (fun x h' => ((∀ c, c ≠ 51 → c ≠ 52 → c ≠ 53 → c ≠ 54 → h' c = h c) ∧ sumZ h') ∧ ((x = 60 ∧ toldAs Λ (h g 0) (h g 4) (h g 5) (h g 6) (h 36)) ∨ ((0 ≤ x ∧ x < 60) ∧ ¬ HeardR Λ (h g 0) (h g 4) (h g 5) (h g 6) x (h 36 x))))) (0, 0) 19 [x0, x1, zR 34, zR 51, zI t] [] 137 h3 by
    exact K 60 0 h2 _ _ (by omega) (hrd_0 r2 r3) (fun u a b => by omega)
  intro d
  induction d with
  | zero =>
    intro t h3 x0 x1 ht hr ho
    refine bX3_firstMiss_19 (kt := fun _ => ?_) (kf := fun q => by omega)
    refine bX3_firstMiss_57 (hq := ⟨_, rfl, rfl, ⟨fun c c1 c2 c3 c4 => by rw [hr.1.1 c c1 c2 c3 c4, r4 c c1], hr.2.2.1⟩, Or.inl ⟨rfl, fun u a b => ho u a (by omega)⟩⟩)
  | succ d ih =>
    intro t h3 x0 x1 ht hr ho
    refine bX3_firstMiss_19 (kt := fun q => by omega) (kf := fun _ => ?_)
    refine bX3_firstMiss_26 (hS := c_measureH (by omega) r1 a5 (by omega) hr) (kk := ?_)
    intro h4 hr4
    refine bX3_firstMiss_32 (hS := c_hearsH (by omega) r1 a5 r6 (by omega) hr4) (kk := ?_)
    rintro x h5 ⟨e5, hx⟩
    rw [e5]; clear e5 h5
    have hx2 : HeardR Λ (h g 0) (h g 4) (h g 5) (h g 6) t x := by
      unfold HrS at hx
      rw [i3, eg2] at hx
      exact HeardR.cong (fun t' s _ _ _ p q => eL t' s p q) (by omega) d5.1 hx
    have xr := hx2.range
    have e36 : h4 (34 + 2) = h 36 := by
      show h4 36 = _
      rw [hr4.1.1 36 (by decide) (by decide) (by decide) (by decide), r4 36 (by decide)]
    have t36 := h36 t (by omega) (by omega)
    refine bX3_firstMiss_38 (c1 := e34) (r2 := by omega) (r3 := by rw [e36]; omega) (kt := fun q => ?_) (kf := fun q => ?_)
    · rw [e36] at q
      refine bX3_firstMiss_51 (kk := ih (t + 1) h4 _ _ (by omega) hr4 (fun u a b => ?_))
      by_cases e : u = t
      · rw [e, ← q]; exact hx2
      · exact ho u a (by omega)
    · rw [e36] at q
      exact bX3_firstMiss_48 (hq := ⟨_, rfl, rfl, ⟨fun c c1 c2 c3 c4 => by rw [hr4.1.1 c c1 c2 c3 c4, r4 c c1], hr4.2.2.1⟩, Or.inr ⟨by omega, fun z => q (hx2.one z)⟩⟩)
/-- a wall behind the tick mends nothing -/
theorem lamU_late {M L T : Int → Int} {n : Nat} {a b c t s y0 y : Int} (t0 : tri a b 0) (tc : tri a b c) (i0 : isT y0 a b 0) (i1 : isT y a b c) (hc : t < c) : lamU M (ampY L T y) n t s = lamU M (ampY L T y0) n t s := by
  refine sg_cong (fun u _ => ?_)
  have e : ampY L T y s (t - u) = ampY L T y0 s (t - u) := by
    unfold ampY
    congr 1
    by_cases d : 1 ≤ t - u
    · have e : bt y (t - u - 1).toNat = bt y0 (t - u - 1).toNat := by
        by_cases z : (((t - u - 1).toNat : Nat) : Int) + 1 = a ∨ (((t - u - 1).toNat : Nat) : Int) + 1 = b
        · rw [(i1.2 _).mpr (by omega), (i0.2 _).mpr (by omega)]
        · rw [i1.no (by omega), i0.no (by omega)]
      rw [e]
    · rw [if_neg (fun z => d z.1), if_neg (fun z => d z.1)]
  rw [e]
theorem c_searchAll {fr : Nat} {g : Int} {L T : Int → Int} {h : AH} (hf : 6 ≤ fr) (hs : gsC h g L T) (hz : sumZ h) (ht : tkR (fun _ => False) (h g 5).toNat h) :
    Sp mX3_searchAll true fr 0 0 [zR 82, zR g, zR 34, zR 51] 137 h (rV (fun h' => (kpG h h' ∧ sumZ h') ∧ tkR (RivP (h 35) L T (h g 0) (h g 4) (h g 5) (h g 6) (h 36)) (h g 5).toNat h')) := by
  refine Sp.mk yX3_searchAll_ok rfl rfl ?_
  obtain ⟨hg, hd, h85, h86, rg86, h35, h36⟩ := id hs
  have cg := hg.cel
  have d5 := hd.2.2.2.2.2.1
  rw [dC0] at d5
  have gs : g < 47 ∨ (54 < g ∧ g < 82) := by unfold isG at hg; omega
  generalize hRR : RivP (h 35) L T (h g 0) (h g 4) (h g 5) (h g 6) (h 36) = RR
  have isRR : ∀ y, RR y ↔ ((m20 y ∧ pop y 31 ≤ 3) ∧ toldAs (lamU (h 35) (ampY L T y) 200) (h g 0) (h g 4) (h g 5) (h g 6) (h 36)) := fun y => by rw [← hRR]; rfl
  generalize hw : (h g 5).toNat = w at ht
  generalize hQ : (rV (fun h' : AH => (kpG h h' ∧ sumZ h') ∧ tkR RR w h')) = Q
  have tc : ∀ {R S : Int → Prop} {h1 : AH}, (∀ y, R y ↔ S y) → tkR R w h1 → tkR S w h1 := fun e z => z.cong e
  refine bX3_searchAll_0 (kk := ?_)
  have K1 : ∀ (d : Nat) (hi : Int) (h1 : AH) (x5 x6 x7 x8 : AV), 0 ≤ hi → hi + d = 21 → (kpG h h1 ∧ sumZ h1) → tkR (fun y => RR y ∧ ∃ a b c, tri a b c ∧ isT y a b c ∧ lx a b c hi 0 0) w h1 → Wp mX3_searchAll (kR fr 0 0) Q (0, 0) 3 [zR 82, zR g, zR 34, zR 51, zI hi, x5, x6, x7, x8] [] 137 h1 := by
    intro d
    induction d with
    | zero =>
      intro hi h1 x5 x6 x7 x8 h0 hd1 k1 t1
      refine bX3_searchAll_3 (kt := fun _ => ?_) (kf := fun q => by omega)
      refine bX3_searchAll_133 (hq := ?_)
      rw [← hQ]
      refine ⟨rfl, rfl, k1, tc (fun y => ⟨fun z => z.1, fun z => ⟨z, ?_⟩⟩) t1⟩
      obtain ⟨⟨p, q⟩, -⟩ := (isRR y).mp z
      obtain ⟨a, b, c, e1, e2⟩ := tri_ex p q
      exact ⟨a, b, c, e1, e2, Or.inl (by have := e1.1.2; omega)⟩
    | succ d ih =>
      intro hi h1 x5 x6 x7 x8 h0 hd1 k1 t1
      refine bX3_searchAll_3 (kt := fun q => by omega) (kf := fun _ => ?_)
      refine bX3_searchAll_10 (kk := ?_)
      -- the middle one
      suffices K2 : ∀ (d2 : Nat) (mi : Int) (h1 : AH) (x6 x7 x8 : AV), 0 ≤ mi → mi + d2 = max 1 hi → (kpG h h1 ∧ sumZ h1) → tkR (fun y => RR y ∧ ∃ a b c, tri a b c ∧ isT y a b c ∧ lx a b c hi mi 0) w h1 → Wp mX3_searchAll (kR fr 0 0) Q (0, 0) 13 [zR 82, zR g, zR 34, zR 51, zI hi, zI mi, x6, x7, x8] [] 137 h1 by
        exact K2 (max 1 hi).toNat 0 h1 _ _ _ (by decide) (by omega) k1 t1
      intro d2
      induction d2 with
      | zero =>
        intro mi h1 x6 x7 x8 m0 hm k1 t1
        refine bX3_searchAll_13 (kt := fun _ => ?_) (kf := fun q => by omega)
        refine bX3_searchAll_127 (kk := ih (hi + 1) h1 _ _ _ _ (by omega) (by omega) k1 (tc (fun y => ?_) t1))
        constructor
        · rintro ⟨z, a, b, c, e1, e2, e3⟩
          exact ⟨z, a, b, c, e1, e2, by unfold lx at *; omega⟩
        · rintro ⟨z, a, b, c, e1, e2, e3⟩
          exact ⟨z, a, b, c, e1, e2, by unfold lx tri at *; omega⟩
      | succ d2 ih2 =>
        intro mi h1 x6 x7 x8 m0 hm k1 t1
        refine bX3_searchAll_13 (kt := fun q => by omega) (kf := fun _ => ?_)
        refine bX3_searchAll_24 (kk := ?_)
        have T0 : tri hi mi 0 := by unfold tri; omega
        -- the lowest one
        suffices K3 : ∀ (d3 : Nat) (lo ms : Int) (h1 : AH) (x8 : AV), 0 ≤ lo → lo + d3 = max 1 mi → (kpG h h1 ∧ sumZ h1) → tkR (fun y => RR y ∧ ∃ a b c, tri a b c ∧ isT y a b c ∧ lx a b c hi mi lo) w h1 → ((lo = 0 ∧ ms = 60) ∨ (0 < lo ∧ (ms = 60 ∨ ((0 ≤ ms ∧ ms < 60) ∧ ∃ y0, isT y0 hi mi 0 ∧ ¬ HeardR (lamU (h 35) (ampY L T y0) 200) (h g 0) (h g 4) (h g 5) (h g 6) ms (h 36 ms))))) → Wp mX3_searchAll (kR fr 0 0) Q (0, 0) 31 [zR 82, zR g, zR 34, zR 51, zI hi, zI mi, zI ms, zI lo, x8] [] 137 h1 by
          exact K3 (max 1 mi).toNat 0 60 h1 _ (by decide) (by omega) k1 t1 (Or.inl ⟨rfl, rfl⟩)
        intro d3
        induction d3 with
        | zero =>
          intro lo ms h1 x8 l0 hl k1 t1 hm1
          have msr : 0 ≤ ms ∧ ms ≤ 60 := by rcases hm1 with z | ⟨z, z1 | ⟨z1, z2⟩⟩ <;> omega
          refine bX3_searchAll_31 (kt := fun _ => ?_) (kf := fun q => by omega)
          refine bX3_searchAll_121 (kk := ih2 (mi + 1) h1 _ _ _ (by omega) (by omega) k1 (tc (fun y => ?_) t1))
          constructor
          · rintro ⟨z, a, b, c, e1, e2, e3⟩
            exact ⟨z, a, b, c, e1, e2, by unfold lx at *; omega⟩
          · rintro ⟨z, a, b, c, e1, e2, e3⟩
            exact ⟨z, a, b, c, e1, e2, by unfold lx tri at *; omega⟩
        | succ d3 ih3 =>
          intro lo ms h1 x8 l0 hl k1 t1 hm1
          have msr : 0 ≤ ms ∧ ms ≤ 60 := by rcases hm1 with z | ⟨z, z1 | ⟨z1, z2⟩⟩ <;> omega
          refine bX3_searchAll_31 (kt := fun q => by omega) (kf := fun _ => ?_)
          refine bX3_searchAll_42 (kt := fun q => ?_) (kf := fun q => ?_)
          · -- those behind the miss
            refine bX3_searchAll_121 (kk := ih2 (mi + 1) h1 _ _ _ (by omega) (by omega) k1 (tc (fun y => ?_) t1))
            constructor
            · rintro ⟨z, a, b, c, e1, e2, e3⟩
              exact ⟨z, a, b, c, e1, e2, by unfold lx at *; omega⟩
            · rintro ⟨z, a, b, c, e1, e2, e3⟩
              by_cases e4 : lx a b c hi mi lo
              · exact ⟨z, a, b, c, e1, e2, e4⟩
              · exfalso
                have ea : a = hi ∧ b = mi ∧ lo ≤ c := by have q := e1; unfold lx tri at *; omega
                obtain ⟨rfl, rfl, e5⟩ := ea
                rcases hm1 with z1 | ⟨z1, z2 | ⟨z2, y0, z3, z4⟩⟩
                · omega
                · have := T0.1.2
                  have := e1
                  unfold tri at this
                  omega
                · refine z4 (HeardR.cong (fun t' s _ _ p _ _ => lamU_late T0 e1 z3 e2 (by omega)) z2.1 d5.1 (((isRR y).mp z).2 ms z2.1 z2.2))
          have T1 : tri hi mi lo := by unfold tri; omega
          have iY := isT_mk T1
          generalize hY : bOr (bOr ((1 * 2 ^ hi.toNat) / 2 ^ (1 : Int).toNat) ((1 * 2 ^ mi.toNat) / 2 ^ (1 : Int).toNat)) ((1 * 2 ^ lo.toNat) / 2 ^ (1 : Int).toNat) = y at iY
          have s1 := hs.keep k1.1
          refine bX3_searchAll_49 (hS := c_layDelays (Or.inr rfl) (by omega) (by omega) (by omega) (by omega) (by omega)) (kk := ?_)
          intro h2 l2
          have k2 : kpG h1 h2 := ⟨fun c _ _ _ _ _ _ p q => l2.1 c p q, l2.2.2.1, l2.2.1, fun i _ => by rw [l2.1 82 (by decide) (by decide)]⟩
          have s2 := s1.keep k2
          have z2 : sumZ h2 := fun s p q => by rw [l2.1 54 (by decide) (by decide)]; exact k1.2 s p q
          have eg1 : h1 g = h g := k1.1.1 g (by omega) (by omega) (by omega) (by omega) (by omega) (by omega) (by omega) (by omega)
          have eg2 : h2 g = h g := by rw [l2.1 g (by omega) (by omega), eg1]
          obtain ⟨w1, w2⟩ := ways_laid T1 s1 l2
          have e35' : h2 35 = h 35 := by rw [l2.1 35 (by decide) (by decide), k1.1.1 35 (by decide) (by decide) (by decide) (by decide) (by decide) (by decide) (by decide) (by decide)]
          have e36' : h2 36 = h 36 := by rw [l2.1 36 (by decide) (by decide), k1.1.1 36 (by decide) (by decide) (by decide) (by decide) (by decide) (by decide) (by decide) (by decide)]
          refine bX3_searchAll_62 (hS := c_firstMiss (y := y) (by omega) s2 w1 w2 (fun d s p q => tab_laid T1 iY s1 l2 p (by rw [eg1]; rw [eg2] at q; exact q)) z2) (kk := ?_)
          rintro ms2 h3 ⟨⟨k3, z3⟩, r3⟩
          rw [eg2, e35', e36'] at r3
          have k3' : kpG h2 h3 := ⟨fun c p1 p2 p3 p4 _ _ _ _ => k3 c p1 p2 p3 p4, by rw [k3 85 (by decide) (by decide) (by decide) (by decide)], fun i _ => by rw [k3 84 (by decide) (by decide) (by decide) (by decide)], fun i _ => by rw [k3 82 (by decide) (by decide) (by decide) (by decide)]⟩
          have kk3 : kpG h h3 := k1.1.tr (k2.tr k3')
          have t3 : tkR (fun y => RR y ∧ ∃ a b c, tri a b c ∧ isT y a b c ∧ lx a b c hi mi lo) w h3 := t1.same (by rw [k3 82 (by decide) (by decide) (by decide) (by decide), l2.1 82 (by decide) (by decide)]) (by rw [k3 83 (by decide) (by decide) (by decide) (by decide), l2.1 83 (by decide) (by decide)])
          have mr : 0 ≤ ms2 ∧ ms2 ≤ 60 := by rcases r3 with z | ⟨z, -⟩ <;> omega
          have py : pop y 31 ≤ 3 := by rw [pop_T T1 iY]; unfold nz; split <;> split <;> split <;> omega
          have next : ∀ h4 : AH, (kpG h h4 ∧ sumZ h4) → tkR (fun z => RR z ∧ ∃ a b c, tri a b c ∧ isT z a b c ∧ lx a b c hi mi (lo + 1)) w h4 → Wp mX3_searchAll (kR fr 0 0) Q (0, 0) 106 [zR 82, zR g, zR 34, zR 51, zI hi, zI mi, zI ms, zI lo, zI ms2] [] 137 h4 := fun h4 k4 t4 => by
            refine bX3_searchAll_106 (kt := fun q2 => ?_) (kf := fun q2 => ?_)
            · refine bX3_searchAll_115 (kk := ih3 (lo + 1) ms h4 _ (by omega) (by omega) k4 t4 (Or.inr ⟨by omega, ?_⟩))
              rcases hm1 with z | ⟨z, z2⟩
              · omega
              · exact z2
            · refine bX3_searchAll_111 (kk := bX3_searchAll_115 (kk := ih3 (lo + 1) ms2 h4 _ (by omega) (by omega) k4 t4 (Or.inr ⟨by omega, ?_⟩)))
              rcases r3 with ⟨z, -⟩ | ⟨z, z2⟩
              · exact Or.inl z
              · rw [q2] at iY
                exact Or.inr ⟨z, y, iY, z2⟩
          have step : ∀ z, (∃ a b c, tri a b c ∧ isT z a b c ∧ lx a b c hi mi (lo + 1)) ↔ ((∃ a b c, tri a b c ∧ isT z a b c ∧ lx a b c hi mi lo) ∨ z = y) := fun z => by
            constructor
            · rintro ⟨a, b, c, e1, e2, e3⟩
              by_cases e4 : lx a b c hi mi lo
              · exact Or.inl ⟨a, b, c, e1, e2, e4⟩
              · have ea : a = hi ∧ b = mi ∧ c = lo := by unfold lx at *; omega
                obtain ⟨rfl, rfl, rfl⟩ := ea
                exact Or.inr (e2.one iY)
            · rintro (⟨a, b, c, e1, e2, e3⟩ | e)
              · exact ⟨a, b, c, e1, e2, by unfold lx at *; omega⟩
              · rw [e]
                exact ⟨hi, mi, lo, T1, iY, by unfold lx; omega⟩
          refine bX3_searchAll_69 (kt := fun q2 => ?_) (kf := fun q2 => ?_)
          · refine next h3 ⟨kk3, z3⟩ (tc (fun z => ?_) t3)
            rw [step z]
            constructor
            · exact fun e => ⟨e.1, Or.inl e.2⟩
            · rintro ⟨e1, e2 | e2⟩
              · exact ⟨e1, e2⟩
              · exfalso
                rcases r3 with ⟨v, -⟩ | ⟨v, v2⟩
                · exact q2 v
                · rw [e2] at e1
                  exact v2 (((isRR y).mp e1).2 ms2 v.1 v.2)
          · have told : RR y := by
              rcases r3 with ⟨-, v⟩ | ⟨v, -⟩
              · exact (isRR y).mpr ⟨⟨iY.1, py⟩, v⟩
              · omega
            have eg3 : h3 g = h g := by rw [k3 g (by omega) (by omega) (by omega) (by omega), eg2]
            have pw : ∀ x : Int, 0 ≤ x → x ≤ 20 → (-2147483648 : Int) ≤ 1 * 2 ^ x.toNat ∧ 1 * 2 ^ x.toNat < (2147483648 : Int) := fun x p q => by
              rw [Int.one_mul, pow_nat]
              have a1 : 2 ^ x.toNat ≤ 2 ^ 20 := Nat.pow_le_pow_right (by decide) (by omega)
              generalize (2 ^ x.toNat : Nat) = X at a1
              omega
            refine bX3_searchAll_78 (r2 := pw hi (by omega) (by omega)) (r4 := pw mi (by omega) (by omega)) (r6 := pw lo (by omega) (by omega)) (hS := by
              rw [hY, eg3]
              exact c_take3 (R := fun z => RR z ∧ ∃ a b c, tri a b c ∧ isT z a b c ∧ lx a b c hi mi lo) (by omega) iY.1 d5 (fun z e => by
                obtain ⟨-, a, b, c, e1, e2, e3⟩ := e
                exact isT.lt e1 T1 e2 iY e3) (by rw [hw]; exact t3)) (kk := ?_)
            rintro h4 ⟨k4, f4, t4⟩
            rw [hw] at t4
            refine next h4 ⟨kk3.tr ⟨fun c _ _ _ _ p q _ _ => k4 c p q, by rw [k4 85 (by decide) (by decide)], fun i _ => by rw [k4 84 (by decide) (by decide)], f4⟩, fun s p q => by rw [k4 54 (by decide) (by decide)]; exact z3 s p q⟩ (tc (fun z => ?_) t4)
            rw [step z]
            constructor
            · rintro (e | e)
              · exact ⟨e.1, Or.inl e.2⟩
              · rw [e]; exact ⟨told, Or.inr rfl⟩
            · rintro ⟨e1, e2 | e2⟩
              · exact Or.inl ⟨e1, e2⟩
              · exact Or.inr e2
  refine K1 21 0 h _ _ _ _ (by decide) (by decide) ⟨kpG.rf h, hz⟩ (tc (fun y => ⟨fun z => z.elim, ?_⟩) ht)
  rintro ⟨z, a, b, c, e1, e2, e3⟩
  unfold lx tri at *
  omega
