/-! ===== the model: clashes ===== -/
abbrev sngM (h : AH) : Int → Int := fun i => h 123 i
def rowIs (h h1 : AH) (n : Int) (k : Nat) : Prop := (∀ c, c ≠ 115 → h1 c = h c) ∧ ∀ t s, 0 ≤ t → t < n → 0 ≤ s → s < 8 → h1 115 (8 * t + s) = sg (rowN (ampR h) (sngM h) n t s) k
theorem bOr_zero {m : Int} (m0 : 0 ≤ m) (m1 : m < 256) : bOr m 0 = m := by
  obtain ⟨k, rfl⟩ : ∃ k : Nat, m = k := ⟨m.toNat, by omega⟩
  have := bOr_nat (a := k) (b := 0) (by rw [Nat.or_zero]; omega)
  rw [Nat.or_zero] at this
  exact this
theorem m_clashes {fr : Nat} {n : Int} {h : AH} (hf : 1 ≤ fr) (ho : okM h) (n0 : h 98 66 ≤ n) (n1 : n ≤ 32) :
    Sp mX12_clashes true fr 0 0 [zR 98, zI n] 137 h (rI (fun x h' => (keepM h h' ∧ h' 98 0 = h 98 0) ∧ x = clashN (lamR (ampR h) (sngM h) (h 98 66) n) (h 98 1) (h 98 5) (fun s => h 105 s) n.toNat)) := by
  refine Sp.mk yX12_clashes_ok rfl rfl ?_
  obtain ⟨hd, -, -, -, -, hR, hrow, -⟩ := id ho
  have hS : 0 ≤ h 98 1 ∧ h 98 1 ≤ 8 := hd.1
  have hW : 0 ≤ h 98 2 ∧ h 98 2 ≤ 6 := hd.2.1
  have hL : 1 ≤ h 98 5 ∧ h 98 5 ≤ 99 := hd.2.2.2.2.1
  have hai : 0 ≤ h 104 12 ∧ h 104 12 ≤ 100 := hd.2.2.2.2.2.2.2.2.2.2.2.2.1 12 (by decide) (by decide)
  have hsw : ∀ s, 0 ≤ s → s < 8 → 0 ≤ h 105 s ∧ h 105 s < 256 := hd.2.2.2.2.2.2.2.2.1
  have st0 : h 103 0 = 0 := hd.2.2.2.2.2.2.2.2.2.2.2.1
  refine bX12_clashes_0 (hS := m_opens (by omega)) (kk := ?_)
  intro h0 hop
  have k0 : keepM h h0 := (keepM.opened h n 0 12).tr (keepM.row hop)
  have h00 : h0 98 0 = h 98 0 := by rw [hop.1 98 (by decide), opened_i (by decide) (by decide) (by decide)]
  have o0 := ho.keep k0
  have eA : ampR h0 = ampR h := by unfold ampR; rw [k0.dM, k0.1 104 (by unfold perC; omega)]
  have eR : h0 98 66 = h 98 66 := k0.2 66 (by unfold perF; omega)
  have e1 : h0 98 1 = h 98 1 := k0.2 1 (by unfold perF; omega)
  have e2 : h0 98 2 = h 98 2 := k0.2 2 (by unfold perF; omega)
  have e5 : h0 98 5 = h 98 5 := k0.2 5 (by unfold perF; omega)
  have e123 : h0 123 = h 123 := k0.1 123 (by unfold perC; omega)
  have e99 : h0 99 = h 99 := k0.1 99 (by unfold perC; omega)
  have e100 : h0 100 = h 100 := k0.1 100 (by unfold perC; omega)
  have e104 : h0 104 = h 104 := k0.1 104 (by unfold perC; omega)
  have e105 : h0 105 = h 105 := k0.1 105 (by unfold perC; omega)
  have eS : sngM h0 = sngM h := by unfold sngM; rw [e123]
  have r0 : rowIs h0 h0 n 0 := ⟨fun _ _ => rfl, fun t s a b c d => by
    rw [hop.2 t s a (by unfold opened; exact b) c d]; rfl⟩
  -- the clashes of the row
  have second : ∀ (h1 : AH) (x2 x3 x4 x5 x6 : AV), rowIs h0 h1 n (h 98 66).toNat → Wp mX12_clashes (kR fr 0 0) (rI (fun x h' => (keepM h h' ∧ h' 98 0 = h 98 0) ∧ x = clashN (lamR (ampR h) (sngM h) (h 98 66) n) (h 98 1) (h 98 5) (fun s => h 105 s) n.toNat)) (0, 0) 210 [zR 98, zI n, x2, x3, x4, x5, x6] [] 137 h1 := by
    intro h1 x2 x3 x4 x5 x6 hr
    have c98 : h1 98 = h0 98 := hr.1 98 (by decide)
    have c105 : h1 105 = h 105 := by rw [hr.1 105 (by decide), e105]
    have g1 : h1 98 1 = h 98 1 := by rw [c98, e1]
    have g5 : h1 98 5 = h 98 5 := by rw [c98, e5]
    have k1 : keepM h h1 ∧ h1 98 0 = h 98 0 := ⟨k0.tr ⟨fun c hc => hr.1 c (by unfold perC at hc; omega), fun i _ => by rw [c98]⟩, by rw [c98, h00]⟩
    have hlam : ∀ t s, 0 ≤ t → t < n → 0 ≤ s → s < 8 → h1 115 (8 * t + s) = lamR (ampR h) (sngM h) (h 98 66) n t s := fun t s a b c d => by
      rw [hr.2 t s a b c d, eA, eS, rowN_lam hR.1 n0 a b]
    have hrg : ∀ t s, 0 ≤ t → t < n → 0 ≤ s → s < 8 → 0 ≤ h1 115 (8 * t + s) ∧ h1 115 (8 * t + s) < 10000000 := fun t s a b c d => by
      rw [hr.2 t s a b c d]
      exact rowN_rng o0.1 (by omega) (by rw [e123, e1]; exact hrow) c
    refine bX12_clashes_210 (kk := ?_)
    suffices H : ∀ (d t : Nat) (x4 x5 x6 : AV), (t : Int) + d = n → Wp mX12_clashes (kR fr 0 0) (rI (fun x h' => (keepM h h' ∧ h' 98 0 = h 98 0) ∧ x = clashN (lamR (ampR h) (sngM h) (h 98 66) n) (h 98 1) (h 98 5) (fun s => h 105 s) n.toNat)) (0, 0) 214 [zR 98, zI n, zI (cnt (fun t => cl (clashB (lamR (ampR h) (sngM h) (h 98 66) n t) (h 98 1) (h 98 5) (fun s => h 105 s))) t), zI t, x4, x5, x6] [] 137 h1 by
      exact H n.toNat 0 _ _ _ (by omega)
    intro d
    induction d with
    | zero =>
      intro t x4 x5 x6 ht
      refine bX12_clashes_214 (kt := fun _ => ?_) (kf := fun q => by omega)
      refine bX12_clashes_357 (hq := ⟨_, rfl, rfl, k1, ?_⟩)
      rw [show n.toNat = t by omega]
      rfl
    | succ d ih =>
      intro t x4 x5 x6 ht
      refine bX12_clashes_214 (kt := fun q => by omega) (kf := fun _ => ?_)
      refine bX12_clashes_219 (kk := ?_)
      have nx := ih (t + 1) none none none (by omega)
      rw [show cnt (fun t => cl (clashB (lamR (ampR h) (sngM h) (h 98 66) n t) (h 98 1) (h 98 5) (fun s => h 105 s))) (t + 1) = cnt (fun t => cl (clashB (lamR (ampR h) (sngM h) (h 98 66) n t) (h 98 1) (h 98 5) (fun s => h 105 s))) t + if cl (clashB (lamR (ampR h) (sngM h) (h 98 66) n t) (h 98 1) (h 98 5) (fun s => h 105 s)) = true then 1 else 0 from rfl] at nx
      generalize cnt (fun t => cl (clashB (lamR (ampR h) (sngM h) (h 98 66) n t) (h 98 1) (h 98 5) (fun s => h 105 s))) t = N at nx ⊢
      -- is there a clash
      have third : ∀ (m : Int) (x5 x6 : AV), audR (lamR (ampR h) (sngM h) (h 98 66) n t) (h 98 1) (h 98 5) m → Wp mX12_clashes (kR fr 0 0) (rI (fun x h' => (keepM h h' ∧ h' 98 0 = h 98 0) ∧ x = clashN (lamR (ampR h) (sngM h) (h 98 66) n) (h 98 1) (h 98 5) (fun s => h 105 s) n.toNat)) (0, 0) 272 [zR 98, zI n, zI N, zI t, zI m, x5, x6] [] 137 h1 := by
        intro m x5 x6 ha
        have hB := clashB_iff (SW := fun s => h 105 s) ha
        have m0 := ha.1
        refine bX12_clashes_272 (kk := ?_)
        suffices K : ∀ (ds s : Nat) (b : Int), (s : Int) + ds = h 98 1 → ((b = 1 ∧ clashP m (fun s => h 105 s)) ∨ (b = 0 ∧ ∀ s', 0 ≤ s' → s' < (s : Int) → bt m s'.toNat = true → clx m (h 105 s') s' = 0)) → Wp mX12_clashes (kR fr 0 0) (rI (fun x h' => (keepM h h' ∧ h' 98 0 = h 98 0) ∧ x = clashN (lamR (ampR h) (sngM h) (h 98 66) n) (h 98 1) (h 98 5) (fun s => h 105 s) n.toNat)) (0, 0) 278 [zR 98, zI n, zI N, zI t, zI m, zI b, zI s] [] 137 h1 by
          exact K (h 98 1).toNat 0 0 (by omega) (Or.inr ⟨rfl, fun s' a b => by omega⟩)
        intro ds
        induction ds with
        | zero =>
          intro s b hs hb
          refine bX12_clashes_278 (r2 := by rw [g1]; omega) (kt := fun _ => ?_) (kf := fun q => by rw [g1] at q; omega)
          rcases hb with ⟨rfl, hP⟩ | ⟨rfl, hP⟩
          · rw [if_pos (cl_pos (hB.mpr hP))] at nx
            exact bX12_clashes_338 (kt := fun z => by omega) (kf := fun _ => bX12_clashes_344 (kk := bX12_clashes_349 (kk := nx)))
          · have hN : ¬ clashP m (fun s => h 105 s) := by
              rintro ⟨s', a, b, c⟩
              have hb' := ha.2 s'.toNat
              rw [b] at hb'
              have := (of_decide_eq_true hb'.symm).1
              exact c (hP s' a (by omega) b)
            rw [if_neg (by rw [cl_neg (fun z => hN (hB.mp z))]; decide)] at nx
            exact bX12_clashes_338 (kt := fun _ => bX12_clashes_348 (kk := bX12_clashes_349 (kk := nx))) (kf := fun z => absurd rfl z)
        | succ ds ihs =>
          intro s b hs hb
          refine bX12_clashes_278 (r2 := by rw [g1]; omega) (kt := fun q => by rw [g1] at q; omega) (kf := fun _ => ?_)
          rcases hb with ⟨rfl, hP⟩ | ⟨rfl, hP⟩
          · exact bX12_clashes_287 (kt := fun _ => bX12_clashes_325 (kk := bX12_clashes_330 (kk := ihs (s + 1) 1 (by omega) (Or.inl ⟨rfl, hP⟩)))) (kf := fun z => by omega)
          · refine bX12_clashes_287 (kt := fun z => absurd rfl z) (kf := fun _ => ?_)
            have el := bit_look (x := m) (s := (s : Int)) m0.1 (by omega)
            refine bX12_clashes_292 (r3 := bAnd_R _ _) (kt := fun q => ?_) (kf := fun q => ?_)
            · rw [el] at q
              refine bX12_clashes_329 (kk := bX12_clashes_330 (kk := ihs (s + 1) 0 (by omega) (Or.inr ⟨rfl, fun s' a b c => ?_⟩)))
              by_cases e : s' = s
              · rw [e] at c
                rw [if_pos c] at q
                exact absurd rfl q
              · exact hP s' a (by omega) c
            · rw [el] at q
              have hbs : bt m (s : Int).toNat = true := by
                by_cases c : bt m (s : Int).toNat = true
                · exact c
                · rw [if_neg c] at q; omega
              refine bX12_clashes_303 (r3 := bAnd_R _ _) (kt := fun q2 => ?_) (kf := fun q2 => ?_)
              · rw [c105] at q2
                refine bX12_clashes_329 (kk := bX12_clashes_330 (kk := ihs (s + 1) 0 (by omega) (Or.inr ⟨rfl, fun s' a b c => ?_⟩)))
                by_cases e : s' = s
                · rw [e]; exact q2
                · exact hP s' a (by omega) c
              · rw [c105] at q2
                exact bX12_clashes_325 (kk := bX12_clashes_330 (kk := ihs (s + 1) 1 (by omega) (Or.inl ⟨rfl, s, by omega, hbs, q2⟩)))
      -- what is there
      suffices K : ∀ (ds s : Nat) (m : Int) (x6 : AV), (s : Int) + ds = h 98 1 → (0 ≤ m ∧ m < 256) → (∀ j : Nat, bt m j = decide ((j : Int) < s ∧ h 98 5 ≤ lamR (ampR h) (sngM h) (h 98 66) n t j)) → Wp mX12_clashes (kR fr 0 0) (rI (fun x h' => (keepM h h' ∧ h' 98 0 = h 98 0) ∧ x = clashN (lamR (ampR h) (sngM h) (h 98 66) n) (h 98 1) (h 98 5) (fun s => h 105 s) n.toNat)) (0, 0) 225 [zR 98, zI n, zI N, zI t, zI m, zI s, x6] [] 137 h1 by
        exact K (h 98 1).toNat 0 0 _ (by omega) (by decide) (fun j => by rw [bt_zero, decide_eq_false (by omega)])
      intro ds
      induction ds with
      | zero =>
        intro s m x6 hs m0 mb
        refine bX12_clashes_225 (r2 := by rw [g1]; omega) (kt := fun _ => ?_) (kf := fun q => by rw [g1] at q; omega)
        exact third m _ _ ⟨m0, fun j => by rw [mb, show (s : Int) = h 98 1 by omega]⟩
      | succ ds ihs =>
        intro s m x6 hs m0 mb
        refine bX12_clashes_225 (r2 := by rw [g1]; omega) (kt := fun q => by rw [g1] at q; omega) (kf := fun _ => ?_)
        have v := hrg t s (by omega) (by omega) (by omega) (by omega)
        have el := hlam t s (by omega) (by omega) (by omega) (by omega)
        refine bX12_clashes_234 (r3 := by rw [g5]; omega) (kt := fun q => ?_) (kf := fun q => ?_)
        · rw [g5, el] at q
          have := ihs (s + 1) m none (by omega) m0 (fun j => by
            rw [mb]
            by_cases e : (j : Int) = s
            · rw [decide_eq_false (by omega), decide_eq_false (by rw [e]; omega)]
            · congr 1
              apply propext
              omega)
          refine bX12_clashes_262 (kk := bX12_clashes_263 (kk := ?_))
          rw [bOr_zero m0.1 m0.2]
          exact this
        · rw [g5, el] at q
          obtain ⟨-, b1, b2, b3⟩ := bit_set (x := m) (s := (s : Int)) (N := 8) m0.1 (by omega) (by omega) (by omega) (by decide)
          refine bX12_clashes_255 (kk := bX12_clashes_263 (kk := ihs (s + 1) _ none (by omega) ⟨b1, by omega⟩ (fun j => ?_)))
          rw [b3, mb, Int.toNat_natCast]
          by_cases e : j = s
          · rw [e, decide_eq_false (by omega), decide_eq_true rfl, decide_eq_true ⟨by omega, q⟩]
            rfl
          · rw [decide_eq_false e, Bool.or_false]
            congr 1
            apply propext
            omega
  -- the row
  refine bX12_clashes_8 (kk := ?_)
  suffices H : ∀ (d u : Nat) (h1 : AH) (x3 x4 x5 x6 : AV), (u : Int) + d = h 98 66 → rowIs h0 h1 n u → Wp mX12_clashes (kR fr 0 0) (rI (fun x h' => (keepM h h' ∧ h' 98 0 = h 98 0) ∧ x = clashN (lamR (ampR h) (sngM h) (h 98 66) n) (h 98 1) (h 98 5) (fun s => h 105 s) n.toNat)) (0, 0) 10 [zR 98, zI n, zI u, x3, x4, x5, x6] [] 137 h1 by
    exact H (h 98 66).toNat 0 h0 _ _ _ _ (by omega) r0
  intro d
  induction d with
  | zero =>
    intro u h1 x3 x4 x5 x6 hu hr
    have c98 : h1 98 = h0 98 := hr.1 98 (by decide)
    refine bX12_clashes_10 (r2 := by rw [c98, eR]; omega) (kt := fun _ => ?_) (kf := fun q => by rw [c98, eR] at q; omega)
    exact second h1 _ _ _ _ _ (by rw [show (h 98 66).toNat = u by omega]; exact hr)
  | succ d ih =>
    intro u h1 x3 x4 x5 x6 hu hr
    have c98 : h1 98 = h0 98 := hr.1 98 (by decide)
    have c123 : h1 123 = h 123 := by rw [hr.1 123 (by decide), e123]
    have c99 : h1 99 = h 99 := by rw [hr.1 99 (by decide), e99]
    have hru := hrow u (by omega) (by omega)
    refine bX12_clashes_10 (r2 := by rw [c98, eR]; omega) (kt := fun q => by rw [c98, eR] at q; omega) (kf := fun _ => ?_)
    refine bX12_clashes_18 (r2 := by rw [c123]; omega) (kt := fun q => ?_) (kf := fun q => ?_)
    rotate_left
    · rw [c123] at q
      refine bX12_clashes_30 (kk := bX12_clashes_204 (kk := ih (u + 1) h1 _ _ _ _ (by omega) ⟨hr.1, fun t s a b c e => ?_⟩))
      rw [hr.2 t s a b c e, sg]
      have : rowN (ampR h0) (sngM h0) n t s u = 0 := by
        unfold rowN
        rw [eS, if_neg (by show ¬ h 123 u = s; omega)]
      omega
    rw [c123] at q ⊢
    have n0' : 0 < n := by omega
    generalize hs : h 123 u = s at *
    have s0 : 0 ≤ s ∧ s < 8 := by omega
    have s1 : s < h 98 1 := by omega
    have hsr : (1 ≤ h 99 (2 * s) ∧ h 99 (2 * s) ≤ 99) ∧ (0 ≤ h 99 (2 * s + 1) ∧ h 99 (2 * s + 1) ≤ 3) := hd.2.2.2.2.2.2.2.1 s s0.1 s1
    have done : ∀ (h2 : AH) (x3 x4 x5 x6 : AV), grownR h1 h2 s u n (ampR h s) → Wp mX12_clashes (kR fr 0 0) (rI (fun x h' => (keepM h h' ∧ h' 98 0 = h 98 0) ∧ x = clashN (lamR (ampR h) (sngM h) (h 98 66) n) (h 98 1) (h 98 5) (fun s => h 105 s) n.toNat)) (0, 0) 204 [zR 98, zI n, zI u, x3, x4, x5, x6] [] 137 h2 := by
      intro h2 x3 x4 x5 x6 G
      refine bX12_clashes_204 (kk := ih (u + 1) h2 _ _ _ _ (by omega) ⟨fun c hc => by rw [G.1 c hc, hr.1 c hc], fun t s' a b c e => ?_⟩)
      rw [G.2 t s' a b c e, hr.2 t s' a b c e, eA, eS]
      show _ = sg (rowN (ampR h) (sngM h) n t s') u + rowN (ampR h) (sngM h) n t s' u
      congr 1
      unfold rowN
      by_cases es : s' = s
      · rw [if_pos es, if_pos (show sngM h u = s' by show h 123 u = s'; omega), es]
      · rw [if_neg es, if_neg (show ¬ sngM h u = s' by show ¬ h 123 u = s'; omega)]
    refine bX12_clashes_33 (kk := ?_)
    rw [c99]
    have eu : ((u : Int) + 0) % n = u := by rw [Int.add_zero]; exact Int.emod_eq_of_lt (by omega) (by omega)
    have G0 := grownR_s (x := h 99 (2 * s)) (δ := 0) s0 n0' (by decide) (grownR_0 h1 s u n)
    rw [eu] at G0
    have loop : ∀ (dw w : Nat) (h2 : AH) (x5 x6 : AV), (w : Int) + dw = h 98 2 → grownR h1 h2 s u n (fun δ => (if δ = 0 then h 99 (2 * s) else 0) + sg (ampW (dM h) 0 (h 104 12) 0 (-1) s δ) w) → Wp mX12_clashes (kR fr 0 0) (rI (fun x h' => (keepM h h' ∧ h' 98 0 = h 98 0) ∧ x = clashN (lamR (ampR h) (sngM h) (h 98 66) n) (h 98 1) (h 98 5) (fun s => h 105 s) n.toNat)) (0, 0) 58 [zR 98, zI n, zI u, zI s, zI w, x5, x6] [] 137 h2 := by
      intro dw
      induction dw with
      | zero =>
        intro w h2 x5 x6 hw G
        have f98 : h2 98 2 = h 98 2 := by rw [G.1 98 (by decide), c98, e2]
        refine bX12_clashes_58 (r2 := by rw [f98]; omega) (kt := fun _ => ?_) (kf := fun q => by rw [f98] at q; omega)
        refine done h2 _ _ _ _ (grownR_eq G (fun δ => ?_))
        show _ = amp (dM h) 0 (h 104 12) 0 (-1) s δ
        unfold amp
        rw [show (dM h 0 1).toNat = w by show (h 98 2).toNat = w; omega, show dM h 8 0 = 0 from st0]
        rfl
      | succ dw ihw =>
        intro w h2 x5 x6 hw G
        have f98 : h2 98 2 = h 98 2 := by rw [G.1 98 (by decide), c98, e2]
        have f99 : h2 99 = h 99 := by rw [G.1 99 (by decide), c99]
        have f100 : h2 100 = h 100 := by rw [G.1 100 (by decide), hr.1 100 (by decide), e100]
        have w6 : (w : Int) < h 98 2 := by omega
        obtain ⟨hdl, hsh, hswl, hag⟩ := hd.2.2.2.2.2.2.2.2.2.1 (w : Int) (by omega) w6
        have hsh' : 0 ≤ h 100 (6 * w + 3) ∧ h 100 (6 * w + 3) ≤ 100 := hsh
        have hsw' : 0 ≤ h 100 (6 * w + 4) ∧ h 100 (6 * w + 4) < 16 := hswl
        have hag' : 1 ≤ h 100 (6 * w + 5) ∧ h 100 (6 * w + 5) ≤ 3 := hag
        have edl : dM h 4 ((w : Int) * 3 + 0) = h 100 (6 * w) := by
          show h 100 (6 * (((w : Int) * 3 + 0) / 3) + ((w : Int) * 3 + 0) % 3) = _
          congr 1
          omega
        have hdl' := hdl 0 (by decide) (by decide)
        rw [edl] at hdl'
        have next : ∀ (h3 : AH) (x5 x6 : AV), grownR h1 h3 s u n (fun δ => (if δ = 0 then h 99 (2 * s) else 0) + sg (ampW (dM h) 0 (h 104 12) 0 (-1) s δ) (w + 1)) → Wp mX12_clashes (kR fr 0 0) (rI (fun x h' => (keepM h h' ∧ h' 98 0 = h 98 0) ∧ x = clashN (lamR (ampR h) (sngM h) (h 98 66) n) (h 98 1) (h 98 5) (fun s => h 105 s) n.toNat)) (0, 0) 198 [zR 98, zI n, zI u, zI s, zI w, x5, x6] [] 137 h3 :=
          fun h3 x5 x6 G3 => bX12_clashes_198 (kk := ihw (w + 1) h3 _ _ (by omega) G3)
        refine bX12_clashes_58 (r2 := by rw [f98]; omega) (kt := fun q => by rw [f98] at q; omega) (kf := fun _ => ?_)
        have el : bAnd (h 100 (6 * w + 4) / 2 ^ (h 99 (2 * s + 1)).toNat) 1 = if bt (h 100 (6 * w + 4)) (h 99 (2 * s + 1)).toNat = true then 1 else 0 := bit_look hsw'.1 hsr.2.1
        refine bX12_clashes_67 (r3 := by rw [f99]; omega) (r4 := by rw [f100]; omega) (r5 := bAnd_R _ _) (kt := fun q2 => ?_) (kf := fun q2 => ?_)
        rotate_left
        · rw [f100, f99, el] at q2
          have hbt : bt (h 100 (6 * w + 4)) (h 99 (2 * s + 1)).toNat = true := by
            cases hb : bt (h 100 (6 * w + 4)) (h 99 (2 * s + 1)).toNat with
            | true => rfl
            | false => rw [hb] at q2; simp at q2
          have hm : mute (dM h) (-1) s w = true := by
            unfold mute
            rw [show bt (dM h 6 w) (dM h 2 s).toNat = true from hbt, Bool.or_true]
          refine bX12_clashes_96 (kk := next h2 _ _ (grownR_eq G (fun δ => ?_)))
          rw [sg]
          have : ampW (dM h) 0 (h 104 12) 0 (-1) s δ w = 0 := by unfold ampW; rw [if_pos hm]
          omega
        rw [f100, f99, el] at q2
        have hbt : bt (h 100 (6 * w + 4)) (h 99 (2 * s + 1)).toNat = false := by
          cases hb : bt (h 100 (6 * w + 4)) (h 99 (2 * s + 1)).toNat with
          | false => rfl
          | true => rw [hb] at q2; simp at q2
        have hm : mute (dM h) (-1) s w = false := by
          unfold mute
          rw [show bt (dM h 6 w) (dM h 2 s).toNat = false from hbt, decide_eq_false (by omega)]
          rfl
        have efo : foggy (dM h) 0 w = h 100 (6 * w + 3) := foggy0 _ _
        refine bX12_clashes_99 (kk := ?_)
        rw [f99]
        have inner : ∀ (d2 m : Nat) (h3 : AH), (m : Int) + d2 = h 100 (6 * w + 5) → grownR h1 h3 s u n (fun δ => ((if δ = 0 then h 99 (2 * s) else 0) + sg (ampW (dM h) 0 (h 104 12) 0 (-1) s δ) w) + sg (ampN (dM h) 0 (h 104 12) 0 s δ w) m) → Wp mX12_clashes (kR fr 0 0) (rI (fun x h' => (keepM h h' ∧ h' 98 0 = h 98 0) ∧ x = clashN (lamR (ampR h) (sngM h) (h 98 66) n) (h 98 1) (h 98 5) (fun s => h 105 s) n.toNat)) (0, 0) 112 [zR 98, zI n, zI u, zI s, zI w, zI (vol (h 99 (2 * s)) (h 100 (6 * w + 3)) m), zI ((m : Int) + 1)] [] 137 h3 := by
          intro d2
          induction d2 with
          | zero =>
            intro m h3 hm2 G2
            have g100 : h3 100 = h 100 := by rw [G2.1 100 (by decide), hr.1 100 (by decide), e100]
            refine bX12_clashes_112 (r3 := by rw [g100]; omega) (kt := fun _ => ?_) (kf := fun q3 => by rw [g100] at q3; omega)
            refine next h3 _ _ (grownR_eq G2 (fun δ => ?_))
            rw [sg]
            have : ampW (dM h) 0 (h 104 12) 0 (-1) s δ w = sg (ampN (dM h) 0 (h 104 12) 0 s δ w) m := by
              unfold ampW
              rw [if_neg (by rw [hm]; decide)]
              congr 1
              show (h 100 (6 * w + 5)).toNat = m
              omega
            omega
          | succ d2 ih2 =>
            intro m h3 hm2 G2
            have g100 : h3 100 = h 100 := by rw [G2.1 100 (by decide), hr.1 100 (by decide), e100]
            have g104 : h3 104 = h 104 := by rw [G2.1 104 (by decide), hr.1 104 (by decide), e104]
            refine bX12_clashes_112 (r3 := by rw [g100]; omega) (kt := fun q3 => by rw [g100] at q3; omega) (kf := fun _ => ?_)
            have hv := vol_rng (a := h 99 (2 * s)) (sh := h 100 (6 * w + 3)) (by omega) hsr.1.2 hsh'.1 hsh'.2 m
            have hv1 := vol_rng (a := h 99 (2 * s)) (sh := h 100 (6 * w + 3)) (by omega) hsr.1.2 hsh'.1 hsh'.2 (m + 1)
            have hm1 := mul_rng hv.1 hv.2 hsh'.1 hsh'.2
            have hm2' := mul_rng hv1.1 hv1.2 hai.1 hai.2
            have hnd := mul_rng (a := (m : Int) + 1) (b := h 100 (6 * w)) (A := 3) (B := 40) (by omega) (by omega) (by omega) hdl'.2
            have a0 : 0 ≤ ((u : Int) + ((m : Int) + 1) * h 100 (6 * w)) % n := Int.emod_nonneg _ (by omega)
            have a1 : ((u : Int) + ((m : Int) + 1) * h 100 (6 * w)) % n < n := Int.emod_lt_of_pos _ n0'
            refine bX12_clashes_129 (r2 := by rw [g100]; exact ⟨hm1.1, Int.lt_of_le_of_lt hm1.2 (by decide)⟩) (r4 := by rw [g100]; omega) (r5 := by omega) (r6 := by rw [g100]; omega) (r7 := by rw [g100, g104]; exact ⟨hm2'.1, Int.lt_of_le_of_lt hm2'.2 (by decide)⟩) (kk := ?_)
            rw [g100, g104]
            have G3 := grownR_s (x := vol (h 99 (2 * s)) (h 100 (6 * w + 3)) m * h 100 (6 * w + 3) / 100 * h 104 12 / 100) (δ := ((m : Int) + 1) * h 100 (6 * w)) s0 n0' (by omega) G2
            have := ih2 (m + 1) _ (by omega) (grownR_eq G3 (fun δ => ?_))
            · have e9 : ((m + 1 : Nat) : Int) + 1 = (m : Int) + 1 + 1 := by omega
              rw [e9] at this
              exact this
            · rw [sg]
              have : ampN (dM h) 0 (h 104 12) 0 s δ w m = if δ = ((m : Int) + 1) * h 100 (6 * w) then vol (h 99 (2 * s)) (h 100 (6 * w + 3)) m * h 100 (6 * w + 3) / 100 * h 104 12 / 100 else 0 := by
                unfold ampN
                rw [edl, efo]
                rfl
              rw [this]
              omega
        exact inner (h 100 (6 * w + 5)).toNat 0 h2 (by omega) (grownR_eq G (fun δ => by simp [sg]))
    exact loop (h 98 2).toNat 0 _ _ _ (by omega) (grownR_eq G0 (fun δ => by simp [sg]))
