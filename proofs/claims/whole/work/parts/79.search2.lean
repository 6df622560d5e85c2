/-! ===== the class: search ===== -/
theorem bstL_cong {Λ M : Int → Int → Int} {nS t : Int} {h : AH} (e : ∀ t' s, 0 ≤ t' → t' < t → 0 ≤ s → s < nS → Λ t' s = M t' s) (hb : bstL Λ nS h t) : bstL M nS h t := fun t' a b => ⟨(hb t' a b).1, bestOf_cong (fun s p q => e t' s a b p q) (hb t' a b).2⟩
theorem bstL_same {Λ : Int → Int → Int} {nS t : Int} {h h' : AH} (e : ∀ t', 0 ≤ t' → t' < t → h' 52 t' = h 52 t' ∧ h' 53 t' = h 53 t') (hb : bstL Λ nS h t) : bstL Λ nS h' t := fun t' a b => by
  rw [(e t' a b).1, (e t' a b).2]; exact hb t' a b
theorem c_search {g ai nS l w m : Int} {A : Int → Int → Int} {tl P : Int → Int} {n : Nat} (n14 : n ≤ 14) (hai : 0 ≤ ai ∧ ai ≤ 100) (htl : ∀ t, 0 ≤ t → t < 60 → -1 ≤ tl t ∧ tl t < nS) (n8 : nS ≤ 8) (hsp : spotR tl P n) (hA : ∀ s d, d < 0 → A s d = 0) (hw : 0 ≤ w) : ∀ (d : Nat) {fr i : Nat} {x last : Int} {S : Int → Prop} {h : AH}, d + 5 ≤ fr → i + d = n → trC h g ai A tl P n nS l w m → sumZ h → (0 ≤ x ∧ x < 16384) → (∀ j, i ≤ j → bt x j = false) → (-1 ≤ last ∧ last < 60) → last < nxt P n i → (∀ k : Nat, k < n → bt x k = true → P k ≤ last) → sayX h tl P n i x → bstL (lamX A tl P n x) nS h (nxt P n i) → (∀ t, 0 ≤ t → t < nxt P n i → HeardR (lamX A tl P n x) nS l w m t (tl t)) → (∀ y, S y → ¬ extS n i x y) → ansR S (h 89 0) (h 89 1) (h 89 2) →
    Sp mX9_search true fr 0 0 [zR 88, zI i, zI x, zI last] 137 h (rV (fun h' => (kpT h h' ∧ sumZ h' ∧ (∀ u, (∀ k : Nat, i ≤ k → k < n → ¬ u = P k) → h' 90 u = h 90 u) ∧ ∀ t', 0 ≤ t' → t' < nxt P n i → h' 52 t' = h 52 t' ∧ h' 53 t' = h 53 t') ∧ ansR (fun y => S y ∨ (extS n i x y ∧ OKx A tl P n nS l w m y)) (h' 89 0) (h' 89 1) (h' 89 2))) := by
  intro d
  induction d with
  | zero =>
    intro fr i x last S h hfr hi ht hz hx hxi hla hln hlk hsx hb hh hn ha
    have f4 := ht.2.1.1
    have en : i = n := by omega
    subst en
    refine Sp.mk yX9_search_ok rfl rfl ?_
    refine bX9_search_0 (kt := fun q => by omega) (kf := fun _ => ?_)
    have n60 : nxt P i i = 60 := if_neg (by omega)
    have exx : extS i i x x := ⟨hx, fun _ _ => rfl, hxi⟩
    refine bX9_search_8 (hS := c_take (by omega) hx.1 hx.2 (fun z => hn x z exx) ha) (kk := ?_)
    rintro h1 ⟨k1, a1⟩
    refine bX9_search_13 (hq := ⟨rfl, rfl, ⟨fun c _ _ _ _ p _ => k1 c p, fun s p q => by rw [k1 54 (by decide)]; exact hz s p q, fun u _ => by rw [k1 90 (by decide)], fun t' _ _ => by rw [k1 52 (by decide), k1 53 (by decide)]; exact ⟨rfl, rfl⟩⟩, a1.cong (fun y p q => ?_)⟩)
    constructor
    · rintro (z | z)
      · exact Or.inl z
      · rw [z]
        exact Or.inr ⟨exx, fun t a b => hh t a (by rw [n60]; exact b)⟩
    · rintro (z | ⟨⟨z1, z2, z3⟩, -⟩)
      · exact Or.inl z
      · refine Or.inr (bt_ext z1.1 hx.1 (fun j => ?_))
        by_cases c : j < i
        · exact z2 j c
        · rw [z3 j (by omega), hxi j (by omega)]
  | succ d ih =>
    intro fr i x last S h hfr hi ht hz hx hxi hla hln hlk hsx hb hh hn ha
    have f4 := ht.2.1.1
    have f91 := ht.2.1.2
    have iN : i < n := by omega
    have n_i : nxt P n i = P i := if_pos iN
    have pi := hsp.2 i iN
    have tli : ¬ tl (P i) = -1 := by
      have r : ¬ tl (((P i).toNat : Nat) : Int) = -1 := of_decide_eq_true pi.2.1
      rw [show (((P i).toNat : Nat) : Int) = P i by omega] at r
      exact r
    have t0 := htl (P i) pi.1.1 pi.1.2
    have nx : P i < nxt P n (i + 1) ∧ nxt P n (i + 1) ≤ 60 := by
      unfold nxt
      by_cases c : i + 1 < n
      · rw [if_pos c]
        have := hsp.lt (show i < i + 1 by omega) c
        have := (hsp.2 (i + 1) c).1
        exact ⟨by assumption, by omega⟩
      · rw [if_neg c]; omega
    rw [n_i] at hln hb hh ⊢
    have e91 : h 91 (i : Int) = P i := f91 i iN
    refine Sp.mk yX9_search_ok rfl rfl ?_
    refine bX9_search_0 (kt := fun _ => ?_) (kf := fun q => by omega)
    generalize hQ : (fun h' : AH => (kpT h h' ∧ sumZ h' ∧ (∀ u, (∀ k : Nat, i ≤ k → k < n → ¬ u = P k) → h' 90 u = h 90 u) ∧ ∀ t', 0 ≤ t' → t' < P i → h' 52 t' = h 52 t' ∧ h' 53 t' = h 53 t') ∧ ansR (fun y => S y ∨ (extS n i x y ∧ OKx A tl P n nS l w m y)) (h' 89 0) (h' 89 1) (h' 89 2)) = Q
    suffices K : Wp mX9_search (kR fr 0 0) (rV Q) (0, 0) 45 [zR 88, zI i, zI x, zI last, zI (P i), none] [zI (nxt P n (i + 1))] 137 h by
      refine bX9_search_14 (kt := fun q => ?_) (kf := fun q => ?_)
      · rw [e91]
        have e : nxt P n (i + 1) = 60 := if_neg (by omega)
        rw [e] at K
        exact bX9_search_43 (kk := K)
      · rw [e91]
        refine bX9_search_32 (kk := ?_)
        have c : i + 1 < n := by omega
        have e : nxt P n (i + 1) = P ((i + 1 : Nat) : Int) := if_pos c
        have e2 := f91 (i + 1) c
        rw [← e] at e2
        have e3 : h 91 ((i : Int) + 1) = nxt P n (i + 1) := e2
        rw [e3]
        exact K
    -- the second half
    have J : ∀ h2 : AH, kpT h h2 → sumZ h2 → (∀ u, (∀ k : Nat, i ≤ k → k < n → ¬ u = P k) → h2 90 u = h 90 u) → (∀ t', 0 ≤ t' → t' < P i → h2 52 t' = h 52 t' ∧ h2 53 t' = h 53 t') → ansR (fun y => S y ∨ (extS n (i + 1) x y ∧ OKx A tl P n nS l w m y)) (h2 89 0) (h2 89 1) (h2 89 2) → Wp mX9_search (kR fr 0 0) (rV Q) (0, 0) 76 [zR 88, zI i, zI x, zI last, zI (P i), zI (nxt P n (i + 1))] [] 137 h2 := by
      intro h2 k2 z2 u2 o2 a2
      have t2 := ht.keep k2
      have f6 : h2 88 6 = 34 := t2.1.2.2.1
      have ev : h2 (h2 88 6 + 2) (P i) = tl (P i) := by rw [f6]; exact t2.2.2.2.2.1 (P i) pi.1.1 pi.1.2
      have em : max 0 (h2 (h2 88 6 + 2) (P i)) = tl (P i) := by rw [ev]; omega
      obtain ⟨b1, b2⟩ := one16 (s := (i : Int)) (by omega) (by omega)
      obtain ⟨b3, b4, b5, b6⟩ := bit_set (x := x) (s := (i : Int)) (N := 14) hx.1 (by omega) (by omega) (by omega) (by decide)
      rw [show ((i : Int)).toNat = i by omega] at b4 b5 b6
      generalize hx' : bOr x (1 * 2 ^ i) = x' at b4 b5 b6
      have b6' : ∀ j, bt x' j = (bt x j || decide (j = i)) := b6
      have bi : bt x' i = true := by rw [b6']; simp
      have bj : ∀ j, j ≠ i → bt x' j = bt x j := fun j hj => by rw [b6']; simp [hj]
      have far : ∀ t s, t < P i → lamX A tl P n x' t s = lamX A tl P n x t s := fun t s p => lamX_far (i := i) hA (fun j hj => bj j (by omega)) (fun k hk hkn => by have := hsp.nx hk hkn; omega)
      have kup := kpT.up90 h2 (P i) (1 * 2 ^ (tl (P i)).toNat)
      have sx3 : sayX (up h2 90 (P i) (1 * 2 ^ (tl (P i)).toNat)) tl P n (i + 1) x' := by
        refine ⟨fun k hk b => ?_, fun k hk b => ?_, fun u p q r => ?_⟩
        · by_cases e : k = i
          · rw [e, up_ci]
          · have c : P k ≠ P i := fun z => e (hsp.inj (by omega) iN z)
            rw [up_cn c, u2 (P k) (fun j p q r => by have := hsp.inj (by omega) q r; omega)]
            exact hsx.1 k (by omega) (by rw [← bj k e]; exact b)
        · by_cases e : k = i
          · rw [e, bi] at b; cases b
          · have c : P k ≠ P i := fun z => e (hsp.inj (by omega) iN z)
            rw [up_cn c, u2 (P k) (fun j p q r => by have := hsp.inj (by omega) q r; omega)]
            exact hsx.2.1 k (by omega) (by rw [← bj k e]; exact b)
        · rw [up_cn (fun z => r i iN z.symm), u2 u (fun k p1 p2 p3 => r k p2 p3.symm)]
          exact hsx.2.2 u p q r
      have lk3 : ∀ k : Nat, k < n → bt x' k = true → P k ≤ P i := fun k hk b => by
        by_cases e : k = i
        · rw [e]; exact Int.le_refl _
        · rw [bj k e] at b
          have := hlk k hk b
          omega
      refine bX9_search_76 (c1 := by rw [f6]; exact e34) (r3 := by rw [ev]; omega) (r4 := by rw [em]; omega) (hS := by rw [em]; exact c_told (i := i + 1) (x := x') (by omega) (t2.keep kup) hai (fun s p q => by rw [up_n (by decide)]; exact z2 s p q) htl hsp sx3 (by omega) nx.1 lk3 (by omega) (bstL_same (fun t' p q => by rw [up_n (by decide), up_n (by decide)]; exact o2 t' p q) (bstL_cong (fun t' s p q _ _ => (far t' s q).symm) hb))) (kk := ?_)
      rintro r h4 ⟨⟨k4, z4, o4⟩, c4⟩
      have kk4 : kpT h h4 := k2.tr (kup.tr (kpT.of5 k4))
      have e90 : h4 90 = up h2 90 (P i) (1 * 2 ^ (tl (P i)).toNat) 90 := k4 90 (by decide) (by decide) (by decide) (by decide)
      have e89 : h4 89 = h2 89 := by rw [k4 89 (by decide) (by decide) (by decide) (by decide), up_n (by decide)]
      have u4 : ∀ u, (∀ k : Nat, i ≤ k → k < n → ¬ u = P k) → h4 90 u = h 90 u := fun u hu => by
        rw [e90, up_cn (hu i (by omega) iN), u2 u hu]
      have o4' : ∀ t', 0 ≤ t' → t' < P i → h4 52 t' = h 52 t' ∧ h4 53 t' = h 53 t' := fun t' p q => by
        rw [(o4 t' p q).1, (o4 t' p q).2, up_n (by decide), up_n (by decide)]; exact o2 t' p q
      have split : ∀ y, 0 ≤ y → y < 16384 → (extS n i x y ↔ (extS n (i + 1) x y ∨ extS n (i + 1) x' y)) := fun y p q => by
        constructor
        · rintro ⟨e1, e2, e3⟩
          by_cases c : bt y i = true
          · refine Or.inr ⟨e1, fun j hj => ?_, e3⟩
            by_cases e : j = i
            · rw [e, c, bi]
            · rw [bj j e]; exact e2 j (by omega)
          · refine Or.inl ⟨e1, fun j hj => ?_, e3⟩
            by_cases e : j = i
            · rw [e, hxi i (by omega)]; simpa using c
            · exact e2 j (by omega)
        · rintro (⟨e1, e2, e3⟩ | ⟨e1, e2, e3⟩)
          · exact ⟨e1, fun j hj => e2 j (by omega), e3⟩
          · exact ⟨e1, fun j hj => by rw [e2 j (by omega), bj j (by omega)], e3⟩
      refine bX9_search_109 (r1 := by rcases c4 with c | c <;> omega) (kt := fun q => ?_) (kf := fun q => ?_)
      · rcases c4 with ⟨c, -⟩ | ⟨-, t, c1, c2, c3⟩
        · omega
        refine bX9_search_126 (hq := ⟨rfl, rfl, ?_⟩)
        rw [← hQ]
        refine ⟨⟨kk4, z4, u4, o4'⟩, ?_⟩
        rw [e89]
        refine a2.cong (fun y p q => ?_)
        rw [split y p q]
        constructor
        · rintro (z | ⟨z1, z2⟩)
          · exact Or.inl z
          · exact Or.inr ⟨Or.inl z1, z2⟩
        · rintro (z | ⟨z1 | z1, z2⟩)
          · exact Or.inl z
          · exact Or.inr ⟨z1, z2⟩
          · exact absurd z2 (OKx.not hA hw hsp z1.2.1 (by omega) c2 (by omega) c3)
      · rcases c4 with ⟨-, c2, c3⟩ | ⟨c, -⟩
        rotate_left
        · omega
        refine bX9_search_112 (r1 := by omega) (hS := by
          rw [show ((i : Int)).toNat = i by omega, hx', show (i : Int) + 1 = ((i + 1 : Nat) : Int) by omega]
          exact ih (i := i + 1) (x := x') (last := P i) (S := fun y => S y ∨ (extS n (i + 1) x y ∧ OKx A tl P n nS l w m y)) (by omega) (by omega) (ht.keep kk4) z4 ⟨b4, by omega⟩ (fun j hj => by rw [bj j (by omega)]; exact hxi j (by omega)) (by omega) nx.1 lk3 (by unfold sayX; rw [e90]; exact sx3) c2 (fun t p q => by
            by_cases c : P i ≤ t
            · exact c3 t c q
            · exact HeardR.cong (fun t' s _ _ a _ _ => (far t' s (by omega)).symm) p hw (hh t p (by omega))) (fun y z e => by
            rcases z with z | ⟨z, -⟩
            · exact hn y z ((split y e.1.1 e.1.2).mpr (Or.inr e))
            · have p1 := z.2.1 i (by omega)
              have p2 := e.2.1 i (by omega)
              rw [hxi i (by omega)] at p1
              rw [bi, p1] at p2
              cases p2) (by rw [e89]; exact a2)) (kk := ?_)
        rintro h5 ⟨⟨k5, z5, u5, o5⟩, a5⟩
        refine bX9_search_126 (hq := ⟨rfl, rfl, ?_⟩)
        rw [← hQ]
        refine ⟨⟨kk4.tr k5, z5, fun u hu => ?_, fun t' p q => ?_⟩, a5.cong (fun y p q => ?_)⟩
        · rw [u5 u (fun k a b => hu k (by omega) b), u4 u hu]
        · have := o5 t' p (by omega)
          rw [this.1, this.2]; exact o4' t' p q
        · rw [split y p q]
          constructor
          · rintro ((z | ⟨z1, z2⟩) | ⟨z1, z2⟩)
            · exact Or.inl z
            · exact Or.inr ⟨Or.inl z1, z2⟩
            · exact Or.inr ⟨Or.inr z1, z2⟩
          · rintro (z | ⟨z1 | z1, z2⟩)
            · exact Or.inl (Or.inl z)
            · exact Or.inl (Or.inr ⟨z1, z2⟩)
            · exact Or.inr ⟨z1, z2⟩
    -- the first half
    have kup := kpT.up90 h (P i) 0
    have sx1 : sayX (up h 90 (P i) 0) tl P n (i + 1) x := by
      refine ⟨fun k hk b => ?_, fun k hk b => ?_, fun u p q r => ?_⟩
      · by_cases e : k = i
        · rw [e, hxi i (by omega)] at b; cases b
        · rw [up_cn (fun z => e (hsp.inj (by omega) iN z))]
          exact hsx.1 k (by omega) b
      · by_cases e : k = i
        · rw [e, up_ci]
        · rw [up_cn (fun z => e (hsp.inj (by omega) iN z))]
          exact hsx.2.1 k (by omega) b
      · rw [up_cn (fun z => r i iN z.symm)]
        exact hsx.2.2 u p q r
    refine bX9_search_45 (hS := c_told (i := i + 1) (x := x) (by omega) (ht.keep kup) hai (fun s p q => by rw [up_n (by decide)]; exact hz s p q) htl hsp sx1 hla (by omega) hlk (by omega) (bstL_same (fun t' p q => by rw [up_n (by decide), up_n (by decide)]; exact ⟨rfl, rfl⟩) hb)) (kk := ?_)
    rintro r h1 ⟨⟨k1, z1, o1⟩, c1⟩
    have kk1 : kpT h h1 := kup.tr (kpT.of5 k1)
    have e90 : h1 90 = up h 90 (P i) 0 90 := k1 90 (by decide) (by decide) (by decide) (by decide)
    have e89 : h1 89 = h 89 := by rw [k1 89 (by decide) (by decide) (by decide) (by decide), up_n (by decide)]
    have u1 : ∀ u, (∀ k : Nat, i ≤ k → k < n → ¬ u = P k) → h1 90 u = h 90 u := fun u hu => by
      rw [e90, up_cn (hu i (by omega) iN)]
    have o1' : ∀ t', 0 ≤ t' → t' < P i → h1 52 t' = h 52 t' ∧ h1 53 t' = h 53 t' := fun t' p q => by
      rw [(o1 t' p q).1, (o1 t' p q).2, up_n (by decide), up_n (by decide)]; exact ⟨rfl, rfl⟩
    refine bX9_search_64 (r1 := by rcases c1 with c | c <;> omega) (kt := fun q => ?_) (kf := fun q => ?_)
    · rcases c1 with ⟨c, -⟩ | ⟨-, t, c1, c2, c3⟩
      · omega
      refine J h1 kk1 z1 u1 o1' ?_
      rw [e89]
      refine ha.cong (fun y p q => ⟨fun z => Or.inl z, ?_⟩)
      rintro (z | ⟨z1, z2⟩)
      · exact z
      · exact absurd z2 (OKx.not hA hw hsp z1.2.1 (by omega) c2 (by omega) c3)
    · rcases c1 with ⟨-, c2, c3⟩ | ⟨c, -⟩
      rotate_left
      · omega
      refine bX9_search_67 (hS := by
        rw [show (i : Int) + 1 = ((i + 1 : Nat) : Int) by omega]
        exact ih (i := i + 1) (x := x) (last := last) (S := S) (by omega) (by omega) (ht.keep kk1) z1 hx (fun j hj => hxi j (by omega)) hla (by omega) hlk (by unfold sayX; rw [e90]; exact sx1) c2 (fun t p q => by
          by_cases c : P i ≤ t
          · exact c3 t c q
          · exact hh t p (by omega)) (fun y z e => hn y z ⟨e.1, fun j hj => e.2.1 j (by omega), e.2.2⟩) (by rw [e89]; exact ha)) (kk := ?_)
      rintro h5 ⟨⟨k5, z5, u5, o5⟩, a5⟩
      refine J h5 (kk1.tr k5) z5 (fun u hu => by rw [u5 u (fun k a b => hu k (by omega) b), u1 u hu]) (fun t' p q => ?_) a5
      have := o5 t' p (by omega)
      rw [this.1, this.2]; exact o1' t' p q
