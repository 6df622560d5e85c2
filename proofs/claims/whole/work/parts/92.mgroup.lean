/-! ===== the model: group ===== -/
theorem bG_62 {fr M1 M2 b1 b2 : Nat} {Q : RS → Nat → AH → Prop} {h : AH} {l1 l2 l3 l4 s2 s1 s0 : Int} {x5 x6 : AV}  (r1 : -2147483648 ≤ s0 ∧ s0 < 2147483648 := by omega) (r2 : -2147483648 ≤ l1 ∧ l1 < 2147483648 := by omega) (kt : ¬ s0 = l1 → Wp mX12_group (kR fr M1 M2) Q (b1, b2) 73 [zR 98, zI l1, zI l2, zI l3, zI l4, none, none] [zL s1, zI s2, zR 126] 137 h) (kf : s0 = l1 → Wp mX12_group (kR fr M1 M2) Q (b1, b2) 66 [zR 98, zI l1, zI l2, zI l3, zI l4, none, none] [zL s1, zI s2, zR 126] 137 h) : Wp mX12_group (kR fr M1 M2) Q (b1, b2) 62 [zR 98, zI l1, zI l2, zI l3, zI l4, x5, x6] [zI s0, zL s1, zI s2, zR 126] 137 h := by
  refine s_fgt (fgt_c (fgt_c (fgt_c (fgt_c (fgt_c (fgt_n _ (fgt_n _ fgt_0))))))) ?_
  refine s_iload_n (x := l1) dX12_group_62 rfl ?_
  exact s_icmp_ne (tgt := 73) dX12_group_63 (by decide) r1 r2 kt kf
theorem bG_66 {fr M1 M2 b1 b2 : Nat} {Q : RS → Nat → AH → Prop} {h : AH} {l1 l2 l3 l4 s1 s0 : Int} {x5 x6 : AV}   (kk : Wp mX12_group (kR fr M1 M2) Q (b1, b2) 74 [zR 98, zI l1, zI l2, zI l3, zI l4, none, none] [zL (lShl 1 l4), zL s0, zI s1, zR 126] 137 h) : Wp mX12_group (kR fr M1 M2) Q (b1, b2) 66 [zR 98, zI l1, zI l2, zI l3, zI l4, x5, x6] [zL s0, zI s1, zR 126] 137 h := by
  refine s_fgt (fgt_c (fgt_c (fgt_c (fgt_c (fgt_c (fgt_n _ (fgt_n _ fgt_0))))))) ?_
  refine s_lconst (v := 1) dX12_group_66 (by decide) ?_
  refine s_iload (x := l4) dX12_group_67 rfl ?_
  refine s_lshl dX12_group_69 ?_
  exact s_goto (tgt := 74) dX12_group_70 (by decide) kk
theorem bG_73 {fr M1 M2 b1 b2 : Nat} {Q : RS → Nat → AH → Prop} {h : AH} {l1 l2 l3 l4 s1 s0 : Int} {x5 x6 : AV}   (kk : Wp mX12_group (kR fr M1 M2) Q (b1, b2) 74 [zR 98, zI l1, zI l2, zI l3, zI l4, none, none] [zL 0, zL s0, zI s1, zR 126] 137 h) : Wp mX12_group (kR fr M1 M2) Q (b1, b2) 73 [zR 98, zI l1, zI l2, zI l3, zI l4, x5, x6] [zL s0, zI s1, zR 126] 137 h := by
  refine s_fgt (fgt_c (fgt_c (fgt_c (fgt_c (fgt_c (fgt_n _ (fgt_n _ fgt_0))))))) ?_
  refine s_lconst (v := 0) dX12_group_73 (by decide) ?_
  exact kk
theorem bG_74 {fr M1 M2 b1 b2 : Nat} {Q : RS → Nat → AH → Prop} {h : AH} {l1 l2 l3 l4 s2 s1 s0 : Int} {x5 x6 : AV}  (r1 : 0 ≤ s2 ∧ s2 < 1351 := by omega) (kk : Wp mX12_group (kR fr M1 M2) Q (b1, b2) 42 [zR 98, zI l1, zI l2, zI l3, zI (l4 + 1), none, none] [] 137 (up h 126 s2 (lOr s1 s0))) : Wp mX12_group (kR fr M1 M2) Q (b1, b2) 74 [zR 98, zI l1, zI l2, zI l3, zI l4, x5, x6] [zL s0, zL s1, zI s2, zR 126] 137 h := by
  refine s_fgt (fgt_c (fgt_c (fgt_c (fgt_c (fgt_c (fgt_n _ (fgt_n _ fgt_0))))))) ?_
  refine s_lor dX12_group_74 ?_
  refine s_last (c := 126) (i := s2) dX12_group_75 e126 r1.1 r1.2 ?_
  refine s_iinc (x := l4) dX12_group_76 rfl rfl (by decide) ?_
  exact s_goto (tgt := 42) dX12_group_79 (by decide) kk
theorem lOr_nat {a b : Nat} (h : a ||| b < 2 ^ 63) : lOr a b = ((a ||| b : Nat) : Int) := by
  unfold lOr
  refine Eq.trans (congrArg Int64.toInt (a₂ := Int64.ofInt ((a ||| b : Nat) : Int)) ?_) (Int64.toInt_ofInt_of_le (by omega) (by omega))
  apply Int64.toBitVec_inj.mp
  apply BitVec.eq_of_toNat_eq
  show (BitVec.ofNat 64 a ||| BitVec.ofNat 64 b).toNat = (BitVec.ofNat 64 (a ||| b)).toNat
  rw [BitVec.toNat_or, BitVec.toNat_ofNat, BitVec.toNat_ofNat, BitVec.toNat_ofNat, Nat.or_mod_two_pow]
theorem lShl_1 : ∀ t : Fin 60, lShl 1 (t.val : Int) = ((2 ^ t.val : Nat) : Int) := by decide +kernel
theorem lOr_new {x : Int} {t : Nat} (x0 : 0 ≤ x) (x1 : x < 2 ^ t) (ht : t < 60) : lOr x (lShl 1 t) = x + 2 ^ t := by
  rw [lShl_1 ⟨t, ht⟩, pow_nat] at *
  obtain ⟨a, rfl⟩ : ∃ a : Nat, x = a := ⟨x.toNat, by omega⟩
  have e : a ||| 2 ^ t = a + 2 ^ t := by
    have q := Nat.two_pow_add_eq_or_of_lt (i := t) (b := a) (Int.ofNat_lt.mp x1) 1
    rw [Nat.mul_one] at q
    rw [Nat.or_comm, ← q, Nat.add_comm]
  have h1 : 2 ^ t < 2 ^ 60 := Nat.pow_lt_pow_right (by decide) ht
  show lOr (a : Int) ((2 ^ t : Nat) : Int) = _
  rw [lOr_nat (by rw [e]; omega), e]
  push_cast
  rfl
theorem lOr_none {x : Int} (x0 : 0 ≤ x) (x1 : x < 2 ^ 60) : lOr x 0 = x := by
  obtain ⟨a, rfl⟩ : ∃ a : Nat, x = a := ⟨x.toNat, by omega⟩
  have := lOr_nat (a := a) (b := 0) (by rw [Nat.or_zero]; omega)
  rw [Nat.or_zero] at this
  exact this
def rowV (p : Nat → Bool) (n : Nat) : Int := sg (fun t => if p t = true then 2 ^ t else 0) n
theorem rowV_rng (p : Nat → Bool) : ∀ n, 0 ≤ rowV p n ∧ rowV p n < 2 ^ n
  | 0 => by show (0 : Int) ≤ 0 ∧ (0 : Int) < 2 ^ 0; decide
  | n + 1 => by
    have := rowV_rng p n
    have e : rowV p (n + 1) = rowV p n + if p n = true then 2 ^ n else 0 := rfl
    have e2 : (2 : Int) ^ (n + 1) = 2 ^ n * 2 := Int.pow_succ _ _
    rw [e, e2]
    split <;> omega
theorem rowV_inj {p q : Nat → Bool} : ∀ {n : Nat}, rowV p n = rowV q n ↔ ∀ t, t < n → p t = q t
  | 0 => ⟨fun _ t h => by omega, fun _ => rfl⟩
  | n + 1 => by
    have a := rowV_rng p n
    have b := rowV_rng q n
    have e1 : rowV p (n + 1) = rowV p n + if p n = true then 2 ^ n else 0 := rfl
    have e2 : rowV q (n + 1) = rowV q n + if q n = true then 2 ^ n else 0 := rfl
    rw [e1, e2]
    constructor
    · intro h t ht
      have : rowV p n = rowV q n ∧ p n = q n := by
        cases hp : p n <;> cases hq : q n <;> simp [hp, hq] at h ⊢ <;> omega
      by_cases e : t = n
      · rw [e]; exact this.2
      · exact rowV_inj.mp this.1 t (by omega)
    · intro h
      rw [rowV_inj.mpr (fun t ht => h t (by omega)), h n (by omega)]
theorem cmp_eq {x y : Int} (hx : 0 ≤ x ∧ x < 2 ^ 60) (hy : 0 ≤ y ∧ y < 2 ^ 60) : (lg_cmp (Int64.ofInt x) (Int64.ofInt y)).toInt = 0 ↔ x = y := by
  have i : (lg_cmp (Int64.ofInt x) (Int64.ofInt y)).toInt = 0 ↔ lg_cmp (Int64.ofInt x) (Int64.ofInt y) = 0 := by
    constructor
    · intro h
      exact Int32.toInt_inj.mp h
    · intro h; rw [h]; rfl
  rw [i, lg_cmp_eq]
  constructor
  · intro h
    have := congrArg Int64.toInt h
    rw [Int64.toInt_ofInt_of_le (by omega) (by omega), Int64.toInt_ofInt_of_le (by omega) (by omega)] at this
    exact this
  · intro h; rw [h]
theorem cmp_rng (x y : Int64) : -2147483648 ≤ (lg_cmp x y).toInt ∧ (lg_cmp x y).toInt < 2147483648 := by
  unfold lg_cmp
  split
  · decide
  · split <;> decide
theorem cnt_enum {f : Nat → Int} {P : Int → Prop} : ∀ {n : Nat}, (∀ k, k < n → m20 (f k)) → (∀ i j, i < j → j < n → f i ≠ f j) → cntN (fun q => (∃ k, k < n ∧ f k = q) ∧ P q) = sg (fun k => if cl (P (f k)) = true then 1 else 0) n
  | 0, _, _ => cntN_none (fun y _ z => by obtain ⟨⟨k, a, -⟩, -⟩ := z; omega)
  | n + 1, hm, hi => by
    have ih := cnt_enum (P := P) (n := n) (fun k hk => hm k (by omega)) (fun i j a b => hi i j a (by omega))
    rw [sg, ← ih]
    by_cases c : P (f n)
    · rw [if_pos (cl_pos c), ← cntN_or (S := fun q => (∃ k, k < n ∧ f k = q) ∧ P q) (hm n (by omega)) (fun z => by
        obtain ⟨⟨k, a, b⟩, -⟩ := z
        exact hi k n a (by omega) b)]
      refine cntN_cong (fun q _ => ⟨fun z => ?_, fun z => ?_⟩)
      · obtain ⟨⟨k, a, b⟩, d⟩ := z
        by_cases e : k = n
        · rw [e] at b; exact Or.inr b.symm
        · exact Or.inl ⟨⟨k, by omega, b⟩, d⟩
      · rcases z with ⟨⟨k, a, b⟩, d⟩ | z
        · exact ⟨⟨k, by omega, b⟩, d⟩
        · rw [z]; exact ⟨⟨n, by omega, rfl⟩, c⟩
    · rw [if_neg (by rw [cl_neg c]; decide), Int.add_zero]
      refine cntN_cong (fun q _ => ⟨fun z => ?_, fun z => ?_⟩)
      · obtain ⟨⟨k, a, b⟩, d⟩ := z
        by_cases e : k = n
        · rw [e] at b; rw [← b] at d; exact absurd d c
        · exact ⟨⟨k, by omega, b⟩, d⟩
      · obtain ⟨⟨k, a, b⟩, d⟩ := z
        exact ⟨⟨k, by omega, b⟩, d⟩
theorem enR.cnt {R P : Int → Prop} {h : AH} (he : enR R h) (hR : ∀ y, R y → m20 y) : cntN (fun q => R q ∧ P q) = sg (fun k : Nat => if cl (P (h 125 k)) = true then 1 else 0) (h 98 72).toNat := by
  obtain ⟨a, b, c, d⟩ := he
  rw [← cnt_enum (f := fun k => h 125 k) (P := P) (n := (h 98 72).toNat) (fun k hk => hR _ (b k (by omega) (by omega))) (fun i j p q e => ?_)]
  · refine cntN_cong (fun q _ => ⟨fun z => ⟨?_, z.2⟩, fun z => ⟨?_, z.2⟩⟩)
    · obtain ⟨k, p, e⟩ := d q z.1
      exact ⟨k.toNat, by omega, by rw [← e, show ((k.toNat : Nat) : Int) = k by omega]⟩
    · obtain ⟨⟨k, p, e⟩, -⟩ := z
      rw [← e]; exact b k (by omega) (by omega)
  · have o := c i j (by omega) (by omega) (by omega)
    unfold ordP at o
    rw [e] at o
    omega
abbrev hdM (h : AH) (sh y s t : Int) : Prop := hdA (dM h 1) (thT (dM h) sh (h 104 12)) (h 98 1) (h 98 5) (h 98 6) (h 98 7) y s t
def EqM (h : AH) (sh : Int) : Int → Int → Int → Prop := eqA (dM h 1) (thT (dM h) sh (h 104 12)) (h 98 1) (h 98 5) (h 98 6) (h 98 7)
noncomputable abbrev rowM (h : AH) (sh y s : Int) (n : Nat) : Int := rowV (fun t : Nat => cl (hdM h sh y s t)) n
theorem m_group {fr : Nat} {s sh : Int} {R : Int → Prop} {h h0 : AH} (hf : 2 ≤ fr) (hsh : 1 ≤ sh ∧ sh ≤ 100) (ho : okM h) (k0 : keepM h h0) (s0 : 0 ≤ s) (s1 : s < h 98 1) (he : enR R h0) (hR : ∀ y, R y → m20 y) (hne : 0 < h0 98 72) :
    Sp mX12_group true fr 0 0 [zR 98, zI s, zI sh] 137 h0 (rI (fun x h' => ((keepM h h' ∧ h' 98 0 = h0 98 0) ∧ enR R h' ∧ h' 98 72 = h0 98 72) ∧ grpR R (EqM h sh s) x ∧ 0 ≤ x ∧ x ≤ 1351)) := by
  refine Sp.mk yX12_group_ok rfl rfl ?_
  obtain ⟨hd, h46, h47, -⟩ := id ho
  have hS : 0 ≤ h 98 1 ∧ h 98 1 ≤ 8 := hd.1
  have hL : 1 ≤ h 98 5 ∧ h 98 5 ≤ 99 := hd.2.2.2.2.1
  have hWi : 0 ≤ h 98 6 ∧ h 98 6 ≤ 9 := hd.2.2.2.2.2.1
  have hMa : 0 ≤ h 98 7 ∧ h 98 7 ≤ 99 := hd.2.2.2.2.2.2.1
  have hai : 0 ≤ h 104 12 ∧ h 104 12 ≤ 100 := hd.2.2.2.2.2.2.2.2.2.2.2.2.1 12 (by decide) (by decide)
  have n1351 := he.1
  generalize hN : h0 98 72 = N at n1351 hne
  generalize hQ : (rI (fun x h' => ((keepM h h' ∧ h' 98 0 = h0 98 0) ∧ enR R h' ∧ h' 98 72 = N) ∧ grpR R (EqM h sh s) x ∧ 0 ≤ x ∧ x ≤ 1351)) = Q
  have base : ∀ h1 : AH, Prop := fun h1 => (keepM h h1 ∧ h1 98 0 = h0 98 0) ∧ h1 125 = h0 125 ∧ h1 98 72 = N
  -- the second part
  have part2 : ∀ h1 : AH, (keepM h h1 ∧ h1 98 0 = h0 98 0) → h1 125 = h0 125 → h1 98 72 = N → (∀ k, 0 ≤ k → k < N → h1 126 k = rowM h sh (h0 125 k) s 60) → ∀ x1 x2 x3 x4 x5 x6 : AV, Wp mX12_group (kR fr 0 0) Q (0, 0) 88 [zR 98, x1, x2, x3, x4, x5, x6] [] 137 h1 := by
    intro h1 k1 e125 e72 rows x1 x2 x3 x4 x5 x6
    have C : ∀ r, 0 ≤ r → r < N → sg (fun k : Nat => if h1 126 k = h1 126 r then 1 else 0) N.toNat = cntN (fun q => R q ∧ EqM h sh s (h0 125 r) q) := fun r r0 r1 => by
      rw [he.cnt hR, hN]
      refine sg_cong (fun k hk => ?_)
      rw [rows k (by omega) (by omega), rows r r0 r1]
      have iff1 : (rowM h sh (h0 125 k) s 60 = rowM h sh (h0 125 r) s 60) ↔ EqM h sh s (h0 125 r) (h0 125 k) := by
        unfold rowM
        rw [rowV_inj]
        unfold EqM eqA
        constructor
        · intro z t t0 t6
          have := z t.toNat (by omega)
          rw [show ((t.toNat : Nat) : Int) = t by omega] at this
          have a1 := cl_iff (P := hdM h sh (h0 125 r) s t)
          have a2 := cl_iff (P := hdM h sh (h0 125 k) s t)
          rw [this] at a2
          exact a1.symm.trans a2
        · intro z t ht
          have := z t (by omega) (by omega)
          by_cases c : hdM h sh (h0 125 k) s t
          · rw [cl_pos c, cl_pos (this.mpr c)]
          · rw [cl_neg c, cl_neg (fun w => c (this.mp w))]
      by_cases c : rowM h sh (h0 125 k) s 60 = rowM h sh (h0 125 r) s 60
      · rw [if_pos c, if_pos (cl_pos (iff1.mp c))]
      · rw [if_neg c, if_neg (by rw [cl_neg (fun w => c (iff1.mpr w))]; decide)]
    have Cr : ∀ r, 0 ≤ r → r < N → 1 ≤ cntN (fun q => R q ∧ EqM h sh s (h0 125 r) q) := fun r r0 r1 => by
      have hr : R (h0 125 r) := he.2.1 r r0 (by omega)
      have := cntN_pos (S := fun q => R q ∧ EqM h sh s (h0 125 r) q) (hR _ hr) ⟨hr, fun _ _ _ => Iff.rfl⟩
      omega
    refine bX12_group_88 (kk := ?_)
    suffices O : ∀ (d : Nat) (r mo : Int) (x5 x6 x1 x2 : AV), 0 ≤ r → r + d = N → (0 ≤ mo ∧ mo ≤ N) → ((r = 0 ∧ mo = 0) ∨ ((∃ k, (0 ≤ k ∧ k < r) ∧ mo = cntN (fun q => R q ∧ EqM h sh s (h0 125 k) q)) ∧ ∀ k, 0 ≤ k → k < r → cntN (fun q => R q ∧ EqM h sh s (h0 125 k) q) ≤ mo)) → Wp mX12_group (kR fr 0 0) Q (0, 0) 93 [zR 98, x1, x2, zI mo, zI r, x5, x6] [] 137 h1 by
      exact O N.toNat 0 0 _ _ _ _ (by decide) (by omega) (by omega) (Or.inl ⟨rfl, rfl⟩)
    intro d
    induction d with
    | zero =>
      intro r mo x5 x6 x1 x2 r0 hr mr hm
      refine bX12_group_93 (kt := fun _ => ?_) (kf := fun q => by omega)
      refine bX12_group_170 (hq := ?_)
      rw [← hQ]
      refine ⟨_, rfl, rfl, ⟨k1, he.same (by rw [e72, hN]) e125, e72⟩, ?_, by omega⟩
      rcases hm with z | ⟨⟨k, p, e⟩, z⟩
      · omega
      refine ⟨⟨h0 125 k, he.2.1 k p.1 (by omega), e⟩, fun y hy => ?_⟩
      obtain ⟨j, q, e2⟩ := he.2.2.2 y hy
      rw [← e2]
      exact z j q.1 (by omega)
    | succ d ih =>
      intro r mo x5 x6 x1 x2 r0 hr mr hm
      refine bX12_group_93 (kt := fun q => by omega) (kf := fun _ => ?_)
      refine bX12_group_102 (kk := ?_)
      have Ce := C r r0 (by omega)
      have C1 := Cr r r0 (by omega)
      suffices I : ∀ (dq q : Nat) (x1 x2 : AV), (q : Int) + dq = N → Wp mX12_group (kR fr 0 0) Q (0, 0) 108 [zR 98, x1, x2, zI mo, zI r, zI (sg (fun k : Nat => if h1 126 k = h1 126 r then 1 else 0) q), zI q] [] 137 h1 by
        exact I N.toNat 0 _ _ (by omega)
      intro dq
      induction dq with
      | zero =>
        intro q x1 x2 hq
        have eq : q = N.toNat := by omega
        have cr := sg_rng (f := fun k : Nat => if h1 126 k = h1 126 r then 1 else 0) (B := 1) (n := N.toNat) (fun i _ => by split <;> decide)
        rw [Ce] at cr
        rw [eq, Ce]
        refine bX12_group_108 (kt := fun _ => ?_) (kf := fun w => by omega)
        refine bX12_group_151 (kt := fun w => ?_) (kf := fun w => ?_)
        · refine bX12_group_162 (kk := bX12_group_163 (kk := ih (r + 1) mo _ _ _ _ (by omega) (by omega) mr (Or.inr ?_)))
          rcases hm with z | ⟨⟨k, p, e⟩, z⟩
          · omega
          refine ⟨⟨k, by omega, e⟩, fun j a b => ?_⟩
          by_cases c : j = r
          · rw [c]; exact w
          · exact z j a (by omega)
        · refine bX12_group_157 (kk := bX12_group_163 (kk := ih (r + 1) _ _ _ _ _ (by omega) (by omega) (by omega) (Or.inr ⟨⟨r, by omega, rfl⟩, fun j a b => ?_⟩)))
          by_cases c : j = r
          · rw [c]; exact Int.le_refl _
          · rcases hm with z | ⟨-, z⟩
            · omega
            · have := z j a (by omega); omega
      | succ dq ihq =>
        intro q x1 x2 hq
        refine bX12_group_108 (kt := fun w => by omega) (kf := fun _ => ?_)
        have rq := rowV_rng (fun t : Nat => cl (hdM h sh (h0 125 q) s t)) 60
        have rr := rowV_rng (fun t : Nat => cl (hdM h sh (h0 125 r) s t)) 60
        have ce : (lg_cmp (Int64.ofInt (h1 126 q)) (Int64.ofInt (h1 126 r))).toInt = 0 ↔ h1 126 q = h1 126 r := by
          rw [rows q (by omega) (by omega), rows r r0 (by omega)]
          exact cmp_eq rq rr
        refine bX12_group_117 (r3 := cmp_rng _ _) (kt := fun w => ?_) (kf := fun w => ?_)
        · have := ihq (q + 1) none none (by omega)
          rw [sg, if_neg (fun z => w (ce.mpr z))] at this
          exact bX12_group_141 (kk := bX12_group_142 (kk := this))
        · have := ihq (q + 1) none none (by omega)
          rw [sg, if_pos (ce.mp w)] at this
          exact bX12_group_137 (kk := bX12_group_142 (kk := this))
  -- the first part
  refine bX12_group_0 (kk := ?_)
  suffices O : ∀ (d : Nat) (r : Int) (h1 : AH) (x4 x5 x6 : AV), 0 ≤ r → r + d = N → (keepM h h1 ∧ h1 98 0 = h0 98 0) → h1 125 = h0 125 → h1 98 72 = N → (∀ k, 0 ≤ k → k < r → h1 126 k = rowM h sh (h0 125 k) s 60) → Wp mX12_group (kR fr 0 0) Q (0, 0) 2 [zR 98, zI s, zI sh, zI r, x4, x5, x6] [] 137 h1 by
    exact O N.toNat 0 h0 _ _ _ (by decide) (by omega) ⟨k0, rfl⟩ rfl hN (fun k a b => by omega)
  intro d
  induction d with
  | zero =>
    intro r h1 x4 x5 x6 r0 hr k1 e125 e72 rows
    refine bX12_group_2 (kt := fun _ => part2 h1 k1 e125 e72 (fun k a b => rows k a (by omega)) _ _ _ _ _ _) (kf := fun q => by omega)
  | succ d ih =>
    intro r h1 x4 x5 x6 r0 hr k1 e125 e72 rows
    have hRr : R (h0 125 r) := he.2.1 r r0 (by omega)
    have my := hR _ hRr
    refine bX12_group_2 (kt := fun q => by omega) (kf := fun _ => ?_)
    refine bX12_group_10 (hS := m_opens (by decide)) (kk := ?_)
    intro h2 hop
    have kO : keepM h (opened h1 60 0 12) := k1.1.tr (keepM.opened h1 60 0 12)
    have eO : ∀ i, i ≠ 45 → i ≠ 48 → i ≠ 49 → opened h1 60 0 12 98 i = h1 98 i := fun i a b c => opened_i a b c
    have k2 : keepM h h2 := kO.tr (keepM.row hop)
    have f1 := k2.2 1 (by unfold perF; omega)
    have f104 := k2.1 104 (by unfold perC; omega)
    have f45 : h2 98 45 = 60 := by rw [hop.1 98 (by decide)]; rfl
    have e125' : h2 125 = h0 125 := by rw [hop.1 125 (by decide), opened_c (by decide), e125]
    refine bX12_group_19 (hS := by
      rw [e125']
      exact m_saysBy (by omega) (by rw [k2.dM]; exact hd) ⟨s0, by rw [f1]; exact s1⟩ (by decide) (by rw [f45]; decide) my ⟨by omega, hsh.2⟩) (kk := ?_)
    intro h3 g3
    rw [k2.dM, f104] at g3
    have hr3 : isRow (opened h1 60 0 12) h3 (lamA (dM h 1) (thT (dM h) sh (h 104 12)) (h0 125 r) s) := isRow_eq (isRow_says hop g3) (fun t s' _ _ _ _ => by
      unfold lamA
      rw [Int.sub_zero]
      by_cases e : s' = s
      · rw [if_pos e]; omega
      · rw [if_neg e]; rfl)
    refine bX12_group_32 (kk := ?_)
    have h45 : opened h1 60 0 12 98 45 = 60 := rfl
    suffices I : ∀ (dt t : Nat) (h4 : AH) (x5 x6 : AV), t + dt = 60 → (∀ c, c ≠ 126 → h4 c = h3 c) → (∀ k, k ≠ r → h4 126 k = h1 126 k) → h4 126 r = rowM h sh (h0 125 r) s t → Wp mX12_group (kR fr 0 0) Q (0, 0) 42 [zR 98, zI s, zI sh, zI r, zI t, x5, x6] [] 137 h4 by
      refine I 60 0 _ _ _ (by omega) (fun c hc => up_n hc) (fun k hk => by rw [up_cn hk, hr3.1 126 (by decide), opened_c (by decide)]) (by rw [up_ci]; rfl)
    intro dt
    induction dt with
    | zero =>
      intro t h4 x5 x6 ht k4 o4 n4
      have e60 : t = 60 := by omega
      subst e60
      have k3 : keepM h h3 := kO.tr (keepM.row hr3)
      refine bX12_group_42 (kt := fun _ => ?_) (kf := fun q => by omega)
      refine bX12_group_82 (kk := ih (r + 1) h4 _ _ _ (by omega) (by omega) ⟨k3.tr ⟨fun c hc => k4 c (by unfold perC at hc; omega), fun i _ => by rw [k4 98 (by decide)]⟩, by rw [k4 98 (by decide), hr3.1 98 (by decide), eO 0 (by decide) (by decide) (by decide)]; exact k1.2⟩ (by rw [k4 125 (by decide), hr3.1 125 (by decide), opened_c (by decide), e125]) (by rw [k4 98 (by decide), hr3.1 98 (by decide), eO 72 (by decide) (by decide) (by decide)]; exact e72) (fun k a b => ?_))
      by_cases e : k = r
      · rw [e]; exact n4
      · rw [o4 k e]; exact rows k a (by omega)
    | succ dt iht =>
      intro t h4 x5 x6 ht k4 o4 n4
      have hr4 : isRow (opened h1 60 0 12) h4 (lamA (dM h 1) (thT (dM h) sh (h 104 12)) (h0 125 r) s) ∨ True := Or.inr trivial
      have k3 : keepM h h3 := kO.tr (keepM.row hr3)
      have c98 : ∀ i, perF i → h4 98 i = h 98 i := fun i hi => by rw [k4 98 (by decide), k3.2 i hi]
      have e1 := c98 1 (by unfold perF; omega)
      have e5 := c98 5 (by unfold perF; omega)
      have e6 := c98 6 (by unfold perF; omega)
      have e7 := c98 7 (by unfold perF; omega)
      have lm : ∀ t' s', 0 ≤ t' → t' < 60 → 0 ≤ s' → s' < 8 → h4 115 (8 * t' + s') = lamA (dM h 1) (thT (dM h) sh (h 104 12)) (h0 125 r) s t' s' := fun t' s' a b c e => by
        rw [k4 115 (by decide)]; exact hr3.2 t' s' a (by rw [h45]; exact b) c e
      refine bX12_group_42 (kt := fun q => by omega) (kf := fun _ => ?_)
      refine bX12_group_49 (hS := m_hears (by omega) (by rw [e1]; exact hS) (by rw [e5]; exact hL) (by rw [e6]; exact hWi) (by rw [e7]; exact hMa) (fun t' s' a b c e => ?_)) (kk := ?_)
      · rw [lm t' s' a (by omega) c e]
        unfold lamA
        split
        · have := ampY_rng (y := h0 125 r) (d := t') hd (show 0 ≤ sh ∧ sh ≤ 100 by omega) hai s0 s1
          omega
        · decide
      rintro x h5 ⟨e5', hx⟩
      rw [e5']; clear e5' h5
      rw [e1, e5, e6, e7] at hx
      have hx2 : HeardR (lamA (dM h 1) (thT (dM h) sh (h 104 12)) (h0 125 r) s) (h 98 1) (h 98 5) (h 98 6) (h 98 7) t x := HeardR.cong (fun t' s' a _ b c e => lm t' s' a (by omega) c (by omega)) (by omega) hWi.1 hx
      have xr := hx2.range
      have iffx : x = s ↔ hdM h sh (h0 125 r) s t := by
        constructor
        · intro e
          rcases hx2 with z | ⟨z, -⟩
          · rw [e] at z; exact z
          · omega
        · intro z
          exact hx2.one (Or.inl z)
      have rg := rowV_rng (fun t : Nat => cl (hdM h sh (h0 125 r) s t)) t
      have r60 : (2 : Int) ^ t ≤ 2 ^ 60 := by
        rw [pow_nat, pow_nat]
        have : 2 ^ t ≤ 2 ^ 60 := Nat.pow_le_pow_right (by decide) (by omega)
        omega
      have es : rowM h sh (h0 125 r) s (t + 1) = rowM h sh (h0 125 r) s t + if cl (hdM h sh (h0 125 r) s t) = true then 2 ^ t else 0 := rfl
      refine bG_62 (kt := fun w => ?_) (kf := fun w => ?_)
      · refine bG_73 (kk := bG_74 (kk := iht (t + 1) _ _ _ (by omega) (fun c hc => by rw [up_n hc, k4 c hc]) (fun k hk => by rw [up_cn hk, o4 k hk]) ?_))
        rw [up_ci, n4, es, if_neg (by rw [cl_neg (fun z => w (iffx.mpr z))]; decide), Int.add_zero]
        exact lOr_none rg.1 (Int.lt_of_lt_of_le rg.2 r60)
      · refine bG_66 (kk := bG_74 (kk := iht (t + 1) _ _ _ (by omega) (fun c hc => by rw [up_n hc, k4 c hc]) (fun k hk => by rw [up_cn hk, o4 k hk]) ?_))
        rw [up_ci, n4, es, if_pos (cl_pos (iffx.mp w))]
        exact lOr_new rg.1 rg.2 (by omega)
