/-! ===== the model: sayers ===== -/
def tlM (h : AH) (t : Int) : Int := if t < h 98 68 then h 124 t else -1
theorem m_toldAt2 {fr : Nat} {t : Int} {h : AH} (ht : 0 ≤ t ∧ t < 60) (h68 : 0 ≤ h 98 68 ∧ h 98 68 ≤ 60) : Sp mX12_toldAt true fr 0 0 [zR 98, zI t] 137 h (rI (fun x h' => h' = h ∧ x = tlM h t)) := by
  refine Sp.mk yX12_toldAt_ok rfl rfl ?_
  refine bX12_toldAt_0 (kt := fun q => ?_) (kf := fun q => ?_)
  · exact bX12_toldAt_17 (kk := bX12_toldAt_18 (hq := ⟨_, rfl, rfl, rfl, by unfold tlM; rw [if_neg (by omega)]⟩))
  · exact bX12_toldAt_8 (kk := bX12_toldAt_18 (hq := ⟨_, rfl, rfl, rfl, by unfold tlM; rw [if_pos q]⟩))
abbrev toldAs (Λ : Int → Int → Int) (nS l w m : Int) (tl : Int → Int) : Prop := ∀ t, 0 ≤ t → t < 60 → HeardR Λ nS l w m t (tl t)
theorem m_isTold {fr : Nat} {Λ : Int → Int → Int} {h0 h : AH} (hf : 2 ≤ fr) (hs : 0 ≤ h 98 1 ∧ h 98 1 ≤ 8) (hl : 1 ≤ h 98 5 ∧ h 98 5 ≤ 99) (hw : 0 ≤ h 98 6 ∧ h 98 6 ≤ 9) (hm : 0 ≤ h 98 7 ∧ h 98 7 ≤ 99) (hr : isRow h0 h Λ) (h45 : h0 98 45 = 60) (rg : ∀ t s, 0 ≤ t → t < 60 → 0 ≤ s → s < 8 → 0 ≤ Λ t s ∧ Λ t s < 1000000) (h68 : 0 ≤ h 98 68 ∧ h 98 68 ≤ 60) (h124 : ∀ i, 0 ≤ i → i < h 98 68 → -1 ≤ h 124 i ∧ h 124 i < h 98 1) :
    Sp mX12_isTold true fr 0 0 [zR 98] 137 h (rI (fun x h' => h' = h ∧ ((x = 1 ∧ toldAs Λ (h 98 1) (h 98 5) (h 98 6) (h 98 7) (tlM h)) ∨ (x = 0 ∧ ¬ toldAs Λ (h 98 1) (h 98 5) (h 98 6) (h 98 7) (tlM h))))) := by
  refine Sp.mk yX12_isTold_ok rfl rfl ?_
  refine bX12_isTold_0 (kk := ?_)
  suffices H : ∀ (d : Nat) (t : Int), 0 ≤ t → t + d = 60 → (∀ t', 0 ≤ t' → t' < t → HeardR Λ (h 98 1) (h 98 5) (h 98 6) (h 98 7) t' (tlM h t')) → Wp mX12_isTold (kR fr 0 0) (rI (fun x h' => h' = h ∧ ((x = 1 ∧ toldAs Λ (h 98 1) (h 98 5) (h 98 6) (h 98 7) (tlM h)) ∨ (x = 0 ∧ ¬ toldAs Λ (h 98 1) (h 98 5) (h 98 6) (h 98 7) (tlM h))))) (0, 0) 2 [zR 98, zI t] [] 137 h by
    exact H 60 0 (by decide) (by decide) (fun t' a b => by omega)
  intro d
  induction d with
  | zero =>
    intro t t0 ht hh
    refine bX12_isTold_2 (kt := fun _ => ?_) (kf := fun q => by omega)
    exact bX12_isTold_29 (hq := ⟨_, rfl, rfl, rfl, Or.inl ⟨rfl, fun t' a b => hh t' a (by omega)⟩⟩)
  | succ d ih =>
    intro t t0 ht hh
    refine bX12_isTold_2 (kt := fun q => by omega) (kf := fun _ => ?_)
    refine bX12_isTold_8 (hS := m_hears (by omega) hs hl hw hm (fun t' s a b c e => by rw [hr.2 t' s a (by rw [h45]; omega) c e]; exact rg t' s a (by omega) c e)) (kk := ?_)
    rintro x h1 ⟨e1, hx⟩
    rw [e1]; clear e1 h1
    have hx2 : HeardR Λ (h 98 1) (h 98 5) (h 98 6) (h 98 7) t x := HeardR.cong (fun t' s a _ b c e => hr.2 t' s a (by rw [h45]; omega) c (by omega)) t0 hw.1 hx
    have xr := hx2.range
    refine bX12_isTold_13 (hS := m_toldAt2 (by omega) h68) (kk := ?_)
    rintro y h1 ⟨e1, rfl⟩
    rw [e1]; clear e1 h1
    have ty : -1 ≤ tlM h t ∧ tlM h t < 8 := by
      unfold tlM
      split
      · have := h124 t t0 (by assumption); omega
      · decide
    refine bX12_isTold_18 (kt := fun q => ?_) (kf := fun q => ?_)
    · refine bX12_isTold_23 (kk := ih (t + 1) (by omega) (by omega) (fun t' a b => ?_))
      by_cases e : t' = t
      · rw [e]
        first
          | (rw [← q]; exact hx2)
          | (rw [q]; exact hx2)
      · exact hh t' a (by omega)
    · refine bX12_isTold_21 (hq := ⟨_, rfl, rfl, rfl, Or.inr ⟨rfl, fun z => q ?_⟩⟩)
      first
        | exact hx2.one (z t t0 (by omega))
        | exact (hx2.one (z t t0 (by omega))).symm
theorem lt_pow_iff {y : Int} {n : Nat} (y0 : 0 ≤ y) : y < 2 ^ n ↔ ∀ j, n ≤ j → bt y j = false := by
  rw [pow_nat]
  constructor
  · intro h j hj
    unfold bt
    apply Nat.testBit_lt_two_pow
    have : 2 ^ n ≤ 2 ^ j := Nat.pow_le_pow_right (by decide) hj
    omega
  · intro h
    have : y.toNat < 2 ^ n := Nat.lt_pow_two_of_testBit _ (fun j hj => h j hj)
    omega
theorem m_sayers {fr : Nat} {k : Int} {h : AH} (hf : 4 ≤ fr) (rk : R32 k) (ho : okM h) :
    Sp mX12_sayers true fr 0 0 [zR 98, zI k] 137 h (rI (fun x h' => keepM h h' ∧ (((0 ≤ k ∧ k ≤ 2) ∧ h' 98 0 = 0 ∧ sayersR (saySet (ampR h) (tlM h) (h 98 1) (h 98 5) (h 98 6) (h 98 7)) k x) ∨ (¬ (0 ≤ k ∧ k ≤ 2) ∧ h' 98 0 = 1)))) := by
  refine Sp.mk yX12_sayers_ok rfl rfl ?_
  obtain ⟨rk1, rk2⟩ := id rk
  have e0 : up h 98 0 0 98 0 = 0 := rfl
  have kp : keepM h (up h 98 0 0) := keepM.up98 (by unfold perF; omega)
  refine bX12_sayers_0 (hS := m_within rk R32_0 (by constructor <;> decide)) (kk := ?_)
  rintro x h1 ⟨e, z⟩
  rw [e]; clear e h1
  refine bX12_sayers_12 (hS := m_right (by rcases z with ⟨rfl, -⟩ | ⟨rfl, -⟩ <;> constructor <;> decide) R32_1 (by decide) (by rw [e0]; exact R32_0)) (kk := ?_)
  rintro y h1 (⟨-, w, rfl, rfl⟩ | ⟨-, w, rfl, rfl⟩ | ⟨w, -⟩)
  rotate_left
  · refine bX12_sayers_16 (kt := fun w => absurd rfl w) (kf := fun _ => bX12_sayers_19 (hq := ⟨_, rfl, rfl, kp.tr (keepM.up98 (by unfold perF; omega)), Or.inr ⟨by omega, rfl⟩⟩))
  · exact absurd e0 w
  have hk : 0 ≤ k ∧ k ≤ 2 := by omega
  refine bX12_sayers_16 (kt := fun _ => ?_) (kf := fun w => absurd w (by decide))
  refine bX12_sayers_21 (kk := ?_)
  obtain ⟨hd, h46, h47, -, -, -, -, h68, h124, -⟩ := id ho
  have hS : 0 ≤ h 98 1 ∧ h 98 1 ≤ 8 := hd.1
  have hL : 1 ≤ h 98 5 ∧ h 98 5 ≤ 99 := hd.2.2.2.2.1
  have hWi : 0 ≤ h 98 6 ∧ h 98 6 ≤ 9 := hd.2.2.2.2.2.1
  have hMa : 0 ≤ h 98 7 ∧ h 98 7 ≤ 99 := hd.2.2.2.2.2.2.1
  have hai : 0 ≤ h 104 12 ∧ h 104 12 ≤ 100 := hd.2.2.2.2.2.2.2.2.2.2.2.2.1 12 (by decide) (by decide)
  generalize hR : (rI (fun x h' => keepM h h' ∧ (((0 ≤ k ∧ k ≤ 2) ∧ h' 98 0 = 0 ∧ sayersR (saySet (ampR h) (tlM h) (h 98 1) (h 98 5) (h 98 6) (h 98 7)) k x) ∨ (¬ (0 ≤ k ∧ k ≤ 2) ∧ h' 98 0 = 1)))) = QQ
  have tlr : ∀ t, 0 ≤ t → t < 60 → -1 ≤ tlM h t ∧ tlM h t < h 98 1 := fun t a b => by
    unfold tlM
    split
    · exact h124 t a (by assumption)
    · omega
  -- behind the search for the spots
  have rest : ∀ (h1 : AH) (n : Nat) (x3 x4 x5 x6 x7 : AV), keepM h h1 → h1 98 0 = 0 → spotR (tlM h) (fun k => h1 127 k) n → n ≤ 14 → Wp mX12_sayers (kR fr 0 0) QQ (0, 0) 68 [zR 98, zI k, zI n, x3, x4, x5, x6, x7] [] 137 h1 := by
    intro h1 n x3 x4 x5 x6 x7 k1 t1 hsp n14
    refine bX12_sayers_68 (kk := ?_)
    generalize hP : (fun k => h1 127 k) = P at hsp
    have eP : ∀ i, h1 127 i = P i := fun i => by rw [← hP]
    have tk : ∀ i : Nat, i < n → (0 ≤ P i ∧ P i < 60) ∧ 0 ≤ tlM h (P i) ∧ tlM h (P i) < h 98 1 ∧ h 124 (P i) = tlM h (P i) := fun i hi => by
      have p := hsp.2 i hi
      have r : ¬ tlM h (((P i).toNat : Nat) : Int) = -1 := of_decide_eq_true p.2.1
      rw [show (((P i).toNat : Nat) : Int) = P i by omega] at r
      have q := tlr (P i) p.1.1 p.1.2
      refine ⟨p.1, by omega, q.2, ?_⟩
      unfold tlM at r ⊢
      split
      · rfl
      · rename_i c; rw [if_neg c] at r; omega
    have pn : (1 : Int) ≤ 2 ^ n ∧ (2 : Int) ^ n ≤ 16384 := by
      rw [pow_nat]
      have a1 : 2 ^ n ≤ 2 ^ 14 := Nat.pow_le_pow_right (by decide) n14
      have a2 : 0 < 2 ^ n := Nat.pow_pos (by decide)
      omega
    generalize hS' : saySet (ampR h) (tlM h) (h 98 1) (h 98 5) (h 98 6) (h 98 7) = SS at hR
    have iS : ∀ y, SS y ↔ (extS n 0 0 y ∧ OKx (ampR h) (tlM h) P n (h 98 1) (h 98 5) (h 98 6) (h 98 7) y) := fun y => by rw [← hS']; exact saySet_eq hWi.1 hsp
    have lr : ∀ (y : Int) (j : Nat) (t s : Int), j ≤ n → 0 ≤ sg (fun i : Nat => if bt y i = true ∧ tlM h (P i) = s then ampR h s (t - P i) else 0) j ∧ sg (fun i : Nat => if bt y i = true ∧ tlM h (P i) = s then ampR h s (t - P i) else 0) j < 1000000 := fun y j t s hj => by
      have := sg_rng (f := fun i : Nat => if bt y i = true ∧ tlM h (P i) = s then ampR h s (t - P i) else 0) (B := 1881) (n := j) (fun i hi => by
        split
        · rename_i c
          have q := tk i (by omega)
          rw [c.2] at q
          exact amp_rng (ear := 0) (air := h 104 12) (fog := 0) (gone := -1) hd q.2.1 (show s < h 98 1 from q.2.2.1) (by decide) (by decide) hai.1 hai.2
        · decide)
      have : (j : Int) * 1881 ≤ 14 * 1881 := by omega
      omega
    suffices H : ∀ (d : Nat) (y m f b : Int) (h2 : AH) (x7 : AV), 0 ≤ y → y + d = 2 ^ n → keepM h h2 → h2 98 0 = 0 → h2 127 = h1 127 → ansR (fun z => z < y ∧ SS z) m f b → Wp mX12_sayers (kR fr 0 0) QQ (0, 0) 79 [zR 98, zI k, zI n, zI m, zI f, zI b, zI y, x7] [] 137 h2 by
      refine H (2 ^ n : Int).toNat 0 0 (-1) (-1) h1 _ (by decide) (by omega) k1 t1 rfl (ansR_none.cong (fun y a b => ⟨fun z => z.elim, fun z => by omega⟩))
    intro d
    induction d with
    | zero =>
      intro y m f b h2 x7 y0 hy k2 t2 e127 ha
      have fin : ∀ x, ((k = 0 ∧ x = m) ∨ (k = 1 ∧ x = f) ∨ (k = 2 ∧ x = b)) → QQ (.inl (some (zI x))) 137 h2 := fun x hx => by
        rw [← hR]
        refine ⟨_, rfl, rfl, k2, Or.inl ⟨hk, t2, m, f, b, ha.cong (fun z p q => ?_), hx⟩⟩
        constructor
        · exact fun w => w.2
        · intro w
          refine ⟨?_, w⟩
          have := (lt_pow_iff (n := n) p).mpr ((iS z).mp w).1.2.2
          omega
      refine bX12_sayers_79 (r3 := by rw [Int.one_mul, show ((n : Int)).toNat = n by omega]; omega) (kt := fun _ => ?_) (kf := fun q => by rw [Int.one_mul, show ((n : Int)).toNat = n by omega] at q; omega)
      refine bX12_sayers_194 (kt := fun q => ?_) (kf := fun q => ?_)
      rotate_left
      · exact bX12_sayers_198 (kk := bX12_sayers_214 (hq := fin m (Or.inl ⟨q, rfl⟩)))
      refine bX12_sayers_202 (kt := fun q2 => ?_) (kf := fun q2 => ?_)
      · exact bX12_sayers_212 (kk := bX12_sayers_214 (hq := fin b (Or.inr (Or.inr ⟨by omega, rfl⟩))))
      · exact bX12_sayers_207 (kk := bX12_sayers_214 (hq := fin f (Or.inr (Or.inl ⟨q2, rfl⟩))))
    | succ d ih =>
      intro y m f b h2 x7 y0 hy k2 t2 e127 ha
      have y1 : y < 2 ^ n := by omega
      have mr : 0 ≤ m ∧ m ≤ 16384 := by rw [ha.1]; exact cnt_rng _ _
      refine bX12_sayers_79 (r3 := by rw [Int.one_mul, show ((n : Int)).toNat = n by omega]; omega) (kt := fun q => by rw [Int.one_mul, show ((n : Int)).toNat = n by omega] at q; omega) (kf := fun _ => ?_)
      refine bX12_sayers_87 (hS := m_opens (by decide)) (kk := ?_)
      intro h3 hop
      refine bX12_sayers_96 (kk := ?_)
      have eO : ∀ i, i ≠ 45 → i ≠ 48 → i ≠ 49 → opened h2 60 0 12 98 i = h2 98 i := fun i a b c => opened_i a b c
      have sa : sayAt (opened h2 60 0 12) := by
        unfold sayAt
        rw [dM_opened, k2.dM, eO 46 (by decide) (by decide) (by decide), eO 47 (by decide) (by decide) (by decide), k2.2 46 (by unfold perF; omega), k2.2 47 (by unfold perF; omega), h46, h47]
        exact ⟨hd, show (0 : Int) ≤ 60 ∧ (60 : Int) ≤ 400 by decide, show (0 : Int) ≤ 0 ∧ (0 : Int) < 3 by decide, show (0 : Int) ≤ 12 ∧ (12 : Int) < 24 by decide, by decide, by decide⟩
      have eAm : ∀ s, ampM (opened h2 60 0 12) s = ampR h s := fun s => by
        funext d
        unfold ampM ampR
        rw [dM_opened, k2.dM, eO 46 (by decide) (by decide) (by decide), eO 47 (by decide) (by decide) (by decide), k2.2 46 (by unfold perF; omega), k2.2 47 (by unfold perF; omega), h46, h47, opened_c (show (104 : Int) ≠ 98 by decide), k2.1 104 (by unfold perC; omega)]
        rfl
      suffices L : ∀ (dj j : Nat) (h3 : AH), j + dj = n → isRow (opened h2 60 0 12) h3 (fun t s => sg (fun i : Nat => if bt y i = true ∧ tlM h (P i) = s then ampR h s (t - P i) else 0) j) → Wp mX12_sayers (kR fr 0 0) QQ (0, 0) 99 [zR 98, zI k, zI n, zI m, zI f, zI b, zI y, zI j] [] 137 h3 by
        exact L n 0 h3 (by omega) hop
      intro dj
      induction dj with
      | succ dj ihj =>
        intro j h3 hj hr
        refine bX12_sayers_99 (kt := fun q => by omega) (kf := fun _ => ?_)
        have el := bit_look (x := y) (s := (j : Int)) y0 (by omega)
        rw [show ((j : Int)).toNat = j by omega] at el
        have er : -2147483648 ≤ bAnd (y / 2 ^ ((j : Int)).toNat) 1 ∧ bAnd (y / 2 ^ ((j : Int)).toNat) 1 < 2147483648 := by rw [show ((j : Int)).toNat = j by omega, el]; split <;> decide
        have e98 : h3 98 = opened h2 60 0 12 98 := hr.1 98 (by decide)
        have e127' : h3 127 = h1 127 := by rw [hr.1 127 (by decide), opened_c (by decide), e127]
        have e124 : h3 124 = h 124 := by rw [hr.1 124 (by decide), opened_c (by decide), k2.1 124 (by unfold perC; omega)]
        have q := tk j (by omega)
        refine bX12_sayers_105 (r3 := er) (kt := fun c => ?_) (kf := fun c => ?_)
        · rw [show ((j : Int)).toNat = j by omega, el] at c
          have nb : ¬ bt y j = true := fun z => c (if_pos z)
          refine bX12_sayers_139 (kk := ihj (j + 1) h3 (by omega) (isRow_eq hr (fun t s _ _ _ _ => ?_)))
          rw [sg, if_neg (fun z => nb z.1), Int.add_zero]
        · rw [show ((j : Int)).toNat = j by omega, el] at c
          have nb : bt y j = true := by
            by_cases z : bt y j = true
            · exact z
            · rw [if_neg z] at c; omega
          refine bX12_sayers_116 (r2 := by rw [e127', eP]; exact q.1) (hS := by
            rw [e127', eP, e124, q.2.2.2]
            exact m_saysRow (by omega) sa hr ⟨q.2.1, by rw [eO 1 (by decide) (by decide) (by decide), k2.2 1 (by unfold perF; omega)]; exact q.2.2.1⟩ (by omega)) (kk := ?_)
          intro h4 hr4
          refine bX12_sayers_139 (kk := ihj (j + 1) h4 (by omega) (isRow_eq hr4 (fun t s _ _ _ _ => ?_)))
          rw [sg]
          congr 1
          by_cases e : s = tlM h (P j)
          · rw [if_pos e, if_pos ⟨nb, e.symm⟩, eAm, e]
          · rw [if_neg e, if_neg (fun z => e z.2.symm)]
      | zero =>
        intro j h3 hj hr
        have ejn : j = n := by omega
        subst ejn
        refine bX12_sayers_99 (kt := fun _ => ?_) (kf := fun q => by omega)
        have k3 : keepM h h3 := k2.tr ((keepM.opened h2 60 0 12).tr (keepM.row hr))
        have t3 : h3 98 0 = 0 := by rw [hr.1 98 (by decide), eO 0 (by decide) (by decide) (by decide), t2]
        have e127' : h3 127 = h1 127 := by rw [hr.1 127 (by decide), opened_c (by decide), e127]
        have f1 := k3.2 1 (by unfold perF; omega)
        have f5 := k3.2 5 (by unfold perF; omega)
        have f6 := k3.2 6 (by unfold perF; omega)
        have f7 := k3.2 7 (by unfold perF; omega)
        have f68 := k3.2 68 (by unfold perF; omega)
        have f124 := k3.1 124 (by unfold perC; omega)
        have etl : tlM h3 = tlM h := by funext t; unfold tlM; rw [f68, f124]
        refine bX12_sayers_145 (hS := m_isTold (by omega) (by rw [f1]; exact hS) (by rw [f5]; exact hL) (by rw [f6]; exact hWi) (by rw [f7]; exact hMa) hr rfl (fun t s _ _ _ _ => lr y j t s (by omega)) (by rw [f68]; exact h68) (by rw [f68, f124, f1]; exact h124)) (kk := ?_)
        rintro r h4 ⟨e4, hr4⟩
        rw [e4]; clear e4 h4
        rw [f1, f5, f6, f7, etl] at hr4
        have isS : SS y ↔ toldAs (fun t s => sg (fun i : Nat => if bt y i = true ∧ tlM h (P i) = s then ampR h s (t - P i) else 0) j) (h 98 1) (h 98 5) (h 98 6) (h 98 7) (tlM h) := by
          rw [iS y]
          constructor
          · exact fun z => z.2
          · exact fun z => ⟨⟨⟨y0, by omega⟩, fun j hj => by omega, (lt_pow_iff y0).mp y1⟩, z⟩
        refine bX12_sayers_149 (r1 := by rcases hr4 with c | c <;> omega) (kt := fun c => ?_) (kf := fun c => ?_)
        rotate_left
        · rcases hr4 with ⟨c', -⟩ | ⟨-, no⟩
          · omega
          refine bX12_sayers_152 (kk := bX12_sayers_188 (kk := ih (y + 1) m f b h3 _ (by omega) (by omega) k3 t3 e127' (ha.cong (fun z p q => ?_))))
          constructor
          · exact fun w => ⟨by omega, w.2⟩
          · rintro ⟨w1, w2⟩
            refine ⟨?_, w2⟩
            by_cases e : z = y
            · rw [e] at w2; exact absurd (isS.mp w2) no
            · omega
        rcases hr4 with ⟨-, yes⟩ | ⟨c', -⟩
        rotate_left
        · exact absurd c' c
        have sy : SS y := isS.mpr yes
        have y16 : y < 16384 := by omega
        have my : m16 y := ⟨y0, by omega⟩
        have py := pop16_rng y
        obtain ⟨a1, a2⟩ := id ha
        have hn : ¬ (y < y ∧ SS y) := fun z => by omega
        have c1 := cnt_or1 (S := fun z => z < y ∧ SS z) y0 y16 hn
        have both : ∀ z : Int, ((z < y ∧ SS z) ∨ z = y) ↔ (z < y + 1 ∧ SS z) := fun z => by
          constructor
          · rintro (w | w)
            · exact ⟨by omega, w.2⟩
            · rw [w]; exact ⟨by omega, sy⟩
          · rintro ⟨w1, w2⟩
            by_cases e : z = y
            · exact Or.inr e
            · exact Or.inl ⟨by omega, w2⟩
        have take : (∀ z, 0 ≤ z → z < 16384 → (z < y ∧ SS z) → pop16 y < pop16 z) → ∀ (x4 x5 x7 : AV), Wp mX12_sayers (kR fr 0 0) QQ (0, 0) 177 [zR 98, zI k, zI j, zI (m + 1), x4, x5, zI y, x7] [] 137 h3 := fun hb x4 x5 x7 => by
          refine bX12_sayers_177 (hS := m_bits y0 (by omega)) (kk := ?_)
          rintro p h4 ⟨e4, hp⟩
          rw [e4]; clear e4 h4
          rw [pop_16 my] at hp
          have an : ansR (fun z => (z < y ∧ SS z) ∨ z = y) (m + 1) p y := by
            refine ⟨?_, Or.inr ⟨⟨y0, y16⟩, Or.inr rfl, hp, fun z p q w => ?_⟩⟩
            · rw [a1]; exact c1.symm
            · rcases w with w | w
              · exact Or.inl (hb z p q w)
              · rw [w]; exact Or.inr ⟨rfl, Int.le_refl _⟩
          exact bX12_sayers_182 (kk := bX12_sayers_188 (kk := ih (y + 1) (m + 1) p y h3 _ (by omega) (by omega) k3 t3 e127' (an.cong (fun z _ _ => both z))))
        rcases a2 with ⟨p1, p2, p3⟩ | ⟨q1, q2, q3, q4⟩
        · refine bX12_sayers_155 (kt := fun _ => take (fun z p q w => absurd w (p3 z p q)) _ _ _) (kf := fun w => absurd p1 w)
        · have pb := pop16_rng b
          refine bX12_sayers_155 (kt := fun w => by omega) (kf := fun _ => ?_)
          refine bX12_sayers_164 (hS := m_bits y0 (by omega)) (kk := ?_)
          rintro p h4 ⟨e4, hp⟩
          rw [e4]; clear e4 h4
          rw [pop_16 my] at hp
          refine bX12_sayers_169 (kt := fun w => take (fun z a c v => by have := q4 z a c v; omega) _ _ _) (kf := fun w => ?_)
          have an : ansR (fun z => (z < y ∧ SS z) ∨ z = y) (m + 1) f b := by
            refine ⟨?_, Or.inr ⟨q1, Or.inl q2, q3, fun z p q w => ?_⟩⟩
            · rw [a1]; exact c1.symm
            · rcases w with w | w
              · exact q4 z p q w
              · rw [w]
                have := q2.1
                omega
          exact bX12_sayers_174 (kk := bX12_sayers_188 (kk := ih (y + 1) (m + 1) f b h3 _ (by omega) (by omega) k3 t3 e127' (an.cong (fun z _ _ => both z))))
  -- the spots
  suffices H : ∀ (d t : Nat) (h1 : AH) (c : Int) (x4 x5 x6 x7 : AV), (t : Int) + d = h 98 68 → keepM h h1 → h1 98 0 = 0 → c = cnt (tb (tlM h)) t → c ≤ 14 → (∀ i : Nat, (i : Int) < c → (0 ≤ h1 127 i ∧ h1 127 i < t) ∧ tb (tlM h) (h1 127 i).toNat = true ∧ cnt (tb (tlM h)) (h1 127 i).toNat = i) → Wp mX12_sayers (kR fr 0 0) QQ (0, 0) 25 [zR 98, zI k, zI c, zI t, x4, x5, x6, x7] [] 137 h1 by
    exact H (h 98 68).toNat 0 _ 0 _ _ _ _ (by omega) kp e0 rfl (by decide) (fun i hi => by omega)
  have tail : ∀ t : Nat, h 98 68 ≤ t → t ≤ 60 → cnt (tb (tlM h)) 60 = cnt (tb (tlM h)) t := fun t ht t6 => by
    refine sg_tail t6 (fun i a b => ?_)
    have : tb (tlM h) i = false := by unfold tb tlM; rw [if_neg (by omega)]; rfl
    rw [if_neg (by rw [this]; decide)]
  intro d
  induction d with
  | zero =>
    intro t h1 c x4 x5 x6 x7 ht k1 t1 hc c14 hs
    have cr := cnt_rng (tb (tlM h)) t
    have tl := tail t (by omega) (by omega)
    have f68 := k1.2 68 (by unfold perF; omega)
    refine bX12_sayers_25 (kt := fun _ => ?_) (kf := fun q => by omega)
    have := rest h1 c.toNat (zI t) none none none none k1 t1 ⟨by omega, fun i hi => ⟨⟨(hs i (by omega)).1.1, by have := (hs i (by omega)).1.2; show h1 127 i < 60; omega⟩, (hs i (by omega)).2⟩⟩ (by omega)
    rw [show ((c.toNat : Nat) : Int) = c by omega] at this
    exact this
  | succ d ih =>
    intro t h1 c x4 x5 x6 x7 ht k1 t1 hc c14 hs
    have cr := cnt_rng (tb (tlM h)) t
    have cs := cnt_s (tb (tlM h)) t
    have f68 := k1.2 68 (by unfold perF; omega)
    have f124 := k1.1 124 (by unfold perC; omega)
    have t124 := h124 t (by omega) (by omega)
    have et : tlM h t = h 124 t := by unfold tlM; rw [if_pos (by omega)]
    refine bX12_sayers_25 (kt := fun q => by omega) (kf := fun _ => ?_)
    refine bX12_sayers_33 (kt := fun q => ?_) (kf := fun q => ?_)
    · have mo := cnt_mono (p := tb (tlM h)) (a := t) (b := 60) (by omega)
      have e14 : c = ((14 : Nat) : Int) := by omega
      rw [e14]
      exact rest h1 14 _ _ _ _ _ k1 t1 ⟨by omega, fun i hi => ⟨⟨(hs i (by omega)).1.1, by have := (hs i (by omega)).1.2; show h1 127 i < 60; omega⟩, (hs i (by omega)).2⟩⟩ (by decide)
    refine bX12_sayers_39 (r2 := by rw [f124]; omega) (kt := fun q => ?_) (kf := fun q => ?_)
    · rw [f124] at q
      have ye : tb (tlM h) t = true := by unfold tb; exact decide_eq_true (by rw [et]; exact q)
      rw [ye, if_pos rfl] at cs
      refine bX12_sayers_52 (kk := bX12_sayers_62 (kk := ?_))
      refine ih (t + 1) _ (c + 1) _ _ _ _ (by omega) (k1.tr (keepM.upC (by unfold perC; omega) (by decide))) (by rw [up_n (by decide)]; exact t1) (by omega) (by omega) (fun i hi => ?_)
      by_cases e : (i : Int) = c
      · rw [e, up_ci]
        refine ⟨by omega, ?_, ?_⟩
        · rw [show ((t : Int)).toNat = t by omega]; exact ye
        · rw [show ((t : Int)).toNat = t by omega]; omega
      · rw [up_cn e]
        have := hs i (by omega)
        exact ⟨⟨this.1.1, by have := this.1.2; omega⟩, this.2⟩
    · rw [f124] at q
      have no : tb (tlM h) t = false := by unfold tb; exact decide_eq_false (fun z => z (by rw [et]; exact q))
      rw [no, if_neg (by decide), Int.add_zero] at cs
      refine bX12_sayers_49 (kk := bX12_sayers_62 (kk := ?_))
      exact ih (t + 1) h1 c _ _ _ _ (by omega) k1 t1 (by omega) c14 (fun i hi => ⟨⟨(hs i hi).1.1, by have := (hs i hi).1.2; omega⟩, (hs i hi).2⟩)
