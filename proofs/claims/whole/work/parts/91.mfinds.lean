/-! ===== the model: finds ===== -/
def RivM (h : AH) (sh : Int) : Int → Prop := fun y => (m20 y ∧ pop y 31 ≤ 3) ∧ toldAs (lamL (ampY (dM h 1) (thT (dM h) sh (h 104 12)) y) (fun k => h 116 k) (fun k => h 117 k) (h 98 50).toNat) (h 98 1) (h 98 5) (h 98 6) (h 98 7) (tlM h)
def ordP (x y : Int) : Prop := pop x 31 < pop y 31 ∨ (pop x 31 = pop y 31 ∧ x < y)
def enR (D : Int → Prop) (h : AH) : Prop := (0 ≤ h 98 72 ∧ h 98 72 ≤ 1351) ∧ (∀ k, 0 ≤ k → k < h 98 72 → D (h 125 k)) ∧ (∀ i j, 0 ≤ i → i < j → j < h 98 72 → ordP (h 125 i) (h 125 j)) ∧ ∀ y, D y → ∃ k, (0 ≤ k ∧ k < h 98 72) ∧ h 125 k = y
theorem enR.cong {D E : Int → Prop} {h : AH} (e : ∀ y, D y ↔ E y) (he : enR D h) : enR E h := by
  rw [show E = D from funext fun y => propext (e y).symm]; exact he
theorem enR.same {D : Int → Prop} {h h' : AH} (e1 : h' 98 72 = h 98 72) (e2 : h' 125 = h 125) (he : enR D h) : enR D h' := by
  unfold enR; rw [e1, e2]; exact he
theorem enR.add {D : Int → Prop} {h : AH} {y : Int} (he : enR D h) (hn : h 98 72 < 1351) (ho : ∀ z, D z → ordP z y) : enR (fun z => D z ∨ z = y) (up (up h 125 (h 98 72) y) 98 72 (h 98 72 + 1)) := by
  obtain ⟨a, b, c, d⟩ := he
  have e72 : up (up h 125 (h 98 72) y) 98 72 (h 98 72 + 1) 98 72 = h 98 72 + 1 := up_ci _ _ _ _
  have e125 : ∀ i, up (up h 125 (h 98 72) y) 98 72 (h 98 72 + 1) 125 i = if i = h 98 72 then y else h 125 i := fun i => by
    rw [up_n (by decide)]
    by_cases e : i = h 98 72
    · rw [if_pos e, e, up_ci]
    · rw [if_neg e, up_cn e]
  unfold enR
  rw [e72]
  refine ⟨by omega, fun k p q => ?_, fun i j p q r => ?_, fun z hz => ?_⟩
  · rw [e125]
    by_cases e : k = h 98 72
    · rw [if_pos e]; exact Or.inr rfl
    · rw [if_neg e]; exact Or.inl (b k p (by omega))
  · rw [e125, e125, if_neg (show ¬ i = h 98 72 by omega)]
    by_cases e : j = h 98 72
    · rw [if_pos e]; exact ho _ (b i p (by omega))
    · rw [if_neg e]; exact c i j p q (by omega)
  · rcases hz with hz | hz
    · obtain ⟨k, p, q⟩ := d z hz
      exact ⟨k, by omega, by rw [e125, if_neg (by omega)]; exact q⟩
    · exact ⟨h 98 72, by omega, by rw [e125, if_pos rfl]; exact hz.symm⟩
theorem ampY_rng {D : DT} {sh ai y s d : Int} (hd : okD D) (hs : 0 ≤ sh ∧ sh ≤ 100) (ha : 0 ≤ ai ∧ ai ≤ 100) (s0 : 0 ≤ s) (s1 : s < D 0 0) : 0 ≤ ampY (D 1) (thT D sh ai) y s d ∧ ampY (D 1) (thT D sh ai) y s d ≤ 198 := by
  have v := (hd.2.2.2.2.2.2.2.1 s s0 s1).1
  have t := thT_rng hd hs ha s0 s1
  unfold ampY
  split <;> split <;> omega
theorem nz_tri {a b c : Int} (t : tri a b c) : (nz a b c = 0 ∧ a = 0 ∧ b = 0 ∧ c = 0) ∨ (nz a b c = 1 ∧ 1 ≤ a ∧ b = 0 ∧ c = 0) ∨ (nz a b c = 2 ∧ 1 ≤ b ∧ b < a ∧ c = 0) ∨ (nz a b c = 3 ∧ 1 ≤ c ∧ c < b ∧ b < a) := by
  unfold tri at t
  unfold nz
  by_cases e1 : a = 0
  · rw [if_pos e1, if_pos (show b = 0 by omega), if_pos (show c = 0 by omega)]; omega
  · by_cases e2 : b = 0
    · rw [if_neg e1, if_pos e2, if_pos (show c = 0 by omega)]; omega
    · by_cases e3 : c = 0
      · rw [if_neg e1, if_neg e2, if_pos e3]; omega
      · rw [if_neg e1, if_neg e2, if_neg e3]; omega
def vd (m a b c : Nat) : Prop := (m = 1 ∧ 1 ≤ a ∧ b = 0 ∧ c = 0) ∨ (m = 2 ∧ 1 ≤ b ∧ b < a ∧ c = 0) ∨ (m = 3 ∧ 1 ≤ c ∧ c < b ∧ b < a)
def lastT (m a b c : Nat) : Prop := a = 21 ∧ ((m = 1 ∧ b = 0 ∧ c = 0) ∨ (m = 2 ∧ b = 1 ∧ c = 0) ∨ (m = 3 ∧ b = 2 ∧ c = 1))
theorem nxT_ok {m a b c a1 b1 c1 : Nat} (h : vd m a b c) (ha : a ≤ 20) (e : nxT a b c = (a1, b1, c1)) : vd m a1 b1 c1 ∧ (a1 ≤ 20 ∨ lastT m a1 b1 c1) ∧ ∀ a' b' c' : Int, tri a' b' c' → nz a' b' c' = m → (lx a' b' c' a1 b1 c1 ↔ (lx a' b' c' a b c ∨ (a' = a ∧ b' = b ∧ c' = c))) := by
  have fin : (((c ≠ 0 ∧ ((c + 1 < b ∧ a1 = a ∧ b1 = b ∧ c1 = c + 1) ∨ (¬ c + 1 < b ∧ b + 1 < a ∧ a1 = a ∧ b1 = b + 1 ∧ c1 = 1) ∨ (¬ c + 1 < b ∧ ¬ b + 1 < a ∧ a1 = a + 1 ∧ b1 = 2 ∧ c1 = 1))) ∨ (c = 0 ∧ b ≠ 0 ∧ ((b + 1 < a ∧ a1 = a ∧ b1 = b + 1 ∧ c1 = 0) ∨ (¬ b + 1 < a ∧ a1 = a + 1 ∧ b1 = 1 ∧ c1 = 0))) ∨ (c = 0 ∧ b = 0 ∧ a1 = a + 1 ∧ b1 = 0 ∧ c1 = 0))) := by
    unfold nxT at e
    by_cases e1 : c ≠ 0
    · rw [if_pos e1] at e
      by_cases e2 : c + 1 < b
      · rw [if_pos e2] at e; simp only [Prod.mk.injEq] at e; omega
      · rw [if_neg e2] at e
        by_cases e3 : b + 1 < a
        · rw [if_pos e3] at e; simp only [Prod.mk.injEq] at e; omega
        · rw [if_neg e3] at e; simp only [Prod.mk.injEq] at e; omega
    · rw [if_neg e1] at e
      by_cases e2 : b ≠ 0
      · rw [if_pos e2] at e
        by_cases e3 : b + 1 < a
        · rw [if_pos e3] at e; simp only [Prod.mk.injEq] at e; omega
        · rw [if_neg e3] at e; simp only [Prod.mk.injEq] at e; omega
      · rw [if_neg e2] at e; simp only [Prod.mk.injEq] at e; omega
  unfold vd at h ⊢
  refine ⟨by omega, by unfold lastT; omega, fun a' b' c' t hn => ?_⟩
  have q := nz_tri t
  unfold lx
  rcases h with h | h | h
  · have q' : 1 ≤ a' ∧ b' = 0 ∧ c' = 0 := by omega
    omega
  · have q' : 1 ≤ b' ∧ b' < a' ∧ c' = 0 := by omega
    omega
  · have q' : 1 ≤ c' ∧ c' < b' ∧ b' < a' := by omega
    omega
theorem rk_last {m a b c : Nat} (h : lastT m a b c) : rkT a b c = rkE a b c := by
  obtain ⟨rfl, ⟨rfl, rfl, rfl⟩ | ⟨rfl, rfl, rfl⟩ | ⟨rfl, rfl, rfl⟩⟩ := h <;> decide
def stM (m : Nat) : Nat := if m = 0 then 0 else if m = 1 then 1 else if m = 2 then 21 else if m = 3 then 211 else 1351
theorem rkE_vd {m a b c : Nat} (h : vd m a b c) : rkE a b c = stM (m + 1) := by
  unfold rkE
  rcases h with ⟨rfl, h1, rfl, rfl⟩ | ⟨rfl, h1, h2, rfl⟩ | ⟨rfl, h1, h2, h3⟩
  · rw [if_neg (by omega), if_neg (by omega), if_pos (by omega)]; rfl
  · rw [if_neg (by omega), if_pos (by omega)]; rfl
  · rw [if_pos (by omega)]; rfl
theorem m_finds {fr : Nat} {sh : Int} {h : AH} (hf : 4 ≤ fr) (hsh : 1 ≤ sh ∧ sh ≤ 100) (ho : okM h) :
    Sp mX12_finds true fr 0 0 [zR 98, zI sh] 137 h (rV (fun h' => (keepM h h' ∧ h' 98 0 = h 98 0) ∧ enR (RivM h sh) h')) := by
  refine Sp.mk yX12_finds_ok rfl rfl ?_
  obtain ⟨hd, h46, h47, h50, h116, -, -, h68, h124, -⟩ := id ho
  have hS : 0 ≤ h 98 1 ∧ h 98 1 ≤ 8 := hd.1
  have hL : 1 ≤ h 98 5 ∧ h 98 5 ≤ 99 := hd.2.2.2.2.1
  have hWi : 0 ≤ h 98 6 ∧ h 98 6 ≤ 9 := hd.2.2.2.2.2.1
  have hMa : 0 ≤ h 98 7 ∧ h 98 7 ≤ 99 := hd.2.2.2.2.2.2.1
  have hai : 0 ≤ h 104 12 ∧ h 104 12 ≤ 100 := hd.2.2.2.2.2.2.2.2.2.2.2.2.1 12 (by decide) (by decide)
  generalize hRR : RivM h sh = RR
  have isRR : ∀ y, RR y ↔ ((m20 y ∧ pop y 31 ≤ 3) ∧ toldAs (lamL (ampY (dM h 1) (thT (dM h) sh (h 104 12)) y) (fun k => h 116 k) (fun k => h 117 k) (h 98 50).toNat) (h 98 1) (h 98 5) (h 98 6) (h 98 7) (tlM h)) := fun y => by rw [← hRR]; rfl
  generalize hQ : (rV (fun h' : AH => (keepM h h' ∧ h' 98 0 = h 98 0) ∧ enR RR h')) = Q
  -- one set
  have proc : ∀ (y m : Int) (h1 : AH) (D : Int → Prop) (x4 : AV), m20 y → pop y 31 = m → (0 ≤ m ∧ m ≤ 3) → (keepM h h1 ∧ h1 98 0 = h 98 0) → enR D h1 → h1 98 72 < 1351 → (∀ z, D z → ordP z y) → (∀ (h2 : AH) (x4 : AV), (keepM h h2 ∧ h2 98 0 = h 98 0) → enR (fun z => D z ∨ (z = y ∧ RR z)) h2 → h2 98 72 ≤ h1 98 72 + 1 → Wp mX12_finds (kR fr 0 0) Q (0, 0) 109 [zR 98, zI sh, zI m, zI y, x4] [] 137 h2) → Wp mX12_finds (kR fr 0 0) Q (0, 0) 21 [zR 98, zI sh, zI m, zI y, x4] [] 137 h1 := by
    intro y m h1 D x4 hy py hm k1 en n1 bef cont
    have y0 := hy.1
    have y1 := hy.2
    refine bX12_finds_21 (hS := m_bits y0 (by omega)) (kk := ?_)
    rintro x h2 ⟨e2, hx⟩
    rw [e2, hx, py]; clear e2 h2 hx x
    refine bX12_finds_25 (kt := fun _ => ?_) (kf := fun q => absurd rfl q)
    refine bX12_finds_32 (hS := m_opens (by decide)) (kk := ?_)
    intro h2 hop
    refine bX12_finds_41 (kk := ?_)
    have eO : ∀ i, i ≠ 45 → i ≠ 48 → i ≠ 49 → opened h1 60 0 12 98 i = h1 98 i := fun i a b c => opened_i a b c
    have kO : keepM h (opened h1 60 0 12) := k1.1.tr (keepM.opened h1 60 0 12)
    suffices L : ∀ (dk k : Nat) (h2 : AH), (k : Int) + dk = h 98 50 → isRow (opened h1 60 0 12) h2 (lamL (ampY (dM h 1) (thT (dM h) sh (h 104 12)) y) (fun k => h 116 k) (fun k => h 117 k) k) → Wp mX12_finds (kR fr 0 0) Q (0, 0) 44 [zR 98, zI sh, zI m, zI y, zI k] [] 137 h2 by
      exact L (h 98 50).toNat 0 h2 (by omega) hop
    intro dk
    induction dk with
    | succ dk ihk =>
      intro k h2 hk hr
      have k2 : keepM h h2 := kO.tr (keepM.row hr)
      have f50 := k2.2 50 (by unfold perF; omega)
      have f1 := k2.2 1 (by unfold perF; omega)
      have f116 := k2.1 116 (by unfold perC; omega)
      have f117 := k2.1 117 (by unfold perC; omega)
      have f104 := k2.1 104 (by unfold perC; omega)
      have f45 : h2 98 45 = 60 := by rw [hr.1 98 (by decide)]; rfl
      obtain ⟨p1, p2⟩ := h116 k (by omega) (by omega)
      refine bX12_finds_44 (kt := fun q => by omega) (kf := fun _ => ?_)
      refine bX12_finds_53 (hS := by
        rw [f116, f117]
        exact m_saysBy (by omega) (by rw [k2.dM]; exact hd) (by rw [f1]; exact p1) (by omega) (by rw [f45]; decide) hy ⟨by omega, hsh.2⟩) (kk := ?_)
      intro h3 g3
      rw [k2.dM, f104] at g3
      refine bX12_finds_73 (kk := ihk (k + 1) h3 (by omega) (isRow_eq (isRow_says hr g3) (fun t s _ _ _ _ => ?_)))
      show _ = lamL _ _ _ k t s + _
      congr 1
      show (if s = h 116 (k : Int) then ampY (dM h 1) (thT (dM h) sh (h 104 12)) y (h 116 k) (t - h 117 k) else 0) = if s = h 116 (k : Int) then ampY (dM h 1) (thT (dM h) sh (h 104 12)) y s (t - h 117 k) else 0
      by_cases e : s = h 116 k
      · rw [if_pos e, if_pos e, e]
      · rw [if_neg e, if_neg e]
    | zero =>
      intro k h2 hk hr
      have k2 : keepM h h2 := kO.tr (keepM.row hr)
      have t2 : h2 98 0 = h 98 0 := by rw [hr.1 98 (by decide), eO 0 (by decide) (by decide) (by decide), k1.2]
      have e72 : h2 98 72 = h1 98 72 := by rw [hr.1 98 (by decide), eO 72 (by decide) (by decide) (by decide)]
      have e125 : h2 125 = h1 125 := by rw [hr.1 125 (by decide), opened_c (by decide)]
      have en2 := en.same e72 e125
      have f50 := k2.2 50 (by unfold perF; omega)
      have f1 := k2.2 1 (by unfold perF; omega)
      have f5 := k2.2 5 (by unfold perF; omega)
      have f6 := k2.2 6 (by unfold perF; omega)
      have f7 := k2.2 7 (by unfold perF; omega)
      have f68 := k2.2 68 (by unfold perF; omega)
      have f124 := k2.1 124 (by unfold perC; omega)
      have etl : tlM h2 = tlM h := by funext t; unfold tlM; rw [f68, f124]
      have ek : k = (h 98 50).toNat := by omega
      refine bX12_finds_44 (kt := fun _ => ?_) (kf := fun q => by omega)
      refine bX12_finds_79 (hS := m_isTold (by omega) (by rw [f1]; exact hS) (by rw [f5]; exact hL) (by rw [f6]; exact hWi) (by rw [f7]; exact hMa) hr rfl (fun t s _ _ s0 s8 => ?_) (by rw [f68]; exact h68) (by rw [f68, f124, f1]; exact h124)) (kk := ?_)
      · have := sg_rng (f := fun i : Nat => if s = h 116 i then ampY (dM h 1) (thT (dM h) sh (h 104 12)) y s (t - h 117 i) else 0) (B := 198) (n := k) (fun i hi => by
          split
          · rename_i c
            obtain ⟨p1, p2⟩ := h116 i (by omega) (by omega)
            exact ampY_rng hd (by omega) hai s0 (show s < h 98 1 by rw [c]; exact p1.2)
          · decide)
        have k200 : (k : Int) * 198 ≤ 200 * 198 := by omega
        exact ⟨this.1, Int.lt_of_le_of_lt this.2 (by omega)⟩
      rintro r h3 ⟨e3, r3⟩
      rw [e3]; clear e3 h3
      rw [f1, f5, f6, f7, etl] at r3
      have isY : RR y ↔ toldAs (lamL (ampY (dM h 1) (thT (dM h) sh (h 104 12)) y) (fun k => h 116 k) (fun k => h 117 k) k) (h 98 1) (h 98 5) (h 98 6) (h 98 7) (tlM h) := by
        rw [isRR, ek]
        exact ⟨fun z => z.2, fun z => ⟨⟨hy, by omega⟩, z⟩⟩
      refine bX12_finds_83 (r1 := by rcases r3 with c | c <;> omega) (kt := fun c => ?_) (kf := fun c => ?_)
      · rcases r3 with ⟨-, yes⟩ | ⟨c', -⟩
        rotate_left
        · exact absurd c' c
        have sy := isY.mpr yes
        refine bX12_finds_89 (r1 := by rw [e72]; have := en.1; omega) (kk := cont _ _ ⟨(k2.tr (keepM.upC (by unfold perC; omega) (by decide))).tr (keepM.up98 (by unfold perF; omega)), by rw [up_cn (by decide), up_n (by decide)]; exact t2⟩ ((en2.add (y := y) (by rw [e72]; exact n1) bef).cong (fun z => ?_)) (by rw [up_ci, e72]; exact Int.le_refl _))
        constructor
        · rintro (w | w)
          · exact Or.inl w
          · exact Or.inr ⟨w, by rw [w]; exact sy⟩
        · rintro (w | w)
          · exact Or.inl w
          · exact Or.inr w.1
      · rcases r3 with ⟨c', -⟩ | ⟨-, no⟩
        · omega
        refine bX12_finds_86 (kk := cont h2 _ ⟨k2, t2⟩ (en2.cong (fun z => ?_)) (by rw [e72]; omega))
        constructor
        · exact fun w => Or.inl w
        · rintro (w | ⟨w1, w2⟩)
          · exact w
          · rw [w1] at w2; exact absurd (isY.mp w2) no
  refine bX12_finds_0 (kk := ?_)
  suffices M : ∀ (dm m : Nat) (h1 : AH) (x3 x4 : AV), m + dm = 4 → (keepM h h1 ∧ h1 98 0 = h 98 0) → enR (fun y => RR y ∧ ∃ a b c, tri a b c ∧ isT y a b c ∧ nz a b c < m) h1 → h1 98 72 ≤ stM m → Wp mX12_finds (kR fr 0 0) Q (0, 0) 7 [zR 98, zI sh, zI m, x3, x4] [] 137 h1 by
    refine M 4 0 _ _ _ (by omega) ⟨keepM.up98 (by unfold perF; omega), by rw [up_cn (by decide)]⟩ ⟨by rw [up_ci]; decide, fun k p q => by rw [up_ci] at q; omega, fun i j p q r => by rw [up_ci] at r; omega, ?_⟩ (by rw [up_ci]; decide)
    rintro y ⟨-, a, b, c, t, -, z⟩
    have := nz_tri t
    omega
  intro dm
  induction dm with
  | zero =>
    intro m h1 x3 x4 hm k1 en n1
    refine bX12_finds_7 (kt := fun _ => ?_) (kf := fun q => by omega)
    refine bX12_finds_124 (hq := ?_)
    rw [← hQ]
    refine ⟨rfl, rfl, k1, en.cong (fun y => ⟨fun z => z.1, fun z => ⟨z, ?_⟩⟩)⟩
    obtain ⟨⟨p, q⟩, -⟩ := (isRR y).mp z
    obtain ⟨a, b, c, e1, e2⟩ := tri_ex p q
    have := nz_tri e1
    exact ⟨a, b, c, e1, e2, by omega⟩
  | succ dm ih =>
    intro m h1 x3 x4 hm k1 en n1
    refine bX12_finds_7 (kt := fun q => by omega) (kf := fun _ => ?_)
    refine bX12_finds_12 (kk := ?_)
    refine bX12_finds_14 (kt := fun q => by omega) (kf := fun _ => ?_)
    by_cases e0 : m = 0
    · subst e0
      have i0 : isT 0 0 0 0 := ⟨by constructor <;> decide, fun j => by rw [bt_zero]; exact ⟨fun z => absurd z (by decide), fun z => by omega⟩⟩
      have t0 : tri 0 0 0 := by unfold tri; omega
      refine proc 0 0 h1 _ _ i0.1 (by rw [pop_T t0 i0]; rfl) (by decide) k1 en (by have : stM 0 = 0 := rfl; omega) (fun z hz => ?_) (fun h2 x4 k2 en2 n2 => ?_)
      · obtain ⟨-, a, b, c, t, -, z⟩ := hz
        have := nz_tri t
        omega
      refine bX12_finds_109 (hS := m_next00 (by decide)) (kk := ?_)
      rintro r h3 ⟨e3, hr⟩
      rw [e3]; clear e3 h3
      have er : r = 1048576 := by omega
      rw [er]
      refine bX12_finds_114 (kk := bX12_finds_14 (kt := fun _ => ?_) (kf := fun q => by omega))
      refine bX12_finds_118 (kk := ih 1 h2 _ _ (by omega) k2 (en2.cong (fun y => ?_)) (by have : stM 0 = 0 := rfl; have : stM 1 = 1 := rfl; omega))
      constructor
      · rintro (⟨z, a, b, c, t, i, w⟩ | ⟨z, w⟩)
        · have := nz_tri t; omega
        · rw [z] at w ⊢; exact ⟨w, 0, 0, 0, t0, i0, by decide⟩
      · rintro ⟨z, a, b, c, t, i, w⟩
        have q := nz_tri t
        have : a = 0 ∧ b = 0 ∧ c = 0 := by omega
        obtain ⟨rfl, rfl, rfl⟩ := this
        exact Or.inr ⟨i.one i0, z⟩
    -- the first of so many
    refine bX12_finds_21 (hS := m_bits (by decide) (by decide)) (kk := ?_)
    rintro x h2 ⟨e2, hx⟩
    rw [e2, hx, show pop 0 31 = 0 by decide]; clear e2 h2 hx x
    refine bX12_finds_25 (kt := fun q => by omega) (kf := fun _ => bX12_finds_29 (kk := ?_))
    refine bX12_finds_109 (hS := m_next00 (by omega)) (kk := ?_)
    rintro r h3 ⟨e3, hr⟩
    rw [e3]; clear e3 h3
    refine bX12_finds_114 (kk := ?_)
    suffices I : ∀ (d a b c : Nat) (h1 : AH) (x4 : AV), vd m a b c → (a ≤ 20 ∨ lastT m a b c) → rkT a b c + d = rkE a b c → (keepM h h1 ∧ h1 98 0 = h 98 0) → enR (fun y => RR y ∧ ∃ a' b' c', tri a' b' c' ∧ isT y a' b' c' ∧ (nz a' b' c' < m ∨ (nz a' b' c' = m ∧ lx a' b' c' a b c))) h1 → h1 98 72 ≤ rkT a b c → Wp mX12_finds (kR fr 0 0) Q (0, 0) 14 [zR 98, zI sh, zI m, zI (vT a b c : Nat), x4] [] 137 h1 by
      have st : ∀ (a b c : Nat), vd m a b c → a ≤ 20 → r = (vT a b c : Nat) → rkT a b c = stM m → (∀ a' b' c', tri a' b' c' → nz a' b' c' = m → ¬ lx a' b' c' a b c) → Wp mX12_finds (kR fr 0 0) Q (0, 0) 14 [zR 98, zI sh, zI m, zI r, none] [] 137 h1 := fun a b c v a20 er rk no => by
        rw [er]
        have lt : rkT a b c ≤ rkE a b c := by
          rw [rk, rkE_vd v]
          unfold vd at v
          rcases (show m = 1 ∨ m = 2 ∨ m = 3 by omega) with e | e | e <;> subst e <;> decide
        refine I (rkE a b c - rkT a b c) a b c h1 _ v (Or.inl a20) (by omega) k1 (en.cong (fun y => ?_)) (by rw [rk]; exact n1)
        constructor
        · rintro ⟨z, a', b', c', t, i, w⟩
          exact ⟨z, a', b', c', t, i, Or.inl w⟩
        · rintro ⟨z, a', b', c', t, i, w | ⟨w1, w2⟩⟩
          · exact ⟨z, a', b', c', t, i, w⟩
          · exact absurd w2 (no a' b' c' t w1)
      rcases hr with ⟨e, -⟩ | ⟨e, hr⟩ | ⟨e, hr⟩ | ⟨e, hr⟩
      · omega
      · have em : m = 1 := by omega
        subst em
        exact st 1 0 0 (Or.inl ⟨rfl, by decide, rfl, rfl⟩) (by decide) (by rw [hr]; decide) (by decide) (fun a' b' c' t n w => by have := nz_tri t; unfold lx at w; omega)
      · have em : m = 2 := by omega
        subst em
        exact st 2 1 0 (Or.inr (Or.inl ⟨rfl, by decide, by decide, rfl⟩)) (by decide) (by rw [hr]; decide) (by decide) (fun a' b' c' t n w => by have := nz_tri t; unfold lx at w; omega)
      · have em : m = 3 := by omega
        subst em
        exact st 3 2 1 (Or.inr (Or.inr ⟨rfl, by decide, by decide, by decide⟩)) (by decide) (by rw [hr]; decide) (by decide) (fun a' b' c' t n w => by have := nz_tri t; unfold lx at w; omega)
    intro d
    induction d with
    | zero =>
      intro a b c h1 x4 v al rk k1 en n1
      have gv : a ≤ 20 → False := fun a20 => by
        have g := gos_all ⟨a, by omega⟩ ⟨b, by unfold vd at v; omega⟩ ⟨c, by unfold vd at v; omega⟩ (by unfold vd at v; show 0 < a; omega) (by unfold vd at v; show b < a; omega) (fun z => by unfold vd at v; show c = 0; have : b = 0 := z; omega) (fun z => by unfold vd at v; show c < b; have : b ≠ 0 := z; omega)
        have := g.2.2.2
        dsimp only at this
        omega
      have la : lastT m a b c := al.elim (fun z => (gv z).elim) (fun z => z)
      have a21 := la.1
      subst a21
      have big := vT_big (b := b) (c := c)
      have sm : vT 21 b c < 2 ^ 21 := Nat.or_lt_two_pow (Nat.or_lt_two_pow (pw1_lt (by decide)) (pw1_lt (by unfold vd at v; omega))) (pw1_lt (by unfold vd at v; omega))
      refine bX12_finds_14 (kt := fun _ => ?_) (kf := fun q => by omega)
      refine bX12_finds_118 (kk := ?_)
      rw [show (m : Int) + 1 = ((m + 1 : Nat) : Int) by omega]
      refine ih (m + 1) h1 _ _ (by omega) k1 (en.cong (fun y => ?_)) (by rw [← rkE_vd v]; omega)
      constructor
      · rintro ⟨z, a', b', c', t, i, w⟩
        exact ⟨z, a', b', c', t, i, by omega⟩
      · rintro ⟨z, a', b', c', t, i, w⟩
        refine ⟨z, a', b', c', t, i, ?_⟩
        by_cases e : nz a' b' c' < m
        · exact Or.inl e
        · exact Or.inr ⟨by omega, by have := t.1.2; unfold lx; omega⟩
    | succ d ihd =>
      intro a b c h1 x4 v al rk k1 en n1
      have a20 : a ≤ 20 := al.elim (fun z => z) (fun z => by have := rk_last z; omega)
      have g := gos_all ⟨a, by omega⟩ ⟨b, by unfold vd at v; omega⟩ ⟨c, by unfold vd at v; omega⟩ (by unfold vd at v; show 0 < a; omega) (by unfold vd at v; show b < a; omega) (fun z => by unfold vd at v; show c = 0; have : b = 0 := z; omega) (fun z => by unfold vd at v; show c < b; have : b ≠ 0 := z; omega)
      dsimp only at g
      obtain ⟨⟨g1, g2, g3, g4, g5, g6, g7⟩, g8, g9, g10⟩ := g
      have iT : isT (vT a b c : Nat) a b c := vT_isT a20 (by unfold vd at v; omega) (by unfold vd at v; omega)
      have tT : tri a b c := by unfold tri; unfold vd at v; omega
      have nzT : nz a b c = m := by have := nz_tri tT; unfold vd at v; omega
      have v20 := iT.1.2
      have v0 : 0 < vT a b c := by
        have := (iT.2 (a - 1)).mpr (Or.inl (by unfold vd at v; omega))
        by_cases e : vT a b c = 0
        · rw [e] at this
          have e2 : ((0 : Nat) : Int) = 0 := rfl
          rw [e2, bt_zero] at this
          cases this
        · omega
      have rE : rkE a b c ≤ 1351 := by unfold rkE; split <;> (try split) <;> (try split) <;> decide
      refine bX12_finds_14 (kt := fun q => by omega) (kf := fun _ => ?_)
      refine proc _ m h1 _ _ iT.1 (by rw [pop_T tT iT]; exact nzT) (by omega) k1 en (by omega) (fun z hz => ?_) (fun h2 x4 k2 en2 n2 => ?_)
      · obtain ⟨-, a', b', c', t, i, w⟩ := hz
        unfold ordP
        rw [pop_T t i, pop_T tT iT, nzT]
        rcases w with w | ⟨w1, w2⟩
        · exact Or.inl w
        · exact Or.inr ⟨w1, isT.lt t tT i iT w2⟩
      obtain ⟨a1, b1, c1, e1⟩ : ∃ a1 b1 c1, nxT a b c = (a1, b1, c1) := ⟨_, _, _, rfl⟩
      rw [e1] at g8 g9
      dsimp only at g8 g9
      obtain ⟨n1', n2', n3'⟩ := nxT_ok v a20 e1
      refine bX12_finds_109 (hS := m_next0 v0 (by omega) (by constructor <;> omega) g1 g2 g3 g4 g5 g6 g7) (kk := ?_)
      rintro r h3 ⟨e3, hr⟩
      rw [e3, hr, g8]; clear e3 h3 hr r
      refine bX12_finds_114 (kk := ihd a1 b1 c1 h2 _ n1' n2' (by rw [rkE_vd n1', ← rkE_vd v]; omega) k2 (en2.cong (fun y => ?_)) (by omega))
      constructor
      · rintro (⟨z, a', b', c', t, i, w | ⟨w1, w2⟩⟩ | ⟨z, w⟩)
        · exact ⟨z, a', b', c', t, i, Or.inl w⟩
        · exact ⟨z, a', b', c', t, i, Or.inr ⟨w1, (n3' a' b' c' t w1).mpr (Or.inl w2)⟩⟩
        · rw [z] at w ⊢
          exact ⟨w, a, b, c, tT, iT, Or.inr ⟨nzT, (n3' a b c tT nzT).mpr (Or.inr ⟨rfl, rfl, rfl⟩)⟩⟩
      · rintro ⟨z, a', b', c', t, i, w | ⟨w1, w2⟩⟩
        · exact Or.inl ⟨z, a', b', c', t, i, Or.inl w⟩
        · rcases (n3' a' b' c' t w1).mp w2 with u | ⟨rfl, rfl, rfl⟩
          · exact Or.inl ⟨z, a', b', c', t, i, Or.inr ⟨w1, u⟩⟩
          · exact Or.inr ⟨i.one iT, z⟩
