/-! ===== matching: both sides ===== -/
theorem sq100 (q : Int) : (q * 100) * (q * 100) = 10000 * (q * q) := by
  rw [Int.mul_assoc, Int.mul_comm 100 (q * 100), Int.mul_assoc q 100 100, ← Int.mul_assoc]
  omega
theorem root100 {r N : Int} (r0 : 0 ≤ r) (N0 : 0 ≤ N) (h1 : r * r ≤ 10000 * N) (h2 : 10000 * N < (r + 1) * (r + 1)) : r / 100 = rootN N.toNat := by
  have a := mul_rng (a := r / 100 * 100) (A := r) (b := r / 100 * 100) (B := r) (by omega) (by omega) (by omega) (by omega)
  have b := mul_rng (a := r + 1) (A := (r / 100 + 1) * 100) (b := r + 1) (B := (r / 100 + 1) * 100) (by omega) (by omega) (by omega) (by omega)
  rw [sq100] at a b
  obtain ⟨q, hq⟩ : ∃ q : Nat, r / 100 = q := ⟨(r / 100).toNat, by omega⟩
  obtain ⟨n, rfl⟩ : ∃ n : Nat, N = n := ⟨N.toNat, by omega⟩
  rw [hq] at a b ⊢
  have c1 : (q : Int) * q ≤ n := by omega
  have c2 : (n : Int) < ((q : Int) + 1) * (q + 1) := by omega
  have := rootN_one (n := n) (r := q) (by exact_mod_cast c1) (by exact_mod_cast c2)
  rw [Int.toNat_natCast]
  omega
theorem m_ticksTo {fr : Nat} {k e : Int} {h : AH} (hk : 0 ≤ k ∧ k < 961) (he : 0 ≤ e ∧ e < 3) (hi : ∀ i, 0 ≤ i → i < 6 → 0 ≤ h 128 i ∧ h 128 i ≤ 30) : Sp mX12_ticksTo true fr 0 0 [zR 98, zI k, zI e] 137 h (rI (fun r h' => h' = h ∧ r = tick (fun e => h 128 (2 * e)) (fun e => h 128 (2 * e + 1)) e (k % 31) (k / 31))) := by
  refine Sp.mk yX12_ticksTo_ok rfl rfl ?_
  have x0 := hi (2 * e) (by omega) (by omega)
  have y0 := hi (2 * e + 1) (by omega) (by omega)
  refine bX12_ticksTo_0 (kk := ?_)
  have sx := sq_rng (d := k % 31 - h 128 (2 * e)) (by omega) (by omega)
  have sy := sq_rng (d := k / 31 - h 128 (2 * e + 1)) (by omega) (by omega)
  unfold tick
  have hV : 0 ≤ (k % 31 - h 128 (2 * e)) * (k % 31 - h 128 (2 * e)) + (k / 31 - h 128 (2 * e + 1)) * (k / 31 - h 128 (2 * e + 1)) ∧ (k % 31 - h 128 (2 * e)) * (k % 31 - h 128 (2 * e)) + (k / 31 - h 128 (2 * e + 1)) * (k / 31 - h 128 (2 * e + 1)) ≤ 1800 := by omega
  generalize (k % 31 - h 128 (2 * e)) * (k % 31 - h 128 (2 * e)) + (k / 31 - h 128 (2 * e + 1)) * (k / 31 - h 128 (2 * e + 1)) = V at *
  suffices H : ∀ (d : Nat) (lo hi : Int) (x0 x1 x2 x3 x4 x8 : AV), 0 ≤ lo → hi ≤ 5000 → lo ≤ hi → hi ≤ lo + d → lo * lo ≤ 10000 * V → 10000 * V < (hi + 1) * (hi + 1) → Wp mX12_ticksTo (kR fr 0 0) (rI (fun r h' => h' = h ∧ r = rootN V.toNat)) (0, 0) 54 [x0, x1, x2, x3, x4, zI (10000 * V), zI lo, zI hi, x8] [] 137 h by
    exact H 5000 0 5000 _ _ _ _ _ _ (by decide) (by decide) (by decide) (by decide) (by omega) (by omega)
  intro d
  induction d with
  | zero =>
    intro lo hi x0 x1 x2 x3 x4 x8 l0 h0 lh hd a b
    refine bX12_ticksTo_54 (kt := fun q => ?_) (kf := fun q => by omega)
    refine bX12_ticksTo_98 (hq := ⟨_, rfl, rfl, rfl, root100 l0 (by omega) a (by rw [show lo = hi by omega]; exact b)⟩)
  | succ d ih =>
    intro lo hi x0 x1 x2 x3 x4 x8 l0 h0 lh hd a b
    refine bX12_ticksTo_54 (kt := fun q => ?_) (kf := fun q => ?_)
    · refine bX12_ticksTo_98 (hq := ⟨_, rfl, rfl, rfl, root100 l0 (by omega) a (by rw [show lo = hi by omega]; exact b)⟩)
    · have m := mul_rng (a := (lo + hi + 1) / 2) (A := 5000) (b := (lo + hi + 1) / 2) (B := 5000) (by omega) (by omega) (by omega) (by omega)
      refine bX12_ticksTo_61 (kt := fun q2 => ?_) (kf := fun q2 => ?_)
      · refine bX12_ticksTo_89 (kk := bX12_ticksTo_95 (kk := ih _ _ _ _ _ _ _ _ l0 (by omega) (by omega) (by omega) a ?_))
        rw [show (lo + hi + 1) / 2 - 1 + 1 = (lo + hi + 1) / 2 by omega]
        exact q2
      · exact bX12_ticksTo_82 (kk := bX12_ticksTo_95 (kk := ih _ _ _ _ _ _ _ _ (by omega) (by omega) (by omega) (by omega) q2 b))
theorem m_matches {fr : Nat} {a b : Int} {k : Nat} {h : AH} (hf : 1 ≤ fr) (hk : (k : Int) < 961) (ra : R32 a) (rb : R32 b) (hi : ∀ i, 0 ≤ i → i < 6 → 0 ≤ h 128 i ∧ h 128 i ≤ 30) : Sp mX12_matches true fr 0 0 [zR 98, zI k, zI a, zI b] 137 h (rI (fun r h' => h' = h ∧ r = if plc (fun e => h 128 (2 * e)) (fun e => h 128 (2 * e + 1)) a b k = true then 1 else 0)) := by
  refine Sp.mk yX12_matches_ok rfl rfl ?_
  have g0 := tick_rng (X := fun e => h 128 (2 * e)) (Y := fun e => h 128 (2 * e + 1)) (e := 0) (hi 0 (by decide) (by decide)) (hi 1 (by decide) (by decide)) (x := (k : Int) % 31) (y := (k : Int) / 31) (by omega) (by omega)
  have g1 := tick_rng (X := fun e => h 128 (2 * e)) (Y := fun e => h 128 (2 * e + 1)) (e := 1) (hi 2 (by decide) (by decide)) (hi 3 (by decide) (by decide)) (x := (k : Int) % 31) (y := (k : Int) / 31) (by omega) (by omega)
  have g2 := tick_rng (X := fun e => h 128 (2 * e)) (Y := fun e => h 128 (2 * e + 1)) (e := 2) (hi 4 (by decide) (by decide)) (hi 5 (by decide) (by decide)) (x := (k : Int) % 31) (y := (k : Int) / 31) (by omega) (by omega)
  obtain ⟨ra1, ra2⟩ := ra
  obtain ⟨rb1, rb2⟩ := rb
  refine bX12_matches_0 (hS := m_ticksTo (by omega) (by decide) hi) (kk := ?_)
  rintro t0 h1 ⟨e1, h0⟩
  rw [e1]; clear e1 h1
  refine bX12_matches_6 (hS := m_ticksTo (by omega) (by decide) hi) (kk := ?_)
  rintro t1 h1 ⟨e1, h11⟩
  rw [e1]; clear e1 h1
  refine bX12_matches_14 (kt := fun q => ?_) (kf := fun q => ?_)
  · refine bX12_matches_38 (kk := bX12_matches_39 (hq := ⟨_, rfl, rfl, rfl, ?_⟩))
    rw [if_neg (fun z => by unfold plc mat at z; have := of_decide_eq_true z; omega)]
  refine bX12_matches_21 (hS := m_ticksTo (by omega) (by decide) hi) (kk := ?_)
  rintro t2 h1 ⟨e1, h2⟩
  rw [e1]; clear e1 h1
  refine bX12_matches_27 (kt := fun q2 => ?_) (kf := fun q2 => ?_)
  · refine bX12_matches_38 (kk := bX12_matches_39 (hq := ⟨_, rfl, rfl, rfl, ?_⟩))
    rw [if_neg (fun z => by unfold plc mat at z; have := of_decide_eq_true z; omega)]
  · refine bX12_matches_34 (kk := bX12_matches_39 (hq := ⟨_, rfl, rfl, rfl, ?_⟩))
    rw [if_pos (by unfold plc mat; exact decide_eq_true ⟨by omega, by omega⟩)]
/-- what matching answers, where it does -/
def matchR (p : Nat → Bool) (i x : Int) : Prop := (i = -1 ∧ x = cnt p 961) ∨ (0 ≤ i ∧ 0 ≤ x ∧ x < 961 ∧ p x.toNat = true ∧ cnt p x.toNat = i)
def matchOk (p : Nat → Bool) (i : Int) : Prop := i = -1 ∨ (0 ≤ i ∧ i < cnt p 961)
theorem c_matching {fr : Nat} {a b i : Int} {h : AH} (hf : 8 ≤ fr) (hr : rootsC h) (hi : earsIn h 34) (ra : R32 a) (rb : R32 b) (ri : R32 i) : Sp mX11_matching true fr 8 48 [zR 1, zI a, zI b, zI i] 137 h (rIx (fun x h' => h' = h ∧ matchR (plc (fun e => h 38 e) (fun e => h 39 e) a b) i x) (fun E h' => h' = h ∧ E = NSE ∧ ¬ matchOk (plc (fun e => h 38 e) (fun e => h 39 e) a b) i)) := by
  refine Sp.mk yX11_matching_ok rfl rfl ?_
  obtain ⟨ri1, ri2⟩ := id ri
  refine bX11_matching_0 (kt := fun q => ?_) (kf := fun q => ?_)
  · refine bX11_matching_21 (hS := c_findMatching (by omega) e34 hr hi ra rb ri) (kk := ?_)
    rintro x h1 ⟨e1, hx⟩
    rw [e1]; clear e1 h1
    have hx' : nth (plc (fun e => h 38 e) (fun e => h 39 e) a b) 961 i x := hx
    have hxr : -1 ≤ x ∧ x < 961 := by rcases hx with ⟨-, z1, z2, -⟩ | ⟨z, -⟩ <;> omega
    refine bX11_matching_35 (kt := fun q2 => ?_) (kf := fun q2 => ?_)
    · refine bX11_matching_51 (hq := ⟨rfl, Or.inl ⟨_, rfl, rfl, ?_⟩⟩)
      rcases hx' with z | ⟨z, -⟩
      · exact Or.inr z
      · exact absurd z q2
    · refine bX11_matching_43 (hq := ⟨rfl, Or.inr ⟨_, rfl, rfl, rfl, fun w => ?_⟩⟩)
      rcases hx' with ⟨-, z, -⟩ | ⟨-, z⟩
      · omega
      · rcases w with w | w <;> omega
  · refine bX11_matching_5 (hS := c_countMatching (by omega) e34 hr hi ra rb) (kk := ?_)
    rintro x h1 ⟨e1, hx⟩
    rw [e1]; clear e1 h1
    have hx' : x = cnt (plc (fun e => h 38 e) (fun e => h 39 e) a b) 961 := hx
    have := cnt_rng (plc (fun e => h 38 e) (fun e => h 39 e) a b) 961
    refine bX11_matching_18 (kk := bX11_matching_35 (kt := fun q2 => ?_) (kf := fun q2 => by omega))
    exact bX11_matching_51 (hq := ⟨rfl, Or.inl ⟨_, rfl, rfl, Or.inl ⟨q, hx'⟩⟩⟩)
theorem m_matching {fr : Nat} {a b i : Int} {h : AH} (hf : 2 ≤ fr) (ra : R32 a) (rb : R32 b) (ri : R32 i) (hi : ∀ j, 0 ≤ j → j < 6 → 0 ≤ h 128 j ∧ h 128 j ≤ 30) : Sp mX12_matching true fr 0 0 [zR 98, zI a, zI b, zI i] 137 h (rI (fun x h' => (matchR (plc (fun e => h 128 (2 * e)) (fun e => h 128 (2 * e + 1)) a b) i x ∧ h' = up h 98 0 0) ∨ (¬ matchOk (plc (fun e => h 128 (2 * e)) (fun e => h 128 (2 * e + 1)) a b) i ∧ h' = up h 98 0 1))) := by
  refine Sp.mk yX12_matching_ok rfl rfl ?_
  obtain ⟨ri1, ri2⟩ := id ri
  have e0 : up h 98 0 0 98 0 = 0 := rfl
  have e128 : up h 98 0 0 128 = h 128 := up_n (by decide)
  refine bX12_matching_0 (kt := fun q => ?_) (kf := fun q => ?_)
  · refine bX12_matching_15 (kk := bX12_matching_16 (hS := m_right R32_0 R32_1 (by decide) (by rw [e0]; exact R32_0)) (kk := ?_))
    rintro x h1 (⟨-, w, -⟩ | ⟨-, -, rfl, rfl⟩ | ⟨w, -⟩)
    · exact absurd rfl w
    · refine bX12_matching_20 (kt := fun w => absurd rfl w) (kf := fun _ => bX12_matching_23 (hq := ⟨_, rfl, rfl, Or.inr ⟨fun w => ?_, up_up _ _ _ _ _⟩⟩))
      rcases w with w | w <;> omega
    · exact absurd e0 w
  refine bX12_matching_11 (kk := bX12_matching_16 (hS := m_right R32_1 R32_1 (by decide) (by rw [e0]; exact R32_0)) (kk := ?_))
  rintro x h1 (⟨-, -, rfl, rfl⟩ | ⟨-, w, -⟩ | ⟨w, -⟩)
  rotate_left
  · exact absurd w (by decide)
  · exact absurd e0 w
  refine bX12_matching_20 (kt := fun _ => ?_) (kf := fun w => absurd w (by decide))
  refine bX12_matching_25 (kk := ?_)
  suffices H : ∀ (d k : Nat), k + d = 961 → (0 ≤ i → cnt (plc (fun e => h 128 (2 * e)) (fun e => h 128 (2 * e + 1)) a b) k ≤ i) → Wp mX12_matching (kR fr 0 0) (rI (fun x h' => (matchR (plc (fun e => h 128 (2 * e)) (fun e => h 128 (2 * e + 1)) a b) i x ∧ h' = up h 98 0 0) ∨ (¬ matchOk (plc (fun e => h 128 (2 * e)) (fun e => h 128 (2 * e + 1)) a b) i ∧ h' = up h 98 0 1))) (0, 0) 31 [zR 98, zI a, zI b, zI i, zI (cnt (plc (fun e => h 128 (2 * e)) (fun e => h 128 (2 * e + 1)) a b) k), zI k] [] 137 (up h 98 0 0) by
    exact H 961 0 (by omega) (fun z => z)
  intro d
  induction d with
  | zero =>
    intro k hk hle
    have hcr := cnt_rng (plc (fun e => h 128 (2 * e)) (fun e => h 128 (2 * e + 1)) a b) k
    refine bX12_matching_31 (kt := fun q2 => ?_) (kf := fun q2 => by omega)
    have ek : k = 961 := by omega
    subst ek
    refine bX12_matching_71 (kt := fun q3 => ?_) (kf := fun q3 => ?_)
    · refine bX12_matching_81 (kk := bX12_matching_82 (hS := m_right R32_0 R32_1 (by decide) (by rw [e0]; exact R32_0)) (kk := ?_))
      rintro y h1 (⟨-, w, -⟩ | ⟨-, -, rfl, rfl⟩ | ⟨w, -⟩)
      · exact absurd rfl w
      · refine bX12_matching_86 (kt := fun _ => ?_) (kf := fun w => absurd rfl w)
        refine bX12_matching_94 (kk := bX12_matching_95 (hq := ⟨_, rfl, rfl, Or.inr ⟨fun w => ?_, up_up _ _ _ _ _⟩⟩))
        have := hle (by omega)
        rcases w with w | w <;> omega
      · exact absurd e0 w
    · refine bX12_matching_77 (kk := bX12_matching_82 (hS := m_right R32_1 R32_1 (by decide) (by rw [e0]; exact R32_0)) (kk := ?_))
      rintro y h1 (⟨-, -, rfl, rfl⟩ | ⟨-, w, -⟩ | ⟨w, -⟩)
      · refine bX12_matching_86 (kt := fun w => absurd w (by decide)) (kf := fun _ => ?_)
        exact bX12_matching_89 (kk := bX12_matching_95 (hq := ⟨_, rfl, rfl, Or.inl ⟨Or.inl ⟨q3, rfl⟩, rfl⟩⟩))
      · exact absurd w (by decide)
      · exact absurd e0 w
  | succ d ih =>
    intro k hk hle
    have hcr := cnt_rng (plc (fun e => h 128 (2 * e)) (fun e => h 128 (2 * e + 1)) a b) k
    refine bX12_matching_31 (kt := fun q2 => by omega) (kf := fun q2 => ?_)
    refine bX12_matching_39 (hS := m_matches (by omega) q2 ra rb (by rw [e128]; exact hi)) (kk := ?_)
    rintro r h1 ⟨e1, hr1⟩
    rw [e1]; clear e1 h1
    rw [e128] at hr1
    have st : cnt (plc (fun e => h 128 (2 * e)) (fun e => h 128 (2 * e + 1)) a b) (k + 1) = cnt (plc (fun e => h 128 (2 * e)) (fun e => h 128 (2 * e + 1)) a b) k + r := by
      rw [hr1]; rfl
    have this := ih (k + 1) (by omega)
    rw [st] at this
    refine bX12_matching_47 (r1 := by rw [hr1]; split <;> decide) (kt := fun q3 => ?_) (kf := fun q3 => ?_)
    · have hm : plc (fun e => h 128 (2 * e)) (fun e => h 128 (2 * e + 1)) a b k = true := by
        by_cases c : plc (fun e => h 128 (2 * e)) (fun e => h 128 (2 * e + 1)) a b k = true
        · exact c
        · rw [if_neg c] at hr1; exact absurd hr1 q3
      rw [if_pos hm] at hr1
      refine bX12_matching_53 (kt := fun q4 => ?_) (kf := fun q4 => ?_)
      · rw [hr1] at this
        exact bX12_matching_62 (kk := bX12_matching_65 (kk := this (fun z => by have := hle z; omega)))
      · exact bX12_matching_59 (hq := ⟨_, rfl, rfl, Or.inl ⟨Or.inr ⟨by omega, by omega, by omega, hm, q4⟩, rfl⟩⟩)
    · rw [q3, Int.add_zero] at this
      exact bX12_matching_50 (kk := bX12_matching_65 (kk := this hle))
