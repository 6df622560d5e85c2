/-! ===== the model's reader: steps, is, number ===== -/
def txM (h : AH) (T : Int → Int) (n : Int) : Prop := h 98 20 = n ∧ (0 ≤ n ∧ n ≤ 700) ∧ ∀ i, 0 ≤ i → i < n → h 106 i = T i ∧ 0 ≤ T i ∧ T i < 256
def tokM (h : AH) (T : Int → Int) (n p : Int) : Prop := h 98 21 = bh T n p ∧ h 98 22 = kd T n p ∧ h 98 23 = pl T n p ∧ h 98 24 = bh T n p - pl T n p ∧ h 98 25 = vl T n p ∧ (kd T n p = 1 → h 98 26 = lw T (pl T n p) (min 9 (bh T n p - pl T n p)).toNat)
def bAt (T : Int → Int) (n k : Int) : Int := if k < n then T k else 0
theorem m_byteAt {fr : Nat} {T : Int → Int} {n k : Int} {h : AH} (ht : txM h T n) (k0 : 0 ≤ k) (k1 : k ≤ 700) : Sp mX12_byteAt true fr 0 0 [zR 98, zI k] 137 h (rI (fun x h' => h' = h ∧ x = bAt T n k)) := by
  refine Sp.mk yX12_byteAt_ok rfl rfl ?_
  obtain ⟨t0, tn, tt⟩ := ht
  refine bX12_byteAt_0 (r2 := by omega) (kt := fun q => ?_) (kf := fun q => ?_)
  · rw [t0] at q
    exact bX12_byteAt_17 (kk := bX12_byteAt_18 (hq := ⟨_, rfl, rfl, rfl, by unfold bAt; rw [if_neg (by omega)]⟩))
  · rw [t0] at q
    exact bX12_byteAt_8 (kk := bX12_byteAt_18 (hq := ⟨_, rfl, rfl, rfl, by unfold bAt; rw [if_pos q]; exact (tt k k0 q).1⟩))
theorem bAt_rng {h : AH} {T : Int → Int} {n k : Int} (ht : txM h T n) (k0 : 0 ≤ k) : 0 ≤ bAt T n k ∧ bAt T n k < 256 := by
  unfold bAt
  split
  · exact (ht.2.2 k k0 (by assumption)).2
  · decide
theorem m_isLetter {fr : Nat} {x : Int} {h : AH} (hx : 0 ≤ x ∧ x < 256) : Sp mX12_isLetter true fr 0 0 [zI x] 137 h (rI (fun r h' => h' = h ∧ ((r = 1 ∧ isLe x = true) ∨ (r = 0 ∧ ¬ isLe x = true)))) := by
  refine Sp.mk yX12_isLetter_ok rfl rfl ?_
  have i : isLe x = true ↔ (97 ≤ x ∧ x ≤ 122) := by unfold isLe; rw [decide_eq_true_eq]
  rw [i]
  refine bX12_isLetter_0 (kt := fun q => bX12_isLetter_16 (kk := bX12_isLetter_17 (hq := ⟨_, rfl, rfl, rfl, Or.inr ⟨rfl, by omega⟩⟩))) (kf := fun q => ?_)
  refine bX12_isLetter_6 (kt := fun q => bX12_isLetter_16 (kk := bX12_isLetter_17 (hq := ⟨_, rfl, rfl, rfl, Or.inr ⟨rfl, by omega⟩⟩))) (kf := fun q => ?_)
  exact bX12_isLetter_12 (kk := bX12_isLetter_17 (hq := ⟨_, rfl, rfl, rfl, Or.inl ⟨rfl, by omega⟩⟩))
theorem m_isDigit {fr : Nat} {x : Int} {h : AH} (hx : 0 ≤ x ∧ x < 256) : Sp mX12_isDigit true fr 0 0 [zI x] 137 h (rI (fun r h' => h' = h ∧ ((r = 1 ∧ isDi x = true) ∨ (r = 0 ∧ ¬ isDi x = true)))) := by
  refine Sp.mk yX12_isDigit_ok rfl rfl ?_
  have i : isDi x = true ↔ (48 ≤ x ∧ x ≤ 57) := by unfold isDi; rw [decide_eq_true_eq]
  rw [i]
  refine bX12_isDigit_0 (kt := fun q => bX12_isDigit_16 (kk := bX12_isDigit_17 (hq := ⟨_, rfl, rfl, rfl, Or.inr ⟨rfl, by omega⟩⟩))) (kf := fun q => ?_)
  refine bX12_isDigit_6 (kt := fun q => bX12_isDigit_16 (kk := bX12_isDigit_17 (hq := ⟨_, rfl, rfl, rfl, Or.inr ⟨rfl, by omega⟩⟩))) (kf := fun q => ?_)
  exact bX12_isDigit_12 (kk := bX12_isDigit_17 (hq := ⟨_, rfl, rfl, rfl, Or.inl ⟨rfl, by omega⟩⟩))
def st98 (h h' : AH) : Prop := (∀ c, c ≠ 98 → h' c = h c) ∧ ∀ j, (j < 21 ∨ 26 < j) → h' 98 j = h 98 j
theorem st98.rf (h : AH) : st98 h h := ⟨fun _ _ => rfl, fun _ _ => rfl⟩
theorem st98.u {h h' : AH} (k : st98 h h') {j v : Int} (hj : 21 ≤ j ∧ j ≤ 26) : st98 h (up h' 98 j v) := ⟨fun c a => by rw [up_n a]; exact k.1 c a, fun i a => by rw [up_cn (by omega)]; exact k.2 i a⟩
theorem st98.tx {h h' : AH} {T : Int → Int} {n : Int} (k : st98 h h') (ht : txM h T n) : txM h' T n := ⟨by rw [k.2 20 (by decide)]; exact ht.1, ht.2.1, by rw [k.1 106 (by decide)]; exact ht.2.2⟩
theorem m_steps0 {fr : Nat} {T : Int → Int} {n p : Int} {h : AH} (hf : 1 ≤ fr) (ht : txM h T n) (h21 : h 98 21 = p) (p0 : 0 ≤ p) (p1 : p ≤ n) : Sp mX12_steps true fr 0 0 [zR 98] 137 h (rV (fun h' => st98 h h' ∧ tokM h' T n p)) := by
  refine Sp.mk yX12_steps_ok rfl rfl ?_
  have tn := ht.2.1
  have tt := ht.2.2
  have plr := pl_rng T p1
  generalize hQ : (rV (fun h' : AH => st98 h h' ∧ tokM h' T n p)) = Q
  -- the end: long0
  have fin : ∀ (h1 : AH) (x1 : AV), st98 h h1 → h1 98 21 = bh T n p → h1 98 22 = kd T n p → h1 98 23 = pl T n p → h1 98 25 = vl T n p → (kd T n p = 1 → h1 98 26 = lw T (pl T n p) (min 9 (bh T n p - pl T n p)).toNat) → Wp mX12_steps (kR fr 0 0) Q (0, 0) 278 [zR 98, x1] [] 137 h1 := fun h1 _ k1 a b c d e => by
    refine bX12_steps_278 (hq := ?_)
    rw [← hQ]
    refine ⟨rfl, rfl, k1.u (by decide), ?_, ?_, ?_, ?_, ?_, fun z => ?_⟩
    · rw [up_cn (by decide)]; exact a
    · rw [up_cn (by decide)]; exact b
    · rw [up_cn (by decide)]; exact c
    · rw [up_ci, a, c]
    · rw [up_cn (by decide)]; exact d
    · rw [up_cn (by decide)]; exact e z
  -- behind the blanks
  have part2 : ∀ (h1 : AH) (x1 : AV), st98 h h1 → h1 98 21 = pl T n p → Wp mX12_steps (kR fr 0 0) Q (0, 0) 50 [zR 98, x1] [] 137 h1 := by
    intro h1 x1 k1 q21
    generalize hh2 : up (up (up h1 98 23 (h1 98 21)) 98 26 0) 98 25 0 = h2
    have k2 : st98 h h2 := by rw [← hh2]; exact ((k1.u (by decide)).u (by decide)).u (by decide)
    have r21 : h2 98 21 = pl T n p := by rw [← hh2, up_cn (by decide), up_cn (by decide), up_cn (by decide)]; exact q21
    have r23 : h2 98 23 = pl T n p := by rw [← hh2, up_cn (by decide), up_cn (by decide), up_ci]; exact q21
    have r26 : h2 98 26 = 0 := by rw [← hh2, up_cn (by decide), up_ci]
    have r25 : h2 98 25 = 0 := by rw [← hh2, up_ci]
    have t2 := k2.tx ht
    refine bX12_steps_50 (hS := by rw [hh2, q21]; exact m_byteAt t2 (by omega) (by omega)) (kk := ?_)
    rintro c h3 ⟨e3, hc⟩
    rw [e3]; clear e3 h3
    have cr := bAt_rng (k := pl T n p) t2 (by omega)
    rw [← hc] at cr
    refine bX12_steps_76 (r2 := by rw [t2.1]; omega) (kt := fun w => ?_) (kf := fun w => ?_)
    rotate_left
    · rw [t2.1, r21] at w
      have k0 : kd T n p = 0 := by unfold kd; rw [if_pos w]
      have b0 : bh T n p = pl T n p := by unfold bh; rw [if_pos w]
      have v0 : vl T n p = 0 := by unfold vl; rw [if_neg (by rw [k0]; decide)]
      refine bX12_steps_88 (kk := fin _ _ (k2.u (by decide)) ?_ ?_ ?_ ?_ (fun z => by rw [k0] at z; omega))
      · rw [up_cn (by decide), b0]; exact r21
      · rw [up_ci, k0]
      · rw [up_cn (by decide)]; exact r23
      · rw [up_cn (by decide), v0]; exact r25
    rw [t2.1, r21] at w
    have nk : ¬ n ≤ pl T n p := by omega
    have hc' : c = T (pl T n p) := by rw [hc]; unfold bAt; rw [if_pos w]
    refine bX12_steps_96 (hS := m_isLetter cr) (kk := ?_)
    rintro x h3 ⟨e3, hx⟩
    rw [e3]; clear e3 h3
    rw [hc'] at hx
    refine bX12_steps_100 (r1 := by rcases hx with z | z <;> omega) (kt := fun z => ?_) (kf := fun z => ?_)
    rotate_left
    · -- letters
      rcases hx with ⟨-, le⟩ | ⟨y, -⟩
      rotate_left
      · exact absurd y z
      have k0 : kd T n p = 1 := by unfold kd; rw [if_neg nk, if_pos le]
      have b0 : bh T n p = run isLe T n (pl T n p) := by unfold bh; rw [if_neg nk, if_pos le]
      have v0 : vl T n p = 0 := by unfold vl; rw [if_neg (by rw [k0]; decide)]
      suffices Le : ∀ (d : Nat) (h3 : AH) (q : Int) (x1 : AV), q + d = n → pl T n p ≤ q → st98 h h3 → h3 98 21 = q → h3 98 23 = pl T n p → h3 98 25 = 0 → h3 98 26 = lw T (pl T n p) (min 9 (q - pl T n p)).toNat → (∀ i, pl T n p ≤ i → i < q → i < n ∧ isLe (T i) = true) → Wp mX12_steps (kR fr 0 0) Q (0, 0) 103 [zR 98, x1] [] 137 h3 by
        exact Le (n - pl T n p).toNat h2 (pl T n p) _ (by omega) (Int.le_refl _) k2 r21 r23 r25 (by rw [r26, Int.sub_self]; rfl) (fun i a b => by omega)
      have done : ∀ (h3 : AH) (q : Int) (x1 : AV), pl T n p ≤ q → st98 h h3 → h3 98 21 = q → h3 98 23 = pl T n p → h3 98 25 = 0 → h3 98 26 = lw T (pl T n p) (min 9 (q - pl T n p)).toNat → (∀ i, pl T n p ≤ i → i < q → i < n ∧ isLe (T i) = true) → ¬ (q < n ∧ isLe (T q) = true) → Wp mX12_steps (kR fr 0 0) Q (0, 0) 167 [zR 98, x1] [] 137 h3 := fun h3 q _ pq k3 q21 q23 q25 q26 run1 stop => by
        have r := run_eq pq run1 stop
        rw [r] at b0
        refine bX12_steps_167 (kk := fin _ _ (k3.u (by decide)) ?_ ?_ ?_ ?_ (fun _ => ?_))
        · rw [up_cn (by decide), b0]; exact q21
        · rw [up_ci, k0]
        · rw [up_cn (by decide)]; exact q23
        · rw [up_cn (by decide), v0]; exact q25
        · rw [up_cn (by decide), b0]; exact q26
      intro d
      induction d with
      | zero =>
        intro h3 q x1 hq pq k3 q21 q23 q25 q26 run1
        have t3 := k3.tx ht
        refine bX12_steps_103 (hS := by rw [q21]; exact m_byteAt t3 (by omega) (by omega)) (kk := ?_)
        rintro y h4 ⟨e4, hy⟩
        rw [e4]; clear e4 h4
        have y0 : y = 0 := by rw [hy]; unfold bAt; rw [if_neg (by omega)]
        refine bX12_steps_111 (hS := m_isLetter (by rw [y0]; decide)) (kk := ?_)
        rintro x h4 ⟨e4, hx⟩
        rw [e4]; clear e4 h4
        rw [y0] at hx
        refine bX12_steps_114 (r1 := by rcases hx with z | z <;> omega) (kt := fun _ => done h3 q _ pq k3 q21 q23 q25 q26 run1 (fun z => by omega)) (kf := fun z => ?_)
        rcases hx with ⟨-, w⟩ | ⟨w, -⟩
        · exact absurd w (by decide)
        · exact absurd w z
      | succ d ih =>
        intro h3 q x1 hq pq k3 q21 q23 q25 q26 run1
        have t3 := k3.tx ht
        refine bX12_steps_103 (hS := by rw [q21]; exact m_byteAt t3 (by omega) (by omega)) (kk := ?_)
        rintro y h4 ⟨e4, hy⟩
        rw [e4]; clear e4 h4
        have by' := tt q (by omega) (by omega)
        have y0 : y = T q := by rw [hy]; unfold bAt; rw [if_pos (by omega)]
        refine bX12_steps_111 (hS := m_isLetter (by rw [y0]; exact by'.2)) (kk := ?_)
        rintro x h4 ⟨e4, hx⟩
        rw [e4]; clear e4 h4
        rw [y0] at hx
        refine bX12_steps_114 (r1 := by rcases hx with z | z <;> omega) (kt := fun z => ?_) (kf := fun z => ?_)
        · rcases hx with ⟨w, -⟩ | ⟨-, w⟩
          · omega
          exact done h3 q _ pq k3 q21 q23 q25 q26 run1 (fun z => w z.2)
        rcases hx with ⟨-, w⟩ | ⟨w, -⟩
        rotate_left
        · exact absurd w z
        have run1' : ∀ i, pl T n p ≤ i → i < q + 1 → i < n ∧ isLe (T i) = true := fun i a b => by
          by_cases e : i = q
          · rw [e]; exact ⟨by omega, w⟩
          · exact run1 i a (by omega)
        refine bX12_steps_117 (r1 := by rw [q21, q23]; omega) (kt := fun v => ?_) (kf := fun v => ?_)
        · rw [q21, q23] at v
          refine bX12_steps_154 (kk := ih _ (q + 1) _ (by omega) (by omega) (k3.u (by decide)) ?_ ?_ ?_ ?_ run1')
          · rw [up_ci, q21]
          · rw [up_cn (by decide)]; exact q23
          · rw [up_cn (by decide)]; exact q25
          · rw [up_cn (by decide), q26, show (min 9 (q - pl T n p)).toNat = (min 9 (q + 1 - pl T n p)).toNat by omega]
        · rw [q21, q23] at v
          refine bX12_steps_131 (hS := by rw [q21]; exact m_byteAt t3 (by omega) (by omega)) (kk := ?_)
          rintro y2 h4 ⟨e4, hy2⟩
          rw [e4]; clear e4 h4
          have y2' : y2 = T q := by rw [hy2]; unfold bAt; rw [if_pos (by omega)]
          have le2 := of_decide_eq_true w
          have lr := lw_rng (T := T) (q := pl T n p) (min 9 (q - pl T n p)).toNat (fun i hi => (run1 (pl T n p + i) (by omega) (by omega)).2)
          have l0 : 0 ≤ lw T (pl T n p) (min 9 (q - pl T n p)).toNat := by
            by_cases z0 : (min 9 (q - pl T n p)).toNat = 0
            · have := lr.1 z0; omega
            · have := lr.2.1 (by omega); omega
          have l1 : lw T (pl T n p) (min 9 (q - pl T n p)).toNat < 2 ^ 50 := by
            refine Int.lt_of_lt_of_le lr.2.2 ?_
            have : (min 9 (q - pl T n p)).toNat ≤ 8 := by omega
            rcases (show (min 9 (q - pl T n p)).toNat = 0 ∨ (min 9 (q - pl T n p)).toNat = 1 ∨ (min 9 (q - pl T n p)).toNat = 2 ∨ (min 9 (q - pl T n p)).toNat = 3 ∨ (min 9 (q - pl T n p)).toNat = 4 ∨ (min 9 (q - pl T n p)).toNat = 5 ∨ (min 9 (q - pl T n p)).toNat = 6 ∨ (min 9 (q - pl T n p)).toNat = 7 ∨ (min 9 (q - pl T n p)).toNat = 8 by omega) with e | e | e | e | e | e | e | e | e <;> rw [e] <;> decide
          refine bX12_steps_146 (kk := bX12_steps_154 (kk := ih _ (q + 1) _ (by omega) (by omega) ((k3.u (by decide)).u (by decide)) ?_ ?_ ?_ ?_ run1'))
          · rw [up_ci, up_cn (by decide), q21]
          · rw [up_cn (by decide), up_cn (by decide)]; exact q23
          · rw [up_cn (by decide), up_cn (by decide)]; exact q25
          · rw [up_cn (by decide), up_ci, q26, y2', letter_add l0 l1 le2.1 le2.2, show (min 9 (q + 1 - pl T n p)).toNat = (min 9 (q - pl T n p)).toNat + 1 by omega, lw]
            rw [show pl T n p + (((min 9 (q - pl T n p)).toNat : Nat) : Int) = q by omega]
    -- no letter
    rcases hx with ⟨y, -⟩ | ⟨-, nl⟩
    · omega
    refine bX12_steps_175 (hS := m_isDigit cr) (kk := ?_)
    rintro x h3 ⟨e3, hx⟩
    rw [e3]; clear e3 h3
    rw [hc'] at hx
    refine bX12_steps_179 (r1 := by rcases hx with z | z <;> omega) (kt := fun z => ?_) (kf := fun z => ?_)
    · -- a sign
      rcases hx with ⟨y, -⟩ | ⟨-, nd⟩
      · omega
      have b0 : bh T n p = pl T n p + 1 := by unfold bh; rw [if_neg nk, if_neg nl, if_neg nd]
      have k0 : kd T n p = if T (pl T n p) = 59 then 3 else 4 := by unfold kd; rw [if_neg nk, if_neg nl, if_neg nd]
      have v0 : vl T n p = 0 := by unfold vl; rw [if_neg (by rw [k0]; split <;> decide)]
      have last : ∀ (kk : Int) (x1 : AV), kk = kd T n p → Wp mX12_steps (kR fr 0 0) Q (0, 0) 275 [zR 98, x1] [zI kk, zR 98] 137 (up h2 98 21 (h2 98 21 + 1)) := fun kk _ hk => by
        refine bX12_steps_275 (kk := fin _ _ ((k2.u (by decide)).u (by decide)) ?_ ?_ ?_ ?_ (fun z => ?_))
        · rw [up_cn (by decide), up_ci, r21, b0]
        · rw [up_ci, hk]
        · rw [up_cn (by decide), up_cn (by decide)]; exact r23
        · rw [up_cn (by decide), up_cn (by decide), v0]; exact r25
        · rw [k0] at z; split at z <;> omega
      refine bX12_steps_253 (kt := fun y => ?_) (kf := fun y => ?_)
      · exact bX12_steps_274 (kk := last 4 _ (by rw [k0, if_neg (by rw [← hc']; exact y)]))
      · exact bX12_steps_270 (kk := last 3 _ (by rw [k0, if_pos (by rw [← hc']; exact y)]))
    -- digits
    rcases hx with ⟨-, di⟩ | ⟨y, -⟩
    rotate_left
    · exact absurd y z
    have k0 : kd T n p = 2 := by unfold kd; rw [if_neg nk, if_neg nl, if_pos di]
    have b0 : bh T n p = run isDi T n (pl T n p) := by unfold bh; rw [if_neg nk, if_neg nl, if_pos di]
    suffices Di : ∀ (d : Nat) (h3 : AH) (q : Int) (x1 : AV), q + d = n → pl T n p ≤ q → st98 h h3 → h3 98 21 = q → h3 98 23 = pl T n p → h3 98 25 = dval T (pl T n p) (min 4 (q - pl T n p)).toNat → (∀ i, pl T n p ≤ i → i < q → i < n ∧ isDi (T i) = true) → Wp mX12_steps (kR fr 0 0) Q (0, 0) 182 [zR 98, x1] [] 137 h3 by
      exact Di (n - pl T n p).toNat h2 (pl T n p) _ (by omega) (Int.le_refl _) k2 r21 r23 (by rw [r25, Int.sub_self]; rfl) (fun i a b => by omega)
    have done : ∀ (h3 : AH) (q : Int) (x1 : AV), pl T n p ≤ q → st98 h h3 → h3 98 21 = q → h3 98 23 = pl T n p → h3 98 25 = dval T (pl T n p) (min 4 (q - pl T n p)).toNat → (∀ i, pl T n p ≤ i → i < q → i < n ∧ isDi (T i) = true) → ¬ (q < n ∧ isDi (T q) = true) → Wp mX12_steps (kR fr 0 0) Q (0, 0) 245 [zR 98, x1] [] 137 h3 := fun h3 q _ pq k3 q21 q23 q25 run1 stop => by
      have r := run_eq pq run1 stop
      rw [r] at b0
      refine bX12_steps_245 (kk := fin _ _ (k3.u (by decide)) ?_ ?_ ?_ ?_ (fun z => by rw [k0] at z; omega))
      · rw [up_cn (by decide), b0]; exact q21
      · rw [up_ci, k0]
      · rw [up_cn (by decide)]; exact q23
      · rw [up_cn (by decide), q25]; unfold vl; rw [if_pos k0, b0]
    intro d
    induction d with
    | zero =>
      intro h3 q x1 hq pq k3 q21 q23 q25 run1
      have t3 := k3.tx ht
      refine bX12_steps_182 (hS := by rw [q21]; exact m_byteAt t3 (by omega) (by omega)) (kk := ?_)
      rintro y h4 ⟨e4, hy⟩
      rw [e4]; clear e4 h4
      have y0 : y = 0 := by rw [hy]; unfold bAt; rw [if_neg (by omega)]
      refine bX12_steps_190 (hS := m_isDigit (by rw [y0]; decide)) (kk := ?_)
      rintro x h4 ⟨e4, hx⟩
      rw [e4]; clear e4 h4
      rw [y0] at hx
      refine bX12_steps_193 (r1 := by rcases hx with z | z <;> omega) (kt := fun _ => done h3 q _ pq k3 q21 q23 q25 run1 (fun z => by omega)) (kf := fun z => ?_)
      rcases hx with ⟨-, w⟩ | ⟨w, -⟩
      · exact absurd w (by decide)
      · exact absurd w z
    | succ d ih =>
      intro h3 q x1 hq pq k3 q21 q23 q25 run1
      have t3 := k3.tx ht
      refine bX12_steps_182 (hS := by rw [q21]; exact m_byteAt t3 (by omega) (by omega)) (kk := ?_)
      rintro y h4 ⟨e4, hy⟩
      rw [e4]; clear e4 h4
      have by' := tt q (by omega) (by omega)
      have y0 : y = T q := by rw [hy]; unfold bAt; rw [if_pos (by omega)]
      refine bX12_steps_190 (hS := m_isDigit (by rw [y0]; exact by'.2)) (kk := ?_)
      rintro x h4 ⟨e4, hx⟩
      rw [e4]; clear e4 h4
      rw [y0] at hx
      refine bX12_steps_193 (r1 := by rcases hx with z | z <;> omega) (kt := fun z => ?_) (kf := fun z => ?_)
      · rcases hx with ⟨w, -⟩ | ⟨-, w⟩
        · omega
        exact done h3 q _ pq k3 q21 q23 q25 run1 (fun z => w z.2)
      rcases hx with ⟨-, w⟩ | ⟨w, -⟩
      rotate_left
      · exact absurd w z
      have run1' : ∀ i, pl T n p ≤ i → i < q + 1 → i < n ∧ isDi (T i) = true := fun i a b => by
        by_cases e : i = q
        · rw [e]; exact ⟨by omega, w⟩
        · exact run1 i a (by omega)
      refine bX12_steps_196 (r1 := by rw [q21, q23]; omega) (kt := fun v => ?_) (kf := fun v => ?_)
      · rw [q21, q23] at v
        refine bX12_steps_232 (kk := ih _ (q + 1) _ (by omega) (by omega) (k3.u (by decide)) ?_ ?_ ?_ run1')
        · rw [up_ci, q21]
        · rw [up_cn (by decide)]; exact q23
        · rw [up_cn (by decide), q25, show (min 4 (q - pl T n p)).toNat = (min 4 (q + 1 - pl T n p)).toNat by omega]
      · rw [q21, q23] at v
        refine bX12_steps_209 (hS := by rw [q21]; exact m_byteAt t3 (by omega) (by omega)) (kk := ?_)
        rintro y2 h4 ⟨e4, hy2⟩
        rw [e4]; clear e4 h4
        have y2' : y2 = T q := by rw [hy2]; unfold bAt; rw [if_pos (by omega)]
        refine bX12_steps_225 (kk := bX12_steps_232 (kk := ih _ (q + 1) _ (by omega) (by omega) ((k3.u (by decide)).u (by decide)) ?_ ?_ ?_ run1'))
        · rw [up_ci, up_cn (by decide), q21]
        · rw [up_cn (by decide), up_cn (by decide)]; exact q23
        · rw [up_cn (by decide), up_ci, q25, y2', show (min 4 (q + 1 - pl T n p)).toNat = (min 4 (q - pl T n p)).toNat + 1 by omega, dval]
          rw [show pl T n p + (((min 4 (q - pl T n p)).toNat : Nat) : Int) = q by omega]
          omega
  -- the blanks
  suffices Bl : ∀ (d : Nat) (h1 : AH) (q : Int) (x1 : AV), q + d = n → p ≤ q → st98 h h1 → h1 98 21 = q → (∀ i, p ≤ i → i < q → i < n ∧ isBl (T i) = true) → Wp mX12_steps (kR fr 0 0) Q (0, 0) 0 [zR 98, x1] [] 137 h1 by
    exact Bl (n - p).toNat h p _ (by omega) (Int.le_refl _) (st98.rf h) h21 (fun i a b => by omega)
  intro d
  induction d with
  | zero =>
    intro h1 q x1 hq pq k1 q21 run0
    have t1 := k1.tx ht
    refine bX12_steps_0 (r2 := by rw [t1.1]; omega) (kt := fun _ => part2 h1 _ k1 ?_) (kf := fun w => by rw [t1.1] at w; omega)
    rw [q21]; exact (run_eq pq run0 (fun z => by omega)).symm
  | succ d ih =>
    intro h1 q x1 hq pq k1 q21 run0
    have t1 := k1.tx ht
    have by' := tt q (by omega) (by omega)
    have next : ∀ x1 : AV, isBl (T q) = true → Wp mX12_steps (kR fr 0 0) Q (0, 0) 37 [zR 98, x1] [] 137 h1 := fun _ y => by
      refine bX12_steps_37 (kk := ih _ (q + 1) _ (by omega) (by omega) (k1.u (by decide)) (by rw [up_ci, q21]) (fun i a b => ?_))
      by_cases e : i = q
      · rw [e]; exact ⟨by omega, y⟩
      · exact run0 i a (by omega)
    refine bX12_steps_0 (r2 := by rw [t1.1]; omega) (kt := fun w => by rw [t1.1] at w; omega) (kf := fun _ => ?_)
    refine bX12_steps_11 (hS := by rw [q21]; exact m_byteAt t1 (by omega) (by omega)) (kk := ?_)
    rintro y h4 ⟨e4, hy⟩
    rw [e4]; clear e4 h4
    have y0 : y = T q := by rw [hy]; unfold bAt; rw [if_pos (by omega)]
    refine bX12_steps_19 (kt := fun z => next _ (decide_eq_true (Or.inl (by omega)))) (kf := fun z => ?_)
    refine bX12_steps_24 (hS := by rw [q21]; exact m_byteAt t1 (by omega) (by omega)) (kk := ?_)
    rintro y2 h4 ⟨e4, hy2⟩
    rw [e4]; clear e4 h4
    have y2' : y2 = T q := by rw [hy2]; unfold bAt; rw [if_pos (by omega)]
    refine bX12_steps_32 (kt := fun w => ?_) (kf := fun w => next _ (decide_eq_true (Or.inr (by omega))))
    refine part2 h1 _ k1 ?_
    rw [q21]
    refine (run_eq pq run0 (fun v => ?_)).symm
    have := of_decide_eq_true v.2
    omega

theorem m_lettersOf {fr k : Nat} {h : AH} (hf : 1 ≤ fr) (hk : k < 10) : Sp mX12_lettersOf true fr 0 0 [zI k] 137 h (rL (fun x h' => h' = h ∧ x = lwS (mW.getD k 0))) := by
  refine Sp.mk yX12_lettersOf_ok rfl rfl ?_
  have rr : ∀ {x : Int}, 0 ≤ x → x < 200 → R32 x := fun a b => ⟨by omega, by omega⟩
  refine bX12_lettersOf_0 (k0 := fun q => ?_) (k1 := fun q => ?_) (k2 := fun q => ?_) (k3 := fun q => ?_) (k4 := fun q => ?_) (k5 := fun q => ?_) (k6 := fun q => ?_) (k7 := fun q => ?_) (k8 := fun q => ?_) (kd := fun q => ?_)
  · refine bX12_lettersOf_52 (hS := m_spelled (rr (by decide) (by decide)) (rr (by decide) (by decide)) (rr (by decide) (by decide)) (rr (by decide) (by decide)) (rr (by decide) (by decide)) (rr (by decide) (by decide)) (rr (by decide) (by decide))) (kk := ?_)
    rintro x h1 ⟨e1, hx⟩
    rw [e1]; clear e1 h1
    have ek : k = 0 := by omega
    exact bX12_lettersOf_68 (hq := ⟨_, rfl, rfl, rfl, by rw [hx, ek]; exact sp_all.1⟩)
  · refine bX12_lettersOf_69 (hS := m_spelled (rr (by decide) (by decide)) (rr (by decide) (by decide)) (rr (by decide) (by decide)) (rr (by decide) (by decide)) (rr (by decide) (by decide)) (rr (by decide) (by decide)) (rr (by decide) (by decide))) (kk := ?_)
    rintro x h1 ⟨e1, hx⟩
    rw [e1]; clear e1 h1
    have ek : k = 1 := by omega
    exact bX12_lettersOf_84 (hq := ⟨_, rfl, rfl, rfl, by rw [hx, ek]; exact sp_all.2.1⟩)
  · refine bX12_lettersOf_85 (hS := m_spelled (rr (by decide) (by decide)) (rr (by decide) (by decide)) (rr (by decide) (by decide)) (rr (by decide) (by decide)) (rr (by decide) (by decide)) (rr (by decide) (by decide)) (rr (by decide) (by decide))) (kk := ?_)
    rintro x h1 ⟨e1, hx⟩
    rw [e1]; clear e1 h1
    have ek : k = 2 := by omega
    exact bX12_lettersOf_104 (hq := ⟨_, rfl, rfl, rfl, by rw [hx, ek]; exact sp_all.2.2.1⟩)
  · refine bX12_lettersOf_105 (hS := m_spelled (rr (by decide) (by decide)) (rr (by decide) (by decide)) (rr (by decide) (by decide)) (rr (by decide) (by decide)) (rr (by decide) (by decide)) (rr (by decide) (by decide)) (rr (by decide) (by decide))) (kk := ?_)
    rintro x h1 ⟨e1, hx⟩
    rw [e1]; clear e1 h1
    have ek : k = 3 := by omega
    exact bX12_lettersOf_119 (hq := ⟨_, rfl, rfl, rfl, by rw [hx, ek]; exact sp_all.2.2.2.1⟩)
  · refine bX12_lettersOf_120 (hS := m_spelled (rr (by decide) (by decide)) (rr (by decide) (by decide)) (rr (by decide) (by decide)) (rr (by decide) (by decide)) (rr (by decide) (by decide)) (rr (by decide) (by decide)) (rr (by decide) (by decide))) (kk := ?_)
    rintro x h1 ⟨e1, hx⟩
    rw [e1]; clear e1 h1
    have ek : k = 4 := by omega
    exact bX12_lettersOf_135 (hq := ⟨_, rfl, rfl, rfl, by rw [hx, ek]; exact sp_all.2.2.2.2.1⟩)
  · refine bX12_lettersOf_136 (hS := m_spelled (rr (by decide) (by decide)) (rr (by decide) (by decide)) (rr (by decide) (by decide)) (rr (by decide) (by decide)) (rr (by decide) (by decide)) (rr (by decide) (by decide)) (rr (by decide) (by decide))) (kk := ?_)
    rintro x h1 ⟨e1, hx⟩
    rw [e1]; clear e1 h1
    have ek : k = 5 := by omega
    exact bX12_lettersOf_152 (hq := ⟨_, rfl, rfl, rfl, by rw [hx, ek]; exact sp_all.2.2.2.2.2.1⟩)
  · refine bX12_lettersOf_153 (hS := m_spelled (rr (by decide) (by decide)) (rr (by decide) (by decide)) (rr (by decide) (by decide)) (rr (by decide) (by decide)) (rr (by decide) (by decide)) (rr (by decide) (by decide)) (rr (by decide) (by decide))) (kk := ?_)
    rintro x h1 ⟨e1, hx⟩
    rw [e1]; clear e1 h1
    have ek : k = 6 := by omega
    exact bX12_lettersOf_168 (hq := ⟨_, rfl, rfl, rfl, by rw [hx, ek]; exact sp_all.2.2.2.2.2.2.1⟩)
  · refine bX12_lettersOf_169 (hS := m_spelled (rr (by decide) (by decide)) (rr (by decide) (by decide)) (rr (by decide) (by decide)) (rr (by decide) (by decide)) (rr (by decide) (by decide)) (rr (by decide) (by decide)) (rr (by decide) (by decide))) (kk := ?_)
    rintro x h1 ⟨e1, hx⟩
    rw [e1]; clear e1 h1
    have ek : k = 7 := by omega
    exact bX12_lettersOf_184 (hq := ⟨_, rfl, rfl, rfl, by rw [hx, ek]; exact sp_all.2.2.2.2.2.2.2.1⟩)
  · refine bX12_lettersOf_185 (hS := m_spelled (rr (by decide) (by decide)) (rr (by decide) (by decide)) (rr (by decide) (by decide)) (rr (by decide) (by decide)) (rr (by decide) (by decide)) (rr (by decide) (by decide)) (rr (by decide) (by decide))) (kk := ?_)
    rintro x h1 ⟨e1, hx⟩
    rw [e1]; clear e1 h1
    have ek : k = 8 := by omega
    exact bX12_lettersOf_204 (hq := ⟨_, rfl, rfl, rfl, by rw [hx, ek]; exact sp_all.2.2.2.2.2.2.2.2.1⟩)
  · refine bX12_lettersOf_205 (hS := m_spelled (rr (by decide) (by decide)) (rr (by decide) (by decide)) (rr (by decide) (by decide)) (rr (by decide) (by decide)) (rr (by decide) (by decide)) (rr (by decide) (by decide)) (rr (by decide) (by decide))) (kk := ?_)
    rintro x h1 ⟨e1, hx⟩
    rw [e1]; clear e1 h1
    have ek : k = 9 := by omega
    exact bX12_lettersOf_221 (hq := ⟨_, rfl, rfl, rfl, by rw [hx, ek]; exact sp_all.2.2.2.2.2.2.2.2.2⟩)
theorem lw_same {T U : Int → Int} {q r : Int} : ∀ k : Nat, (∀ i : Nat, i < k → T (q + i) = U (r + i)) → lw T q k = lw U r k
  | 0, _ => rfl
  | k + 1, h => by rw [lw, lw, lw_same k (fun i hi => h i (by omega)), h k (by omega)]
theorem cmp_R (x y : Int64) : R32 (lg_cmp x y).toInt := ⟨Int32.minValue_le_toInt _, Int32.toInt_lt _⟩
theorem m_is {fr k : Nat} {T : Int → Int} {n p : Int} {h : AH} (hf : 2 ≤ fr) (hk : k < 10) (p1 : p ≤ n) (hn : 0 ≤ n ∧ n ≤ 700) (p0 : 0 ≤ p) (t : tokM h T n p) : Sp mX12_is true fr 0 0 [zR 98, zI k] 137 h (rI (fun x h' => h' = h ∧ ((x = 1 ∧ spl T n p (SW (mW.getD k 0))) ∨ (x = 0 ∧ ¬ spl T n p (SW (mW.getD k 0)))))) := by
  refine Sp.mk yX12_is_ok rfl rfl ?_
  obtain ⟨t1, t2, t3, t4, t5, t6⟩ := t
  have kr := kd_rng T n p
  have plr := pl_rng T p1
  have br := bh_rng T p1
  have hm : mW.getD k 0 < 10 := by
    have : ∀ k : Fin 10, mW.getD k.val 0 < 10 := by decide
    exact this ⟨k, hk⟩
  have LO := m_lettersOf (fr := fr - 1) (h := h) (by omega) hk
  generalize mW.getD k 0 = w_ at *
  obtain ⟨lr, l8, ll⟩ := lwS_rng w_ hm
  have no : ∀ x0 x1 : AV, ¬ spl T n p (SW w_) → Wp mX12_is (kR fr 0 0) (rI (fun x h' => h' = h ∧ ((x = 1 ∧ spl T n p (SW w_)) ∨ (x = 0 ∧ ¬ spl T n p (SW w_))))) (0, 0) 33 [x0, x1] [] 137 h := fun _ _ z => bX12_is_33 (kk := bX12_is_34 (hq := ⟨_, rfl, rfl, rfl, Or.inr ⟨rfl, z⟩⟩))
  refine bX12_is_0 (r1 := by rw [t2]; omega) (kt := fun q => no _ _ (fun z => q (by rw [t2]; exact z.1))) (kf := fun q => ?_)
  rw [t2] at q
  refine bX12_is_8 (r1 := by rw [t4]; omega) (kt := fun w => no _ _ (fun z => ?_)) (kf := fun w => ?_)
  · have := z.2.1
    rw [t4] at w
    omega
  rw [t4] at w
  have b0 : bh T n p = run isLe T n (pl T n p) := by
    unfold kd at q; unfold bh
    by_cases c1 : n ≤ pl T n p
    · rw [if_pos c1] at q; omega
    rw [if_neg c1] at q ⊢
    by_cases c2 : isLe (T (pl T n p)) = true
    · rw [if_pos c2]
    · rw [if_neg c2] at q
      split at q
      · omega
      · split at q <;> omega
  have rs := run_spec isLe T (n := n) (p := pl T n p) plr.2
  have le : ∀ i : Nat, i < (bh T n p - pl T n p).toNat → isLe (T (pl T n p + i)) = true := fun i hi => (rs.2.1 (pl T n p + i) (by omega) (by rw [← b0]; omega)).2
  have e26 := t6 q
  rw [show (min 9 (bh T n p - pl T n p)).toNat = (bh T n p - pl T n p).toNat by omega] at e26
  have lt := lw_rng (T := T) (q := pl T n p) (bh T n p - pl T n p).toNat le
  have lT : 0 ≤ h 98 26 ∧ h 98 26 < 2 ^ 60 := by
    rw [e26]
    refine ⟨?_, Int.lt_of_lt_of_le lt.2.2 ?_⟩
    · by_cases z0 : (bh T n p - pl T n p).toNat = 0
      · have := lt.1 z0; omega
      · have := lt.2.1 (by omega); omega
    · rcases (show (bh T n p - pl T n p).toNat = 0 ∨ (bh T n p - pl T n p).toNat = 1 ∨ (bh T n p - pl T n p).toNat = 2 ∨ (bh T n p - pl T n p).toNat = 3 ∨ (bh T n p - pl T n p).toNat = 4 ∨ (bh T n p - pl T n p).toNat = 5 ∨ (bh T n p - pl T n p).toNat = 6 ∨ (bh T n p - pl T n p).toNat = 7 ∨ (bh T n p - pl T n p).toNat = 8 by omega) with e | e | e | e | e | e | e | e | e <;> rw [e] <;> decide
  have iff : spl T n p (SW w_) ↔ h 98 26 = lwS w_ := by
    rw [e26]
    constructor
    · intro z
      have zl := z.2.1
      unfold lwS
      rw [show (bh T n p - pl T n p).toNat = (SW w_).length by omega]
      exact lw_same _ (fun i hi => by rw [z.2.2 i hi]; show _ = (SW w_).getD ((0 : Int) + (i : Int)).toNat 0; rw [show ((0 : Int) + (i : Int)).toNat = i by omega])
    · intro z
      obtain ⟨a, b⟩ := lw_inj _ _ le (fun i hi => by show isLe ((SW w_).getD ((0 : Int) + (i : Int)).toNat 0) = true; rw [show ((0 : Int) + (i : Int)).toNat = i by omega]; exact ll i hi) z
      refine ⟨q, by omega, fun j hj => ?_⟩
      rw [b j (by omega)]
      show (SW w_).getD ((0 : Int) + (j : Int)).toNat 0 = _
      rw [show ((0 : Int) + (j : Int)).toNat = j by omega]
  refine bX12_is_17 (hS := LO) (kk := ?_)
  rintro x h1 ⟨e1, hx⟩
  rw [e1]; clear e1 h1
  have ce := cmp_eq (x := h 98 26) (y := x) lT (by rw [hx]; exact lr)
  refine bX12_is_25 (r1 := cmp_R _ _) (kt := fun z => no _ _ (fun y => z (ce.mpr (by rw [hx]; exact iff.mp y)))) (kf := fun z => ?_)
  exact bX12_is_29 (kk := bX12_is_34 (hq := ⟨_, rfl, rfl, rfl, Or.inl ⟨rfl, iff.mpr (by rw [← hx]; exact ce.mp z)⟩⟩))
