/-! ===== the class's reader: step, spells, numbers ===== -/
def txC (h : AH) (T : Int → Int) (n : Int) : Prop := (h 46 0 = 2 ∧ h 46 1 = n) ∧ (0 ≤ n ∧ n ≤ 700) ∧ ∀ i, 0 ≤ i → i < n → (-128 ≤ h 2 i ∧ h 2 i < 128) ∧ h 2 i % 256 = T i
def tokC (h : AH) (T : Int → Int) (n p : Int) : Prop := h 46 3 = kd T n p ∧ h 46 4 = pl T n p ∧ h 46 5 = bh T n p ∧ h 46 6 = vl T n p
/-- the class reads into gorge g: what is told so far -/
def rdX (h : AH) (g : Int) (T : Int → Int) (n : Int) (E : DT) (a s m : Int) : Prop := txC h T n ∧ ((g = 4 ∨ g = 19) ∧ h 46 2 = g) ∧ (∀ k, 0 ≤ k → k ≤ 14 → h (g + k) = E k) ∧ h 46 7 = a ∧ h 46 8 = s ∧ h 46 9 = m ∧ h 46 10 = 0
def rdC (h : AH) (g : Int) (T : Int → Int) (n p : Int) (E : DT) (a s m : Int) : Prop := rdX h g T n E a s m ∧ tokC h T n p ∧ 0 ≤ p ∧ p ≤ n
def kpRd (g : Int) (h h' : AH) : Prop := ∀ c, c ≠ 46 → (c < g ∨ g + 14 < c) → h' c = h c
theorem kpRd.rf (g : Int) (h : AH) : kpRd g h h := fun _ _ _ => rfl
theorem kpRd.tr {g : Int} {a b c : AH} (h1 : kpRd g a b) (h2 : kpRd g b c) : kpRd g a c := fun x p q => by rw [h2 x p q, h1 x p q]
theorem rdX.uD {h : AH} {g : Int} {T : Int → Int} {n : Int} {E : DT} {a s m : Int} (r : rdX h g T n E a s m) {k i v : Int} (k0 : 0 ≤ k) (k1 : k ≤ 14) : rdX (up h (g + k) i v) g T n (upD E k i v) a s m ∧ kpRd g h (up h (g + k) i v) := by
  obtain ⟨⟨t1, t2, t3⟩, ⟨hg, h2⟩, he, e7, e8, e9, e10⟩ := r
  have n46 : up h (g + k) i v 46 = h 46 := up_n (by omega)
  have n2 : up h (g + k) i v 2 = h 2 := up_n (by omega)
  refine ⟨⟨⟨by rw [n46]; exact t1, t2, by rw [n2]; exact t3⟩, ⟨hg, by rw [n46]; exact h2⟩, fun k' a b => ?_, by rw [n46]; exact e7, by rw [n46]; exact e8, by rw [n46]; exact e9, by rw [n46]; exact e10⟩, fun c p q => up_n (by omega)⟩
  funext i'
  by_cases e : k' = k
  · subst e
    unfold upD
    rw [if_pos rfl]
    by_cases e2 : i' = i
    · rw [e2, up_ci, if_pos rfl]
    · rw [up_cn e2, if_neg e2, he k' a b]
  · unfold upD
    rw [if_neg e, up_n (by omega), he k' a b]
theorem rdX.u0 {h : AH} {g : Int} {T : Int → Int} {n : Int} {E : DT} {a s m : Int} (r : rdX h g T n E a s m) {i v : Int} : rdX (up h g i v) g T n (upD E 0 i v) a s m ∧ kpRd g h (up h g i v) := by
  have := r.uD (k := 0) (i := i) (v := v) (by decide) (by decide)
  rw [Int.add_zero] at this
  exact this
theorem rdX.atz {h : AH} {g : Int} {T : Int → Int} {n : Int} {E : DT} {a s m : Int} (r : rdX h g T n E a s m) (i : Int) : h g i = E 0 i := by
  have := r.2.2.1 0 (by decide) (by decide)
  rw [Int.add_zero] at this
  rw [this]
theorem rdX.ce {h : AH} {g : Int} {T : Int → Int} {n : Int} {E : DT} {a s m : Int} (r : rdX h g T n E a s m) : cel 137 (h 46 2) (2, 21) := by
  rw [r.2.1.2]
  rcases r.2.1.1 with e | e <;> rw [e]
  · exact e4
  · exact e19
theorem cel_g {g : Int} (hg : g = 4 ∨ g = 19) : cel 137 g (2, 21) := by
  rcases hg with e | e <;> rw [e]
  · exact e4
  · exact e19
theorem c_isLetter {fr : Nat} {x : Int} {h : AH} (hx : -128 ≤ x ∧ x < 128) : Sp mX6_isLetter true fr 0 0 [zI x] 137 h (rI (fun r h' => h' = h ∧ ((r = 1 ∧ isLe (x % 256) = true) ∨ (r = 0 ∧ ¬ isLe (x % 256) = true)))) := by
  refine Sp.mk yX6_isLetter_ok rfl rfl ?_
  have i : isLe (x % 256) = true ↔ (97 ≤ x ∧ x ≤ 122) := by unfold isLe; rw [decide_eq_true_eq]; omega
  rw [i]
  refine bX6_isLetter_0 (kt := fun q => bX6_isLetter_16 (kk := bX6_isLetter_17 (hq := ⟨_, rfl, rfl, rfl, Or.inr ⟨rfl, by omega⟩⟩))) (kf := fun q => ?_)
  refine bX6_isLetter_6 (kt := fun q => bX6_isLetter_16 (kk := bX6_isLetter_17 (hq := ⟨_, rfl, rfl, rfl, Or.inr ⟨rfl, by omega⟩⟩))) (kf := fun q => ?_)
  exact bX6_isLetter_12 (kk := bX6_isLetter_17 (hq := ⟨_, rfl, rfl, rfl, Or.inl ⟨rfl, by omega⟩⟩))
theorem c_isDigit {fr : Nat} {x : Int} {h : AH} (hx : -128 ≤ x ∧ x < 128) : Sp mX6_isDigit true fr 0 0 [zI x] 137 h (rI (fun r h' => h' = h ∧ ((r = 1 ∧ isDi (x % 256) = true) ∨ (r = 0 ∧ ¬ isDi (x % 256) = true)))) := by
  refine Sp.mk yX6_isDigit_ok rfl rfl ?_
  have i : isDi (x % 256) = true ↔ (48 ≤ x ∧ x ≤ 57) := by unfold isDi; rw [decide_eq_true_eq]; omega
  rw [i]
  refine bX6_isDigit_0 (kt := fun q => bX6_isDigit_16 (kk := bX6_isDigit_17 (hq := ⟨_, rfl, rfl, rfl, Or.inr ⟨rfl, by omega⟩⟩))) (kf := fun q => ?_)
  refine bX6_isDigit_6 (kt := fun q => bX6_isDigit_16 (kk := bX6_isDigit_17 (hq := ⟨_, rfl, rfl, rfl, Or.inr ⟨rfl, by omega⟩⟩))) (kf := fun q => ?_)
  exact bX6_isDigit_12 (kk := bX6_isDigit_17 (hq := ⟨_, rfl, rfl, rfl, Or.inl ⟨rfl, by omega⟩⟩))
/-- only the token is another -/
def st46 (h h' : AH) : Prop := (∀ c, c ≠ 46 → h' c = h c) ∧ ∀ j, j ≠ 3 → j ≠ 4 → j ≠ 5 → j ≠ 6 → h' 46 j = h 46 j
theorem st46.u {h h' : AH} (k : st46 h h') {j v : Int} (hj : 3 ≤ j ∧ j ≤ 6) : st46 h (up h' 46 j v) := ⟨fun c a => by rw [up_n a]; exact k.1 c a, fun i a b c d => by rw [up_cn (by omega)]; exact k.2 i a b c d⟩
theorem c_step0 {fr : Nat} {T : Int → Int} {n p : Int} {h : AH} (hf : 1 ≤ fr) (ht : txC h T n) (h5 : h 46 5 = p) (p0 : 0 ≤ p) (p1 : p ≤ n) : Sp mX6_step true fr 0 0 [zR 46] 137 h (rV (fun h' => st46 h h' ∧ tokC h' T n p)) := by
  refine Sp.mk yX6_step_ok rfl rfl ?_
  obtain ⟨⟨t0, t1⟩, tn, tt⟩ := ht
  have plr := pl_rng T p1
  have spB := run_spec isBl T p1
  generalize hQ : (rV (fun h' : AH => st46 h h' ∧ tokC h' T n p)) = Q
  have c2 : cel 137 2 (101, 700) := e2
  have tx : ∀ (h1 : AH), st46 h h1 → h1 46 0 = 2 ∧ h1 46 1 = n ∧ h1 2 = h 2 := fun h1 k1 => ⟨by rw [k1.2 0 (by decide) (by decide) (by decide) (by decide), t0], by rw [k1.2 1 (by decide) (by decide) (by decide) (by decide), t1], k1.1 2 (by decide)⟩
  -- behind the blanks
  have part2 : ∀ h1 : AH, st46 h h1 → h1 46 4 = pl T n p → Wp mX6_step (kR fr 0 0) Q (0, 0) 60 [zR 46] [] 137 h1 := by
    intro h1 k1 q4
    obtain ⟨x0, x1, x2⟩ := tx h1 k1
    refine bX6_step_60 (kt := fun w => ?_) (kf := fun w => ?_)
    rotate_left
    · refine bX6_step_84 (hq := ?_)
      rw [← hQ]
      refine ⟨rfl, rfl, ((k1.u (by decide)).u (by decide)).u (by decide), ?_⟩
      have k0 : kd T n p = 0 := by unfold kd; rw [if_pos (by omega)]
      have b0 : bh T n p = pl T n p := by unfold bh; rw [if_pos (by omega)]
      have v0 : vl T n p = 0 := by unfold vl; rw [if_neg (by rw [k0]; decide)]
      refine ⟨by rw [up_ci, k0], ?_, ?_, ?_⟩
      · rw [up_cn (by decide), up_cn (by decide), up_cn (by decide), q4]
      · rw [up_cn (by decide), up_cn (by decide), up_ci, q4, b0]
      · rw [up_cn (by decide), up_ci, v0]
    have q1 : pl T n p < n := by omega
    have nk : ¬ n ≤ pl T n p := by omega
    -- the letters
    suffices Le : ∀ (d : Nat) (h2 : AH) (q : Int), q + d = n → pl T n p ≤ q → st46 h h2 → h2 46 4 = pl T n p → h2 46 5 = q → h2 46 6 = 0 → (∀ i, pl T n p ≤ i → i < q → i < n ∧ isLe (T i) = true) → Wp mX6_step (kR fr 0 0) Q (0, 0) 90 [zR 46] [] 137 h2 by
      refine Le (n - pl T n p).toNat _ (pl T n p) (by omega) (Int.le_refl _) ((k1.u (by decide)).u (by decide)) ?_ ?_ (up_ci _ _ _ _) (fun i a b => by omega)
      · rw [up_cn (by decide), up_cn (by decide), q4]
      · rw [up_cn (by decide), up_ci, q4]
    -- behind the letters
    have part3 : ∀ (h2 : AH) (q : Int), pl T n p ≤ q → q ≤ n → st46 h h2 → h2 46 4 = pl T n p → h2 46 5 = q → h2 46 6 = 0 → (∀ i, pl T n p ≤ i → i < q → i < n ∧ isLe (T i) = true) → ¬ (q < n ∧ isLe (T q) = true) → Wp mX6_step (kR fr 0 0) Q (0, 0) 129 [zR 46] [] 137 h2 := by
      intro h2 q pq qn k2 q4 q5 q6 run1 stop
      obtain ⟨x0, x1, x2⟩ := tx h2 k2
      refine bX6_step_129 (kt := fun w => ?_) (kf := fun w => ?_)
      rotate_left
      · have r := run_eq pq run1 stop
        have le : isLe (T (pl T n p)) = true := (run1 (pl T n p) (Int.le_refl _) (by omega)).2
        have k0 : kd T n p = 1 := by unfold kd; rw [if_neg nk, if_pos le]
        have b0 : bh T n p = q := by unfold bh; rw [if_neg nk, if_pos le]; exact r
        have v0 : vl T n p = 0 := by unfold vl; rw [if_neg (by rw [k0]; decide)]
        refine bX6_step_140 (hq := ?_)
        rw [← hQ]
        refine ⟨rfl, rfl, k2.u (by decide), by rw [up_ci, k0], ?_, ?_, ?_⟩
        · rw [up_cn (by decide), q4]
        · rw [up_cn (by decide), q5, b0]
        · rw [up_cn (by decide), q6, v0]
      have eq : q = pl T n p := by omega
      have nl : ¬ isLe (T (pl T n p)) = true := fun z => stop ⟨by omega, by rw [eq]; exact z⟩
      -- the digits
      suffices Di : ∀ (d : Nat) (h3 : AH) (q : Int), q + d = n → pl T n p ≤ q → st46 h h3 → h3 46 4 = pl T n p → h3 46 5 = q → h3 46 6 = dval T (pl T n p) (min 4 (q - pl T n p)).toNat → (∀ i, pl T n p ≤ i → i < q → i < n ∧ isDi (T i) = true) → Wp mX6_step (kR fr 0 0) Q (0, 0) 146 [zR 46] [] 137 h3 by
        exact Di (n - q).toNat h2 q (by omega) pq k2 q4 q5 (by rw [q6, eq, Int.sub_self]; rfl) (fun i a b => by omega)
      -- behind the digits
      have part4 : ∀ (h3 : AH) (q : Int), pl T n p ≤ q → q ≤ n → st46 h h3 → h3 46 4 = pl T n p → h3 46 5 = q → h3 46 6 = dval T (pl T n p) (min 4 (q - pl T n p)).toNat → (∀ i, pl T n p ≤ i → i < q → i < n ∧ isDi (T i) = true) → ¬ (q < n ∧ isDi (T q) = true) → Wp mX6_step (kR fr 0 0) Q (0, 0) 222 [zR 46] [] 137 h3 := by
        intro h3 q pq qn k3 q4 q5 q6 run2 stop2
        obtain ⟨x0, x1, x2⟩ := tx h3 k3
        refine bX6_step_222 (kt := fun w => ?_) (kf := fun w => ?_)
        rotate_left
        · have r := run_eq pq run2 stop2
          have di : isDi (T (pl T n p)) = true := (run2 (pl T n p) (Int.le_refl _) (by omega)).2
          have k0 : kd T n p = 2 := by unfold kd; rw [if_neg nk, if_neg nl, if_pos di]
          have b0 : bh T n p = q := by unfold bh; rw [if_neg nk, if_neg nl, if_pos di]; exact r
          have v0 : vl T n p = dval T (pl T n p) (min 4 (q - pl T n p)).toNat := by unfold vl; rw [if_pos k0, b0]
          refine bX6_step_233 (hq := ?_)
          rw [← hQ]
          refine ⟨rfl, rfl, k3.u (by decide), by rw [up_ci, k0], ?_, ?_, ?_⟩
          · rw [up_cn (by decide), q4]
          · rw [up_cn (by decide), q5, b0]
          · rw [up_cn (by decide), q6, v0]
        have eq : q = pl T n p := by omega
        have nd : ¬ isDi (T (pl T n p)) = true := fun z => stop2 ⟨by omega, by rw [eq]; exact z⟩
        have b0 : bh T n p = pl T n p + 1 := by unfold bh; rw [if_neg nk, if_neg nl, if_neg nd]
        have k0 : kd T n p = if T (pl T n p) = 59 then 3 else 4 := by unfold kd; rw [if_neg nk, if_neg nl, if_neg nd]
        have v0 : vl T n p = 0 := by unfold vl; rw [if_neg (by rw [k0]; split <;> decide)]
        have d0 : h3 46 6 = 0 := by rw [q6, eq, Int.sub_self]; rfl
        have by' := tt (pl T n p) (by omega) q1
        have fin : ∀ kk : Int, kk = kd T n p → Wp mX6_step (kR fr 0 0) Q (0, 0) 259 [zR 46] [zI kk, zR 46] 137 h3 := fun kk hk => by
          refine bX6_step_259 (hq := ?_)
          rw [← hQ]
          refine ⟨rfl, rfl, (k3.u (by decide)).u (by decide), ?_, ?_, ?_, ?_⟩
          · rw [up_cn (by decide), up_ci, hk]
          · rw [up_cn (by decide), up_cn (by decide), q4]
          · rw [up_ci, q5, b0, eq]
          · rw [up_cn (by decide), up_cn (by decide), d0, v0]
        refine bX6_step_239 (N1 := 700) (c1 := by rw [x0]; exact c2) (r1 := by rw [q4]; omega) (r2 := by rw [x0, x2, q4]; omega) (kt := fun z => ?_) (kf := fun z => ?_)
        · rw [x0, x2, q4] at z
          refine bX6_step_258 (kk := fin 4 ?_)
          rw [k0, if_neg (by omega)]
        · rw [x0, x2, q4] at z
          refine bX6_step_254 (kk := fin 3 ?_)
          rw [k0, if_pos (by omega)]
      intro d
      induction d with
      | zero =>
        intro h3 q hq pq k3 q4 q5 q6 run2
        obtain ⟨x0, x1, x2⟩ := tx h3 k3
        refine bX6_step_146 (kt := fun _ => part4 h3 q pq (by omega) k3 q4 q5 q6 run2 (fun z => by omega)) (kf := fun w => by omega)
      | succ d ih =>
        intro h3 q hq pq k3 q4 q5 q6 run2
        obtain ⟨x0, x1, x2⟩ := tx h3 k3
        have by' := tt q (by omega) (by omega)
        refine bX6_step_146 (kt := fun w => by omega) (kf := fun _ => ?_)
        refine bX6_step_157 (N1 := 700) (c1 := by rw [x0]; exact c2) (r1 := by rw [q5]; omega) (hS := c_isDigit (by rw [x0, x2, q5]; exact by'.1)) (kk := ?_)
        rintro r h4 ⟨e4', hr⟩
        rw [e4']; clear e4' h4
        rw [x0, x2, q5, by'.2] at hr
        refine bX6_step_169 (r1 := by rcases hr with z | z <;> omega) (kt := fun z => ?_) (kf := fun z => ?_)
        · rcases hr with ⟨y, -⟩ | ⟨-, y⟩
          · omega
          exact part4 h3 q pq (by omega) k3 q4 q5 q6 run2 (fun w => y w.2)
        rcases hr with ⟨-, y⟩ | ⟨y, -⟩
        rotate_left
        · exact absurd y z
        have run2' : ∀ i, pl T n p ≤ i → i < q + 1 → i < n ∧ isDi (T i) = true := fun i a b => by
          by_cases e : i = q
          · rw [e]; exact ⟨by omega, y⟩
          · exact run2 i a (by omega)
        refine bX6_step_172 (r1 := by rw [q5, q4]; omega) (kt := fun w => ?_) (kf := fun w => ?_)
        · rw [q5, q4] at w
          refine bX6_step_209 (kk := ih _ (q + 1) (by omega) (by omega) (k3.u (by decide)) ?_ ?_ ?_ run2')
          · rw [up_cn (by decide), q4]
          · rw [up_ci, q5]
          · rw [up_cn (by decide), q6, show (min 4 (q - pl T n p)).toNat = (min 4 (q + 1 - pl T n p)).toNat by omega]
        · rw [q5, q4] at w
          refine bX6_step_185 (N1 := 700) (c1 := by rw [x0]; exact c2) (r1 := by rw [q5]; omega) (kk := ?_)
          refine bX6_step_209 (kk := ih _ (q + 1) (by omega) (by omega) ((k3.u (by decide)).u (by decide)) ?_ ?_ ?_ run2')
          · rw [up_cn (by decide), up_cn (by decide), q4]
          · rw [up_ci, up_cn (by decide), q5]
          · rw [up_cn (by decide), up_ci, q6, x0, x2, q5, show (min 4 (q + 1 - pl T n p)).toNat = (min 4 (q - pl T n p)).toNat + 1 by omega, dval]
            have e1 : pl T n p + (((min 4 (q - pl T n p)).toNat : Nat) : Int) = q := by omega
            have dg := of_decide_eq_true y
            rw [e1]
            omega
    intro d
    induction d with
    | zero =>
      intro h2 q hq pq k2 q4 q5 q6 run1
      obtain ⟨x0, x1, x2⟩ := tx h2 k2
      refine bX6_step_90 (kt := fun _ => part3 h2 q pq (by omega) k2 q4 q5 q6 run1 (fun z => by omega)) (kf := fun w => by omega)
    | succ d ih =>
      intro h2 q hq pq k2 q4 q5 q6 run1
      obtain ⟨x0, x1, x2⟩ := tx h2 k2
      have by' := tt q (by omega) (by omega)
      refine bX6_step_90 (kt := fun w => by omega) (kf := fun _ => ?_)
      refine bX6_step_101 (N1 := 700) (c1 := by rw [x0]; exact c2) (r1 := by rw [q5]; omega) (hS := c_isLetter (by rw [x0, x2, q5]; exact by'.1)) (kk := ?_)
      rintro r h4 ⟨e4', hr⟩
      rw [e4']; clear e4' h4
      rw [x0, x2, q5, by'.2] at hr
      refine bX6_step_113 (r1 := by rcases hr with z | z <;> omega) (kt := fun z => ?_) (kf := fun z => ?_)
      · rcases hr with ⟨y, -⟩ | ⟨-, y⟩
        · omega
        exact part3 h2 q pq (by omega) k2 q4 q5 q6 run1 (fun w => y w.2)
      rcases hr with ⟨-, y⟩ | ⟨y, -⟩
      rotate_left
      · exact absurd y z
      refine bX6_step_116 (kk := ih _ (q + 1) (by omega) (by omega) (k2.u (by decide)) ?_ ?_ ?_ (fun i a b => ?_))
      · rw [up_cn (by decide), q4]
      · rw [up_ci, q5]
      · rw [up_cn (by decide), q6]
      · by_cases e : i = q
        · rw [e]; exact ⟨by omega, y⟩
        · exact run1 i a (by omega)
  -- the blanks
  have z0 : st46 h h := ⟨fun _ _ => rfl, fun _ _ _ _ _ => rfl⟩
  refine bX6_step_0 (kk := ?_)
  suffices Bl : ∀ (d : Nat) (h1 : AH) (q : Int), q + d = n → p ≤ q → st46 h h1 → h1 46 4 = q → (∀ i, p ≤ i → i < q → i < n ∧ isBl (T i) = true) → Wp mX6_step (kR fr 0 0) Q (0, 0) 8 [zR 46] [] 137 h1 by
    exact Bl (n - p).toNat _ p (by omega) (Int.le_refl _) (z0.u (by decide)) (by rw [up_ci, h5]) (fun i a b => by omega)
  intro d
  induction d with
  | zero =>
    intro h1 q hq pq k1 q4 run0
    obtain ⟨x0, x1, x2⟩ := tx h1 k1
    refine bX6_step_8 (kt := fun _ => part2 h1 k1 ?_) (kf := fun w => by omega)
    rw [q4]; exact (run_eq pq run0 (fun z => by omega)).symm
  | succ d ih =>
    intro h1 q hq pq k1 q4 run0
    obtain ⟨x0, x1, x2⟩ := tx h1 k1
    have by' := tt q (by omega) (by omega)
    have next : isBl (T q) = true → Wp mX6_step (kR fr 0 0) Q (0, 0) 47 [zR 46] [] 137 h1 := fun y => by
      refine bX6_step_47 (kk := ih _ (q + 1) (by omega) (by omega) (k1.u (by decide)) (by rw [up_ci, q4]) (fun i a b => ?_))
      by_cases e : i = q
      · rw [e]; exact ⟨by omega, y⟩
      · exact run0 i a (by omega)
    refine bX6_step_8 (kt := fun w => by omega) (kf := fun _ => ?_)
    refine bX6_step_19 (N1 := 700) (c1 := by rw [x0]; exact c2) (r1 := by rw [q4]; omega) (r2 := by rw [x0, x2, q4]; omega) (kt := fun z => ?_) (kf := fun z => ?_)
    · rw [x0, x2, q4] at z
      exact next (decide_eq_true (Or.inl (by omega)))
    rw [x0, x2, q4] at z
    refine bX6_step_33 (N1 := 700) (c1 := by rw [x0]; exact c2) (r1 := by rw [q4]; omega) (r2 := by rw [x0, x2, q4]; omega) (kt := fun w => ?_) (kf := fun w => ?_)
    · rw [x0, x2, q4] at w
      refine part2 h1 k1 ?_
      rw [q4]
      refine (run_eq pq run0 (fun y => ?_)).symm
      have := of_decide_eq_true y.2
      omega
    · rw [x0, x2, q4] at w
      exact next (decide_eq_true (Or.inr (by omega)))
theorem c_step {fr : Nat} {g : Int} {T : Int → Int} {n p : Int} {E : DT} {a s m : Int} {h : AH} (hf : 1 ≤ fr) (r : rdX h g T n E a s m) (h5 : h 46 5 = p) (p0 : 0 ≤ p) (p1 : p ≤ n) : Sp mX6_step true fr 0 0 [zR 46] 137 h (rV (fun h' => kpRd g h h' ∧ rdC h' g T n p E a s m)) := by
  refine Sp.weak (c_step0 hf r.1 h5 p0 p1) ?_
  rintro r' n' h' ⟨e1, e2, k, t⟩
  obtain ⟨⟨t1, t2, t3⟩, ⟨hg, h2⟩, he, e7, e8, e9, e10⟩ := r
  have f : ∀ j, j ≠ 3 → j ≠ 4 → j ≠ 5 → j ≠ 6 → h' 46 j = h 46 j := k.2
  refine ⟨e1, e2, fun c x _ => k.1 c x, ⟨⟨⟨by rw [f 0 (by decide) (by decide) (by decide) (by decide)]; exact t1.1, by rw [f 1 (by decide) (by decide) (by decide) (by decide)]; exact t1.2⟩, t2, by rw [k.1 2 (by decide)]; exact t3⟩, ⟨hg, by rw [f 2 (by decide) (by decide) (by decide) (by decide)]; exact h2⟩, fun k' x y => by rw [k.1 _ (by omega)]; exact he k' x y, by rw [f 7 (by decide) (by decide) (by decide) (by decide)]; exact e7, by rw [f 8 (by decide) (by decide) (by decide) (by decide)]; exact e8, by rw [f 9 (by decide) (by decide) (by decide) (by decide)]; exact e9, by rw [f 10 (by decide) (by decide) (by decide) (by decide)]; exact e10⟩, t, p0, p1⟩
