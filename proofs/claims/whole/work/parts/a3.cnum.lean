/-! ===== the class's reader: spells, isNumber, isToldSound, readEnd ===== -/
theorem SW_ok : ∀ i, i < 10 → (SW i).length = zStrL.getD i 0 ∧ ∀ j, j < zStrL.getD i 0 → (SW i).getD j 0 = ((zStrB.getD i []).getD j 0).toInt := by decide +kernel
theorem c_spells {fr i : Nat} {g : Int} {T : Int → Int} {n p : Int} {E : DT} {a s m : Int} {h : AH} (hf : 6 ≤ fr) (hi : i < 10) (r : rdC h g T n p E a s m) : Sp mX6_spells true fr 0 0 [zR 46, zR (-(i : Int) - 1)] 137 h (rI (fun x h' => h' = h ∧ ((x = 1 ∧ spl T n p (SW i)) ∨ (x = 0 ∧ ¬ spl T n p (SW i))))) := by
  refine Sp.mk yX6_spells_ok rfl rfl ?_
  obtain ⟨⟨⟨⟨t0, t1⟩, tn, tt⟩, -⟩, ⟨k3, k4, k5, k6⟩, p0, p1⟩ := id r
  have kr := kd_rng T n p
  have plr := pl_rng T p1
  have br := bh_rng T p1
  obtain ⟨sl, sj⟩ := SW_ok i hi
  have hN := zStrL_small i hi
  generalize hQ : (rI (fun x h' => h' = h ∧ ((x = 1 ∧ spl T n p (SW i)) ∨ (x = 0 ∧ ¬ spl T n p (SW i))))) = Q
  have no : ∀ x0 x1 x2 : AV, ¬ spl T n p (SW i) → Wp mX6_spells (kR fr 0 0) Q (0, 0) 24 [x0, x1, x2] [] 137 h := fun _ _ _ z => by
    refine bX6_spells_24 (hq := ?_)
    rw [← hQ]
    exact ⟨_, rfl, rfl, rfl, Or.inr ⟨rfl, z⟩⟩
  refine bX6_spells_0 (r1 := by rw [k3]; omega) (kt := fun q => no _ _ _ (fun z => q (by rw [k3]; exact z.1))) (kf := fun q => ?_)
  rw [k3] at q
  refine s_aload_n (x := 46) dX6_spells_8 rfl ?_
  refine s_get (c := 46) dX6_spells_9 lX6_34 e46 (by decide) ?_
  refine s_aload_n (x := 46) dX6_spells_12 rfl ?_
  refine s_get (c := 46) dX6_spells_13 lX6_63 e46 (by decide) ?_
  refine s_isub dX6_spells_16 ?_
  refine s_aload_n (x := -(i : Int) - 1) dX6_spells_17 rfl ?_
  refine s_callVS (as := []) (st := [zI (h 46 5 - h 46 4)]) dX6_spells_18 kX6_76 rfl hi rfl rfl rfl (Nat.le_of_ble_eq_true rfl) (j_length (fr := fr - 1) (by omega) hi) (show fr - 1 + 1 ≤ fr by omega) (Nat.zero_le _) (Nat.zero_le _) (fun v n' h' hP _ => ?_) (fun E n' h' _ z => (rI_nt _ _ _ z).elim)
  obtain ⟨x, e, rfl, rfl, rfl⟩ := hP
  cases e
  refine bX6_spells_21 (r1 := by rw [k5, k4]; omega) (kt := fun w => ?_) (kf := fun w => no _ _ _ (fun z => w ?_))
  rotate_left
  · rw [k5, k4, z.2.1, sl]
  rw [k5, k4] at w
  refine bX6_spells_26 (kk := ?_)
  suffices K : ∀ (d j : Nat), j + d = zStrL.getD i 0 → (∀ u : Nat, u < j → T (pl T n p + u) = (SW i).getD u 0) → Wp mX6_spells (kR fr 0 0) Q (0, 0) 28 [zR 46, zR (-(i : Int) - 1), zI j] [] 137 h' by
    exact K (zStrL.getD i 0) 0 (by omega) (fun u hu => by omega)
  have len : ∀ j : Nat, (Wp mX6_spells (kR fr 0 0) Q (0, 0) 33 [zR 46, zR (-(i : Int) - 1), zI j] [zI ((zStrL.getD i 0 : Nat) : Int), zI j] 137 h') → Wp mX6_spells (kR fr 0 0) Q (0, 0) 28 [zR 46, zR (-(i : Int) - 1), zI j] [] 137 h' := fun j kk => by
    refine s_iload_n (x := j) dX6_spells_28 rfl ?_
    refine s_aload_n (x := -(i : Int) - 1) dX6_spells_29 rfl ?_
    refine s_callVS (as := []) (st := [zI j]) dX6_spells_30 kX6_76 rfl hi rfl rfl rfl (Nat.le_of_ble_eq_true rfl) (j_length (fr := fr - 1) (by omega) hi) (show fr - 1 + 1 ≤ fr by omega) (Nat.zero_le _) (Nat.zero_le _) (fun v n' h' hP _ => ?_) (fun E n' h' _ z => (rI_nt _ _ _ z).elim)
    obtain ⟨x, e, rfl, rfl, rfl⟩ := hP
    cases e
    exact kk
  intro d
  induction d with
  | zero =>
    intro j hj ha
    refine len j (bX6_spells_33 (kt := fun _ => ?_) (kf := fun z => by omega))
    refine bX6_spells_63 (hq := ?_)
    rw [← hQ]
    exact ⟨_, rfl, rfl, rfl, Or.inl ⟨rfl, q, by rw [w, sl], fun u hu => ha u (by omega)⟩⟩
  | succ d ih =>
    intro j hj ha
    have by' := tt (pl T n p + j) (by omega) (by omega)
    obtain ⟨-, -, cr⟩ := str_byte i hi j (by omega)
    refine len j (bX6_spells_33 (kt := fun z => by omega) (kf := fun _ => ?_))
    refine s_aload_n (x := 46) dX6_spells_36 rfl ?_
    refine s_getR (c := 46) dX6_spells_37 lX6_9 e46 rfl ?_
    refine s_aload_n (x := 46) dX6_spells_40 rfl ?_
    refine s_get (c := 46) dX6_spells_41 lX6_63 e46 (by decide) ?_
    refine s_iload_n (x := j) dX6_spells_44 rfl ?_
    refine s_iadd dX6_spells_45 ?_
    refine s_bald (c := h' 46 0) (i := h' 46 4 + j) (N := 700) dX6_spells_46 (by rw [t0]; exact e2) (by rw [k4]; omega) (by rw [k4]; omega) ?_
    refine s_aload_n (x := -(i : Int) - 1) dX6_spells_47 rfl ?_
    refine s_iload_n (x := j) dX6_spells_48 rfl ?_
    refine s_callVS (as := [zI j]) (st := [zI (h' (h' 46 0) (h' 46 4 + j))]) dX6_spells_49 kX6_82 rfl hi rfl rfl rfl (Nat.le_of_ble_eq_true rfl) (j_charAt (fr := fr - 1) (by omega) hi (by omega) (by omega)) (show fr - 1 + 1 ≤ fr by omega) (Nat.zero_le _) (Nat.zero_le _) (fun v n' h' hP _ => ?_) (fun E n' h' _ z => (rI_nt _ _ _ z).elim)
    obtain ⟨x, e, rfl, rfl, hx⟩ := hP
    cases e
    rw [Int.toNat_natCast] at hx
    have sjj := sj j (by omega)
    refine bX6_spells_52 (r1 := by rw [t0, k4]; omega) (r2 := by omega) (kt := fun z => ?_) (kf := fun z => ?_)
    · rw [t0, k4] at z
      refine bX6_spells_57 (kk := ?_)
      rw [show (j : Int) + 1 = ((j + 1 : Nat) : Int) by omega]
      refine ih (j + 1) (by omega) (fun u hu => ?_)
      by_cases e : u = j
      · rw [e, sjj]; omega
      · exact ha u (by omega)
    · rw [t0, k4] at z
      refine bX6_spells_55 (hq := ?_)
      rw [← hQ]
      refine ⟨_, rfl, rfl, rfl, Or.inr ⟨rfl, fun y => z ?_⟩⟩
      have := y.2.2 j (by omega)
      rw [sjj] at this
      omega
def flt (h h' : AH) (k q : Int) : Prop := (∀ c, c ≠ 46 → h' c = h c) ∧ h' 46 10 = k ∧ h' 46 11 = q
theorem c_fail {fr : Nat} {k : Int} {h : AH} : Sp mX6_fail true fr 0 0 [zR 46, zI k] 137 h (rI (fun x h' => x = 0 ∧ flt h h' k (h 46 4))) := by
  refine Sp.mk yX6_fail_ok rfl rfl ?_
  exact bX6_fail_0 (hq := ⟨_, rfl, rfl, rfl, fun c hc => by rw [up_n hc, up_n hc], by rw [up_cn (by decide), up_ci], by rw [up_ci]⟩)
theorem c_isNumber {fr : Nat} {lo hi : Int} {g : Int} {T : Int → Int} {n p : Int} {E : DT} {a s m : Int} {h : AH} (hf : 1 ≤ fr) (rl : R32 lo) (rh : R32 hi) (r : rdC h g T n p E a s m) : Sp mX6_isNumber true fr 0 0 [zR 46, zI lo, zI hi] 137 h (rI (fun x h' => (x = 1 ∧ h' = h ∧ numF T n p lo hi = 0) ∨ (x = 0 ∧ numF T n p lo hi ≠ 0 ∧ flt h h' (numF T n p lo hi) (pl T n p)))) := by
  refine Sp.mk yX6_isNumber_ok rfl rfl ?_
  obtain ⟨-, ⟨k3, k4, k5, k6⟩, p0, p1⟩ := id r
  obtain ⟨l1, l2⟩ := rl
  obtain ⟨g1, g2⟩ := rh
  have kr := kd_rng T n p
  have plr := pl_rng T p1
  have br := bh_rng T p1
  have vr := vl_rng T p1
  have tn := r.1.1.2.1
  refine bX6_isNumber_0 (r1 := by rw [k3]; omega) (kt := fun q => ?_) (kf := fun q => ?_)
  rotate_left
  · rw [k3] at q
    have e1 : numF T n p lo hi = 1 := by unfold numF; rw [if_pos q]
    refine bX6_isNumber_8 (hS := c_fail) (kk := ?_)
    rintro x h1 ⟨rfl, f1⟩
    rw [k4] at f1
    refine bX6_isNumber_13 (hq := ⟨_, rfl, rfl, Or.inr ⟨rfl, by rw [e1]; decide, by rw [e1]; exact f1⟩⟩)
  rw [k3] at q
  have two : (4 < bh T n p - pl T n p ∨ vl T n p < lo ∨ hi < vl T n p) → Wp mX6_isNumber (kR fr 0 0) (rI (fun x h' => (x = 1 ∧ h' = h ∧ numF T n p lo hi = 0) ∨ (x = 0 ∧ numF T n p lo hi ≠ 0 ∧ flt h h' (numF T n p lo hi) (pl T n p)))) (0, 0) 43 [zR 46, none, none] [] 137 h := fun z => by
    have e1 : numF T n p lo hi = 2 := by unfold numF; rw [if_neg (by omega), if_pos z]
    refine bX6_isNumber_43 (hS := c_fail) (kk := ?_)
    rintro x h1 ⟨rfl, f1⟩
    rw [k4] at f1
    refine bX6_isNumber_48 (hq := ⟨_, rfl, rfl, Or.inr ⟨rfl, by rw [e1]; decide, by rw [e1]; exact f1⟩⟩)
  have fgt43 : ∀ x1 x2 : AV, (4 < bh T n p - pl T n p ∨ vl T n p < lo ∨ hi < vl T n p) → Wp mX6_isNumber (kR fr 0 0) (rI (fun x h' => (x = 1 ∧ h' = h ∧ numF T n p lo hi = 0) ∨ (x = 0 ∧ numF T n p lo hi ≠ 0 ∧ flt h h' (numF T n p lo hi) (pl T n p)))) (0, 0) 43 [zR 46, x1, x2] [] 137 h := fun _ _ z => s_fgt (fgt_c (fgt_n _ (fgt_n _ fgt_0))) (two z)
  refine bX6_isNumber_14 (r1 := by rw [k5, k4]; omega) (kt := fun w => fgt43 _ _ (Or.inl (by rw [k5, k4] at w; exact w))) (kf := fun w => ?_)
  refine bX6_isNumber_27 (r1 := by rw [k6]; omega) (kt := fun w2 => fgt43 _ _ (Or.inr (Or.inl (by rw [k6] at w2; exact w2)))) (kf := fun w2 => ?_)
  refine bX6_isNumber_35 (r1 := by rw [k6]; omega) (kt := fun w3 => ?_) (kf := fun w3 => fgt43 _ _ (Or.inr (Or.inr (by rw [k6] at w3; exact w3))))
  rw [k5, k4] at w
  rw [k6] at w2 w3
  refine bX6_isNumber_49 (hq := ⟨_, rfl, rfl, Or.inl ⟨rfl, rfl, ?_⟩⟩)
  unfold numF
  rw [if_neg (by omega), if_neg (by omega)]
theorem c_isToldSound {fr : Nat} {g : Int} {T : Int → Int} {n p : Int} {E : DT} {a s m : Int} {h : AH} (hf : 2 ≤ fr) (hE : 0 ≤ E 0 0 ∧ E 0 0 ≤ 8) (r : rdC h g T n p E a s m) : Sp mX6_isToldSound true fr 0 0 [zR 46] 137 h (rI (fun x h' => (x = 1 ∧ h' = h ∧ sndF T n p E = 0) ∨ (x = 0 ∧ sndF T n p E ≠ 0 ∧ flt h h' (sndF T n p E) (pl T n p)))) := by
  refine Sp.mk yX6_isToldSound_ok rfl rfl ?_
  obtain ⟨-, ⟨k3, k4, k5, k6⟩, p0, p1⟩ := id r
  have vr := vl_rng T p1
  have g0 := r.1.atz 0
  have e2 := r.1.2.1.2
  refine bX6_isToldSound_0 (hS := c_isNumber (by omega) R32_0 (by constructor <;> decide) r) (kk := ?_)
  rintro x h1 (⟨rfl, rfl, hn⟩ | ⟨rfl, hn, f1⟩)
  rotate_left
  · have e1 : sndF T n p E = numF T n p 0 9999 := by unfold sndF; rw [if_pos hn]
    refine bX6_isToldSound_8 (kt := fun z => absurd rfl z) (kf := fun _ => ?_)
    exact bX6_isToldSound_11 (hq := ⟨_, rfl, rfl, Or.inr ⟨rfl, by rw [e1]; exact hn, by rw [e1]; exact f1⟩⟩)
  refine bX6_isToldSound_8 (kt := fun _ => ?_) (kf := fun z => absurd z (by decide))
  refine bX6_isToldSound_13 (c1 := r.1.ce) (r1 := by rw [k6]; omega) (r2 := by rw [e2, g0]; omega) (kt := fun w => ?_) (kf := fun w => ?_)
  · rw [e2, g0, k6] at w
    refine bX6_isToldSound_35 (kk := bX6_isToldSound_40 (hq := ⟨_, rfl, rfl, Or.inl ⟨rfl, rfl, ?_⟩⟩))
    unfold sndF
    rw [if_neg (by rw [hn]; decide), if_neg (by omega)]
  · rw [e2, g0, k6] at w
    have e1 : sndF T n p E = 3 := by unfold sndF; rw [if_neg (by rw [hn]; decide), if_pos w]
    refine bX6_isToldSound_27 (hS := c_fail) (kk := ?_)
    rintro x h2 ⟨rfl, f1⟩
    rw [k4] at f1
    refine bX6_isToldSound_32 (kt := fun _ => ?_) (kf := fun z => absurd rfl z)
    exact bX6_isToldSound_39 (kk := bX6_isToldSound_40 (hq := ⟨_, rfl, rfl, Or.inr ⟨rfl, by rw [e1]; decide, by rw [e1]; exact f1⟩⟩))
/-- what a reading method comes to -/
def rdP (h0 : AH) (g : Int) (T : Int → Int) (n : Int) (res : RES) (x : Int) (h : AH) : Prop := kpRd g h0 h ∧ ((x = 1 ∧ ∃ p E a s m, res = .inr (p, E, a, s, m) ∧ rdC h g T n p E a s m) ∨ (x = 0 ∧ ∃ k q, res = .inl (k, q) ∧ k ≠ 0 ∧ h 46 10 = k ∧ h 46 11 = q))
theorem rdP.rng {h0 : AH} {g : Int} {T : Int → Int} {n : Int} {res : RES} {x : Int} {h : AH} (r : rdP h0 g T n res x h) : x = 0 ∨ x = 1 := by rcases r.2 with ⟨z, -⟩ | ⟨z, -⟩ <;> omega
theorem rdP.no {h0 h1 h : AH} {g : Int} {T : Int → Int} {n k q : Int} {res : RES} (kp : kpRd g h0 h1) (f : flt h1 h k q) (hk : k ≠ 0) (e : res = .inl (k, q)) : rdP h0 g T n res 0 h := ⟨kp.tr (fun c a _ => f.1 c a), Or.inr ⟨rfl, k, q, e, hk, f.2.1, f.2.2⟩⟩
theorem rdP.kp {h0 h1 h : AH} {g : Int} {T : Int → Int} {n : Int} {res : RES} {x : Int} (kp : kpRd g h0 h1) (r : rdP h1 g T n res x h) : rdP h0 g T n res x h := ⟨kp.tr r.1, r.2⟩
theorem c_readEnd {fr : Nat} {g : Int} {T : Int → Int} {n p : Int} {E : DT} {a s m : Int} {h : AH} (hf : 2 ≤ fr) (r : rdC h g T n p E a s m) : Sp mX6_readEnd true fr 0 0 [zR 46] 137 h (rI (rdP h g T n (endR T n p E a s m))) := by
  refine Sp.mk yX6_readEnd_ok rfl rfl ?_
  obtain ⟨-, ⟨k3, k4, k5, k6⟩, p0, p1⟩ := id r
  have kr := kd_rng T n p
  have br := bh_rng T p1
  have plr := pl_rng T p1
  refine bX6_readEnd_0 (r1 := by rw [k3]; omega) (kt := fun q => ?_) (kf := fun q => ?_)
  · rw [k3] at q
    refine bX6_readEnd_14 (hS := c_step (by omega) r.1 k5 (by omega) br.2.1) (kk := ?_)
    rintro h1 ⟨k1, r1⟩
    exact bX6_readEnd_18 (hq := ⟨_, rfl, rfl, k1, Or.inl ⟨rfl, _, _, _, _, _, by unfold endR; rw [if_pos q], r1⟩⟩)
  · rw [k3] at q
    refine bX6_readEnd_8 (hS := c_fail) (kk := ?_)
    rintro x h1 ⟨rfl, f1⟩
    rw [k4] at f1
    exact bX6_readEnd_13 (hq := ⟨_, rfl, rfl, rdP.no (kpRd.rf g h) f1 (by decide) (by unfold endR; rw [if_neg q])⟩)
