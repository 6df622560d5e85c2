/-! ===== the model: lines, line ===== -/
theorem cnt_bij (p E : Nat → Bool) : ∀ n : Nat, cnt (fun w => p w && E (cnt p w).toNat) n = cnt E (cnt p n).toNat
  | 0 => rfl
  | n + 1 => by
    have r := cnt_rng p n
    rw [cnt_s, cnt_s p n, cnt_bij p E n]
    by_cases c : p n = true
    · rw [if_pos c, show (cnt p n + 1).toNat = (cnt p n).toNat + 1 by omega, cnt_s]
      congr 1
      simp only [c, Bool.true_and]
    · rw [if_neg c, Int.add_zero, if_neg]
      · omega
      · simp only [show p n = false by simpa using c, Bool.false_and]; decide
theorem cnt_not (E G : Nat → Bool) (h : ∀ d, G d = !E d) : ∀ n : Nat, cnt G n + cnt E n = n
  | 0 => rfl
  | n + 1 => by
    have := cnt_not E G h n
    rw [cnt_s, cnt_s, h n]
    cases E n <;> simp <;> omega
theorem dig0 {D : DT} {f : Nat} {j : Nat} (hd : okD D) (f1 : (f : Int) < D 0 3) (hj : (j : Int) < linesD D f) : digD D f j 0 = ((j / obN D f : Nat) : Int) ∧ 0 < obN D f := by
  have L := (hd.2.2.2.2.2.2.2.2.2.2.2.2.2.2 f (by omega) f1).1
  have kp := linesD_pos (show 0 < linesD D f by omega) hd
  have k0 := kp 0 (by decide) (by omega)
  have r1 := (rs_lines (i := j) kp).mpr hj
  rw [rs_lt kp 1 (by omega)] at r1
  have rr := rsD_rng (D := D) (f := f) (i := j) (by omega) ((D 13 f).toNat - 1)
  have c0 : cK D f 0 = kindsD D (D 14 ((f : Int) * 3)) := by rw [Int.add_zero] at k0; unfold cK; rw [Int.add_zero]; omega
  have e1 : digD D f j 0 = rsD D f j ((D 13 f).toNat - 1) := by
    unfold digD
    rw [show (D 13 f - 1 - 0).toNat = (D 13 f).toNat - 1 by omega, c0]
    refine Int.emod_eq_of_lt rr.1 ?_
    have e : pr (fun i => kindsD D (D 14 ((f : Int) * 3 + i))) 1 = kindsD D (D 14 ((f : Int) * 3)) := by
      show 1 * kindsD D (D 14 ((f : Int) * 3 + ((0 : Nat) : Int))) = _
      rw [show (f : Int) * 3 + ((0 : Nat) : Int) = (f : Int) * 3 by omega, Int.one_mul]
    rw [e] at r1
    exact r1
  have ld := lines_div hd f1
  have ob : 0 < obN D f := by
    by_cases z : obN D f = 0
    · rw [z, Nat.mul_zero] at ld; omega
    · omega
  refine ⟨?_, ob⟩
  rw [e1]
  have k0' : 1 ≤ kindsD D (D 14 ((f : Int) * 3)) := by rw [Int.add_zero] at k0; exact k0
  have em : max 1 (kindsD D (D 14 ((f : Int) * 3))) = kindsD D (D 14 ((f : Int) * 3)) := by omega
  have e0 : (f : Int) * 3 + ((0 : Nat) : Int) = (f : Int) * 3 := by omega
  -- the lines of one beginning
  have key : ∀ x : Int, 0 ≤ x → linesD D f = kindsD D (D 14 ((f : Int) * 3)) * x → ((obN D f : Nat) : Int) = x := fun x x0 hx => by
    unfold obN
    rw [em, hx, Int.mul_ediv_cancel_left x (by omega)]
    omega
  rcases (show D 13 f = 1 ∨ D 13 f = 2 ∨ D 13 f = 3 by omega) with e | e | e
  · have hl : linesD D f = kindsD D (D 14 ((f : Int) * 3)) * 1 := by
      unfold linesD; rw [e]
      show 1 * kindsD D (D 14 ((f : Int) * 3 + ((0 : Nat) : Int))) = _
      rw [e0, Int.one_mul, Int.mul_one]
    have o1 := key 1 (by decide) hl
    rw [e]
    show (j : Int) = _
    rw [show obN D f = 1 by omega, Nat.div_one]
  · have k1 := kp 1 (by decide) (by omega)
    have hl : linesD D f = kindsD D (D 14 ((f : Int) * 3)) * kindsD D (D 14 ((f : Int) * 3 + 1)) := by
      unfold linesD; rw [e]
      show 1 * kindsD D (D 14 ((f : Int) * 3 + ((0 : Nat) : Int))) * kindsD D (D 14 ((f : Int) * 3 + ((1 : Nat) : Int))) = _
      rw [e0, Int.one_mul]; rfl
    have o1 := key _ (by omega) hl
    have ec : cK D f 1 = ((obN D f : Nat) : Int) := by rw [o1]; unfold cK; omega
    rw [e]
    show (j : Int) / cK D f (D 13 f - 1 - ((0 : Nat) : Int)) = _
    rw [show D 13 f - 1 - ((0 : Nat) : Int) = 1 by omega, ec]
    push_cast; rfl
  · have k1 := kp 1 (by decide) (by omega)
    have k2 := kp 2 (by decide) (by omega)
    have hl : linesD D f = kindsD D (D 14 ((f : Int) * 3)) * (kindsD D (D 14 ((f : Int) * 3 + 1)) * kindsD D (D 14 ((f : Int) * 3 + 2))) := by
      unfold linesD; rw [e]
      show 1 * kindsD D (D 14 ((f : Int) * 3 + ((0 : Nat) : Int))) * kindsD D (D 14 ((f : Int) * 3 + ((1 : Nat) : Int))) * kindsD D (D 14 ((f : Int) * 3 + ((2 : Nat) : Int))) = _
      rw [e0, Int.one_mul, Int.mul_assoc]; rfl
    have o1 := key _ (Int.mul_nonneg (by omega) (by omega)) hl
    have ec1 : cK D f 1 = kindsD D (D 14 ((f : Int) * 3 + 1)) := by unfold cK; omega
    have ec2 : cK D f 2 = kindsD D (D 14 ((f : Int) * 3 + 2)) := by unfold cK; omega
    rw [e]
    show (j : Int) / cK D f (D 13 f - 1 - ((0 : Nat) : Int)) / cK D f (D 13 f - 1 - ((1 : Nat) : Int)) = _
    rw [show D 13 f - 1 - ((0 : Nat) : Int) = 2 by omega, show D 13 f - 1 - ((1 : Nat) : Int) = 1 by omega, ec1, ec2, Int.ediv_ediv_of_nonneg (by omega), Int.mul_comm (kindsD D (D 14 ((f : Int) * 3 + 2))), ← o1]
    push_cast; rfl
/-- beginnings less those that open a line that answers are the spoilt -/
theorem gd_spo {D : DT} {P : Int → Int → Prop} {f : Nat} {G : Int} (hd : okD D) (f1 : (f : Int) < D 0 3) (hP : ∀ j : Nat, P f j → ∃ W, lineW D f j W) (mG : m16 G) (hG : ∀ w : Nat, bt G w = true ↔ ∃ j : Nat, (j : Int) < linesD D f ∧ P f j ∧ fst0 D f j w) : begF D f - pop G 31 = spo D P f := by
  have ln := linesD_512 hd f1
  have L := (hd.2.2.2.2.2.2.2.2.2.2.2.2.2.2 f (by omega) f1).1
  have ld := lines_div hd f1
  by_cases c : linesD D f = 0
  · have p0 : pop G 31 = 0 := sg_zero (fun w _ => if_neg (fun z => by
      obtain ⟨j, a, -⟩ := (hG w).mp z
      omega))
    have o0 : obN D f = 0 := by unfold obN; rw [c, Int.zero_ediv]; rfl
    rw [p0]
    unfold begF spo
    rw [if_neg (by omega), o0, if_neg (by omega)]
    rfl
  have kp := linesD_pos (show 0 < linesD D f by omega) hd
  have k0 := kp 0 (by decide) (by omega)
  rw [Int.add_zero] at k0
  have ob := (dig0 (j := 0) hd f1 (by omega)).2
  have fw : (fwN D f : Int) = kindsD D (D 14 ((f : Int) * 3)) := by unfold fwN; omega
  have n02 := hd.2.2.1
  let E : Nat → Bool := fun d => cl (∃ j : Nat, (d * obN D f ≤ j ∧ j < (d + 1) * obN D f) ∧ P f j)
  have hE : ∀ d, E d = true ↔ ∃ j : Nat, (d * obN D f ≤ j ∧ j < (d + 1) * obN D f) ∧ P f j := fun d => cl_iff
  have blk : ∀ (d j : Nat), (d * obN D f ≤ j ∧ j < (d + 1) * obN D f) ↔ j / obN D f = d := fun d j => by
    rw [Nat.div_eq_iff ob]
    have := Nat.succ_mul d (obN D f)
    rw [Nat.succ_eq_add_one] at this
    omega
  have bits : ∀ w : Nat, w < (D 0 2).toNat → (fun j => bt G j) w = (kp_ D (D 14 ((f : Int) * 3)) w && E (cnt (kp_ D (D 14 ((f : Int) * 3))) w).toNat) := fun w hw => by
    have cr := cnt_rng (kp_ D (D 14 ((f : Int) * 3))) w
    rw [Bool.eq_iff_iff, Bool.and_eq_true, hE]
    show bt G w = true ↔ _
    rw [hG w]
    constructor
    · rintro ⟨j, a, b, W, lw, e⟩
      obtain ⟨-, q2, q3⟩ := lw 0 (by decide) (by omega)
      rw [e] at q2 q3
      rw [Int.add_zero] at q2 q3
      rw [Int.toNat_natCast] at q3
      refine ⟨decide_eq_true q2, j, (blk _ _).mpr ?_, b⟩
      have := (dig0 hd f1 a).1
      omega
    · rintro ⟨kw, j, bj, pj⟩
      have kw' : D 10 w = D 14 ((f : Int) * 3) := of_decide_eq_true kw
      have dj := (blk _ _).mp bj
      have lt : cnt (kp_ D (D 14 ((f : Int) * 3))) w < kindsD D (D 14 ((f : Int) * 3)) := cnt_lt hw kw
      have jl : j < (linesD D f).toNat := by
        rw [← ld]
        have : ((cnt (kp_ D (D 14 ((f : Int) * 3))) w).toNat + 1) * obN D f ≤ fwN D f * obN D f := Nat.mul_le_mul_right _ (by omega)
        omega
      obtain ⟨W, lw⟩ := hP j pj
      obtain ⟨q1, q2, q3⟩ := lw 0 (by decide) (by omega)
      rw [Int.add_zero] at q2 q3
      have d0 := (dig0 (j := j) hd f1 (by omega)).1
      have t1 : kp_ D (D 14 ((f : Int) * 3)) (W 0).toNat = true := decide_eq_true (by rw [show (((W 0).toNat : Nat) : Int) = W 0 by omega]; exact q2)
      have := nth_one t1 kw (by rw [q3, d0]; omega)
      exact ⟨j, by omega, pj, W, lw, by omega⟩
  have pE : pop G 31 = cnt E (fwN D f) := by
    have a : pop G 31 = cnt (fun j => bt G j) (D 0 2).toNat := sg_tail (by omega) (fun w p q => if_neg (fun z => by
      obtain ⟨j, _, _, W, lw, e⟩ := (hG w).mp z
      have := (lw 0 (by decide) (by omega)).1
      omega))
    rw [a, cnt_cong bits, cnt_bij]
    congr 1
    show (kindsD D (D 14 ((f : Int) * 3))).toNat = _
    omega
  have nE : cnt (spB D P f) (fwN D f) + cnt E (fwN D f) = fwN D f := cnt_not E _ (fun d => by
    unfold spB
    rw [Bool.eq_iff_iff, Bool.not_eq_true', cl_iff, ← Bool.not_eq_true, hE]
    constructor
    · rintro z ⟨j, ⟨a, b⟩, p⟩; exact z j a b p
    · intro z j a b p; exact z ⟨j, ⟨a, b⟩, p⟩) (fwN D f)
  unfold spo begF
  rw [if_pos ob, if_pos (by omega), pE]
  omega
theorem m_lines {fr : Nat} {o k : Int} {h : AH} (hf : 9 ≤ fr) (ro : R32 o) (rk : R32 k) (ho : okM h) :
    Sp mX12_lines true fr 0 0 [zR 98, zI o, zI k] 137 h (rI (fun x h' => keepM h h' ∧ ((((0 ≤ o ∧ o < 24) ∧ 0 ≤ k ∧ k ≤ 4) ∧ h' 98 0 = 0 ∧ linesR (dM h) (dM h 9 o) k x) ∨ (¬ ((0 ≤ o ∧ o < 24) ∧ 0 ≤ k ∧ k ≤ 4) ∧ h' 98 0 = 1)))) := by
  refine Sp.mk yX12_lines_ok rfl rfl ?_
  have e0 : up h 98 0 0 98 0 = 0 := rfl
  refine bX12_lines_0 (hS := m_isHour (by omega) ro rfl) (kk := ?_)
  rintro x h1 (⟨ok, rfl, rfl⟩ | ⟨ok, rfl, rfl⟩)
  rotate_left
  · refine bX12_lines_10 (kt := fun _ => ?_) (kf := fun w => absurd rfl w)
    exact bX12_lines_27 (hq := ⟨_, rfl, rfl, chk1, Or.inr ⟨by omega, rfl⟩⟩)
  refine bX12_lines_10 (kt := fun w => absurd w (by decide)) (kf := fun _ => ?_)
  refine bX12_lines_13 (hS := m_within rk R32_0 (by constructor <;> decide)) (kk := ?_)
  rintro x h1 ⟨e1, z⟩
  rw [e1]; clear e1 h1
  refine bX12_lines_20 (hS := m_right (by rcases z with ⟨rfl, -⟩ | ⟨rfl, -⟩ <;> constructor <;> decide) R32_1 (by decide) (by rw [e0]; exact R32_0)) (kk := ?_)
  rintro y h1 (⟨-, w, rfl, rfl⟩ | ⟨-, w, rfl, rfl⟩ | ⟨w, -⟩)
  rotate_left
  · refine bX12_lines_24 (kt := fun w => absurd rfl w) (kf := fun _ => ?_)
    exact bX12_lines_27 (hq := ⟨_, rfl, rfl, chk1, Or.inr ⟨fun y => by omega, rfl⟩⟩)
  · exact absurd e0 w
  refine bX12_lines_24 (kt := fun _ => ?_) (kf := fun w => absurd w (by decide))
  have al : (0 ≤ o ∧ o < 24) ∧ 0 ≤ k ∧ k ≤ 4 := ⟨by omega, by omega⟩
  have okh := ho.keep (chk0 (h := h))
  have eD : dM (up h 98 0 0) = dM h := (chk0 (h := h)).dM
  have hd := ho.1
  have nF := hd.2.2.2.1
  have n4 : dM h 0 3 = h 98 4 := rfl
  refine bX12_lines_29 (hS := m_goesThrough (by omega) eD hd al.1 okh.2.1 okh.2.2.1) (kk := ?_)
  rintro h1 ⟨k1, f59, f60, ⟨N, p1, p2⟩, gd, f63⟩
  have e4 : h1 98 4 = h 98 4 := by rw [k1.1.2 4 (by unfold perF; omega)]; rfl
  generalize hD : dM h = D at *
  have kk' : keepM h h1 := chk0.tr k1.1
  generalize hQ : (rI (fun x h' => keepM h h' ∧ ((((0 ≤ o ∧ o < 24) ∧ 0 ≤ k ∧ k ≤ 4) ∧ h' 98 0 = 0 ∧ linesR D (D 9 o) k x) ∨ (¬ ((0 ≤ o ∧ o < 24) ∧ 0 ≤ k ∧ k ≤ 4) ∧ h' 98 0 = 1)))) = Q
  have fin : ∀ (x : Int) (x0 x1 x2 x3 x4 : AV), linesR D (D 9 o) k x → Wp mX12_lines (kR fr 0 0) Q (0, 0) 120 [x0, x1, x2, x3, x4] [zI x] 137 h1 := fun x _ _ _ _ _ hx => by
    refine bX12_lines_120 (hq := ?_)
    rw [← hQ]
    exact ⟨_, rfl, rfl, kk', Or.inl ⟨al, by rw [k1.2, e0], hx⟩⟩
  refine bX12_lines_34 (kk := ?_)
  suffices K : ∀ (d g : Nat) (x1 : AV), (g : Int) + d = D 0 3 → Wp mX12_lines (kR fr 0 0) Q (0, 0) 39 [zR 98, x1, zI k, zI (sg (fun g => pop (h1 122 g) 31) g), zI g] [] 137 h1 by
    exact K (D 0 3).toNat 0 _ (by omega)
  intro d
  induction d with
  | zero =>
    intro g x1 hg
    refine bX12_lines_39 (kt := fun _ => ?_) (kf := fun w => by omega)
    refine bX12_lines_67 (kt := fun q0 => ?_) (kf := fun q0 => ?_)
    rotate_left
    · exact bX12_lines_71 (kk := fin _ _ _ _ _ _ (Or.inl ⟨q0, f59⟩))
    refine bX12_lines_78 (kt := fun q1 => ?_) (kf := fun q1 => ?_)
    rotate_left
    · exact bX12_lines_83 (kk := fin _ _ _ _ _ _ (Or.inr (Or.inl ⟨q1, f60⟩)))
    refine bX12_lines_90 (kt := fun q2 => ?_) (kf := fun q2 => ?_)
    rotate_left
    · exact bX12_lines_95 (kk := fin _ _ _ _ _ _ (Or.inr (Or.inr (Or.inl ⟨q2, N, p1⟩))))
    refine bX12_lines_102 (kt := fun q3 => ?_) (kf := fun q3 => ?_)
    rotate_left
    · refine bX12_lines_107 (kk := fin _ _ _ _ _ _ (Or.inr (Or.inr (Or.inr (Or.inl ⟨q3, ?_⟩)))))
      rw [f63]
      unfold begD spoD
      have key : ∀ n : Nat, n ≤ (D 0 3).toNat → sg (begF D) n - sg (fun g => pop (h1 122 g) 31) n = sg (spo D (Ans D (ampA D (D 9 o) 0 (-1)))) n := fun n => by
        induction n with
        | zero => intro _; rfl
        | succ n ih =>
          intro hn
          have a := ih (by omega)
          obtain ⟨m1, m2⟩ := gd n (by omega)
          have b := gd_spo (P := Ans D (ampA D (D 9 o) 0 (-1))) (f := n) (G := h1 122 n) hd (by omega) (fun j ⟨W, S, B, m, lr, _⟩ => ⟨W, lr.1⟩) m1 (fun w => by
            rw [m2 w]
            constructor
            · rintro ⟨j, p, r⟩; exact ⟨j, (bef_all.mp p).2, r⟩
            · rintro ⟨j, p, r⟩; exact ⟨j, bef_all.mpr ⟨by omega, p⟩, r⟩)
          rw [sg, sg, sg]
          omega
      have := key (D 0 3).toNat (Nat.le_refl _)
      rw [show (D 0 3).toNat = g by omega] at this ⊢
      omega
    · exact bX12_lines_116 (kk := fin _ _ _ _ _ _ (Or.inr (Or.inr (Or.inr (Or.inr ⟨by omega, f63⟩)))))
  | succ d ih =>
    intro g x1 hg
    obtain ⟨m1, -⟩ := gd g (by omega)
    refine bX12_lines_39 (kt := fun w => by omega) (kf := fun _ => ?_)
    refine bX12_lines_48 (hS := m_bits m1.1 (by have := m1.2; omega)) (kk := ?_)
    rintro x h2 ⟨e2, hx⟩
    rw [e2]; clear e2 h2
    refine bX12_lines_59 (kk := ?_)
    rw [show (g : Int) + 1 = ((g + 1 : Nat) : Int) by omega, hx]
    exact ih (g + 1) _ (by omega)
/-- how many before a line answer -/
theorem cA_at {D : DT} {P : Int → Int → Prop} (hd : okD D) {f : Nat} (f1 : (f : Int) < D 0 3) : ∀ i : Nat, (i : Int) ≤ linesD D f → cA D P (preN D f + i).toNat = psum D (inC P) f i
  | 0, _ => by
    have := cA_psum (P := P) hd f (by omega)
    rw [show (preN D f + ((0 : Nat) : Int)).toNat = (preN D f).toNat by omega]
    exact this
  | i + 1, hi => by
    have pn := preN_nn hd (n := f) (by omega)
    rw [show (preN D f + ((i + 1 : Nat) : Int)).toNat = (preN D f + i).toNat + 1 by omega, psum_s, ← cA_at hd f1 i (by omega)]
    show cnt _ _ + _ = cnt _ _ + _
    congr 1
    have iff : AnsN D P (((preN D f + i).toNat : Nat) : Int) ↔ P f i := by
      rw [show (((preN D f + (i : Int)).toNat : Nat) : Int) = preN D f + i by omega]
      constructor
      · rintro ⟨g', j, a, b, c⟩
        obtain ⟨rfl, rfl⟩ := pair_one hd (bef_all.mpr ⟨by omega, by omega⟩) a c
        exact b
      · exact fun z => ⟨f, i, bef_all.mpr ⟨by omega, by omega⟩, z, rfl⟩
    unfold inC
    show (if cl (AnsN D P (((preN D f + i).toNat : Nat) : Int)) = true then (1 : Int) else 0) = _
    by_cases z : P f i
    · rw [if_pos (cl_pos (iff.mpr z)), if_pos (cl_pos z)]
    · rw [if_neg (by rw [cl_neg (fun w => z (iff.mp w))]; decide), if_neg (by rw [cl_neg z]; decide)]
theorem m_line_ {fr : Nat} {o i k : Int} {h : AH} (hf : 9 ≤ fr) (ro : R32 o) (ri : R32 i) (rk : R32 k) (ho : okM h) :
    Sp mX12_line_ true fr 0 0 [zR 98, zI o, zI i, zI k] 137 h (rI (fun x h' => keepM h h' ∧ ((((0 ≤ o ∧ o < 24) ∧ 0 ≤ k ∧ k ≤ 3) ∧ h' 98 0 = 0 ∧ lineRes (dM h) (dM h 9 o) i k x) ∨ (¬ (((0 ≤ o ∧ o < 24) ∧ 0 ≤ k ∧ k ≤ 3) ∧ lineOk (dM h) (dM h 9 o) i) ∧ h' 98 0 = 1)))) := by
  refine Sp.mk yX12_line__ok rfl rfl ?_
  obtain ⟨ri1, ri2⟩ := id ri
  obtain ⟨rk1, rk2⟩ := id rk
  have e0 : up h 98 0 0 98 0 = 0 := rfl
  have hd := ho.1
  generalize hD : dM h = D at *
  generalize hQ : (rI (fun x h' => keepM h h' ∧ ((((0 ≤ o ∧ o < 24) ∧ 0 ≤ k ∧ k ≤ 3) ∧ h' 98 0 = 0 ∧ lineRes D (D 9 o) i k x) ∨ (¬ (((0 ≤ o ∧ o < 24) ∧ 0 ≤ k ∧ k ≤ 3) ∧ lineOk D (D 9 o) i) ∧ h' 98 0 = 1)))) = Q
  have nF := hd.2.2.2.1
  refine bX12_line__0 (hS := m_isHour (by omega) ro rfl) (kk := ?_)
  rintro x h1 (⟨ok, rfl, rfl⟩ | ⟨ok, rfl, rfl⟩)
  rotate_left
  · refine bX12_line__10 (kt := fun _ => ?_) (kf := fun w => absurd rfl w)
    refine bX12_line__40 (hq := ?_)
    rw [← hQ]
    exact ⟨_, rfl, rfl, chk1, Or.inr ⟨fun w => by have := w.1.1; omega, rfl⟩⟩
  refine bX12_line__10 (kt := fun w => absurd w (by decide)) (kf := fun _ => ?_)
  have noI : i < -1 → ¬ lineOk D (D 9 o) i := fun hi => by
    rintro ⟨g, j, a, b⟩
    have p := preN_nn hd (n := g) (by rw [bef_all] at a; omega)
    rcases b with ⟨c, -⟩ | ⟨c, -⟩ | ⟨c, -⟩ <;> omega
  have bad : (i < -1 ∨ ¬ (0 ≤ k ∧ k ≤ 3)) → Wp mX12_line_ (kR fr 0 0) Q (0, 0) 32 [zR 98, zI o, zI i, zI k, none, none] [zR 98] 137 (up h 98 0 0) := fun nn => by
    refine bX12_line__32 (kk := bX12_line__33 (hS := m_right R32_0 R32_1 (by decide) (by rw [e0]; exact R32_0)) (kk := ?_))
    rintro y h1 (⟨-, w, rfl, rfl⟩ | ⟨-, w, rfl, rfl⟩ | ⟨w, -⟩)
    · exact absurd rfl w
    · refine bX12_line__37 (kt := fun w => absurd rfl w) (kf := fun _ => ?_)
      refine bX12_line__40 (hq := ?_)
      rw [← hQ]
      refine ⟨_, rfl, rfl, chk1, Or.inr ⟨fun w => ?_, rfl⟩⟩
      rcases nn with nn | nn
      · exact noI nn w.2
      · exact nn w.1.2
    · exact absurd e0 w
  refine bX12_line__13 (kt := fun q => bad (Or.inl q)) (kf := fun i1 => ?_)
  refine bX12_line__19 (hS := m_within rk R32_0 (by constructor <;> decide)) (kk := ?_)
  rintro x h1 ⟨e1, z⟩
  rw [e1]; clear e1 h1
  refine bX12_line__25 (r1 := by rcases z with z | z <;> omega) (kt := fun q => bad (Or.inr (by omega))) (kf := fun q => ?_)
  have al : (0 ≤ o ∧ o < 24) ∧ 0 ≤ k ∧ k ≤ 3 := ⟨by omega, by omega⟩
  refine bX12_line__28 (kk := bX12_line__33 (hS := m_right R32_1 R32_1 (by decide) (by rw [e0]; exact R32_0)) (kk := ?_))
  rintro y h1 (⟨-, w', rfl, rfl⟩ | ⟨-, w', rfl, rfl⟩ | ⟨w', -⟩)
  rotate_left
  · exact absurd w' (by decide)
  · exact absurd e0 w'
  refine bX12_line__37 (kt := fun _ => ?_) (kf := fun w => absurd w (by decide))
  have okh := ho.keep (chk0 (h := h))
  have eD : dM (up h 98 0 0) = D := by rw [(chk0 (h := h)).dM]; exact hD
  have ar := all_rng hd
  refine bX12_line__42 (kt := fun qi => ?_) (kf := fun qi => ?_)
  rotate_left
  · -- the plainest
    refine bX12_line__47 (hS := m_goesThrough (by omega) eD hd al.1 okh.2.1 okh.2.2.1) (kk := ?_)
    rintro h1 ⟨k1, -, -, ⟨N, p1, p2⟩, -, -⟩
    have t0 : h1 98 0 = 0 := by rw [k1.2]; exact e0
    have pr61 : h1 98 61 = -1 ∨ (1 ≤ h1 98 61 ∧ h1 98 61 ≤ 12) := by
      rcases p1 with ⟨-, c, -⟩ | ⟨g, j, c1, -, -, ⟨W, c4, c5⟩, -⟩
      · exact Or.inl c
      · have g1 := bef_all.mp c1
        have L := (hd.2.2.2.2.2.2.2.2.2.2.2.2.2.2 g (by omega) (by omega)).1
        have := preW_rng hd c4.in_ (D 13 g).toNat (by omega)
        exact Or.inr (by omega)
    refine bX12_line__52 (kt := fun q2 => ?_) (kf := fun q2 => ?_)
    · refine bX12_line__65 (kk := bX12_line__66 (hS := m_right R32_0 R32_1 (by decide) (by rw [t0]; exact R32_0)) (kk := ?_))
      rintro y h2 (⟨-, w, rfl, rfl⟩ | ⟨-, w, rfl, rfl⟩ | ⟨w, -⟩)
      · exact absurd rfl w
      · refine bX12_line__70 (kt := fun w => absurd rfl w) (kf := fun _ => ?_)
        refine bX12_line__73 (hq := ?_)
        rw [← hQ]
        refine ⟨_, rfl, rfl, chk0.tr (k1.1.tr (keepM.up98 (by unfold perF; omega))), Or.inr ⟨?_, rfl⟩⟩
        rintro ⟨-, g, j, a, b⟩
        rw [q2] at p1
        rcases b with ⟨-, n, b⟩ | ⟨b, -⟩ | ⟨b, c⟩
        · have := plR.one p1 b
          rcases p1 with ⟨p, -, -⟩ | ⟨g', j', c1, -, -, ⟨W, c4, c5⟩, -⟩
          · have p' := preN_nn hd (n := g) (by rw [bef_all] at a; omega)
            omega
          · have g1 := bef_all.mp c1
            have L := (hd.2.2.2.2.2.2.2.2.2.2.2.2.2.2 g' (by omega) (by omega)).1
            have := preW_rng hd c4.in_ (D 13 g').toNat (by omega)
            omega
        · omega
        · have p' := preN_nn hd (n := g) (by rw [bef_all] at a; omega)
          omega
      · exact absurd t0 w
    refine bX12_line__61 (kk := bX12_line__66 (hS := m_right R32_1 R32_1 (by decide) (by rw [t0]; exact R32_0)) (kk := ?_))
    rintro y h2 (⟨-, w', rfl, rfl⟩ | ⟨-, w', rfl, rfl⟩ | ⟨w', -⟩)
    rotate_left
    · exact absurd w' (by decide)
    · exact absurd t0 w'
    refine bX12_line__70 (kt := fun _ => ?_) (kf := fun w => absurd w (by decide))
    have N0 : 0 ≤ N := by
      rcases p1 with ⟨-, c, -⟩ | ⟨g, j, c1, -, c3, -⟩
      · exact absurd c q2
      · have p' := preN_nn hd (n := g) (by rw [bef_all] at c1; omega)
        omega
    rcases p2 with p2 | ⟨g, j, c3, c4, c5, c6, c7⟩
    · omega
    have res : ∀ v, partR D g j k v → lineRes D (D 9 o) i k v := fun v hv => ⟨g, j, c3, Or.inl ⟨qi, _, by rw [← c4]; exact p1⟩, hv⟩
    have g1 := bef_all.mp c3
    have L := (hd.2.2.2.2.2.2.2.2.2.2.2.2.2.2 g (by omega) (by omega)).1
    refine bX12_line__75 (kt := fun q3 => ?_) (kf := fun q3 => ?_)
    · refine bX12_line__86 (kk := bX12_line__94 (hq := ?_))
      rw [← hQ]
      refine ⟨_, rfl, rfl, chk0.tr k1.1, Or.inl ⟨al, t0, res _ ?_⟩⟩
      by_cases kl : k ≤ D 13 g
      · exact Or.inr (Or.inl ⟨⟨by omega, kl⟩, h2 121, c6, rfl⟩)
      · exact Or.inr (Or.inr ⟨⟨by omega, by omega⟩, c7 _ (by omega) (by omega)⟩)
    · refine bX12_line__79 (kk := bX12_line__94 (hq := ?_))
      rw [← hQ]
      exact ⟨_, rfl, rfl, chk0.tr k1.1, Or.inl ⟨al, t0, res _ (Or.inl ⟨q3, c5⟩)⟩⟩
  -- the i-th
  have i0 : 0 ≤ i := by omega
  generalize hP : Ans D (ampA D (D 9 o) 0 (-1)) = P
  have fin : ∀ (h1 : AH) (x1 x2 x3 x4 x5 : AV), kM0 (up h 98 0 0) h1 → psum D (inC P) (D 0 3).toNat 0 ≤ i → Wp mX12_line_ (kR fr 0 0) Q (0, 0) 155 [zR 98, x1, x2, x3, x4, x5] [] 137 h1 := fun h1 _ _ _ _ _ k1 hl => by
    have t0 : h1 98 0 = 0 := by rw [k1.2]; exact e0
    refine bX12_line__155 (hS := m_right R32_0 R32_1 (by decide) (by rw [t0]; exact R32_0)) (kk := ?_)
    rintro y h2 (⟨-, w, rfl, rfl⟩ | ⟨-, w, rfl, rfl⟩ | ⟨w, -⟩)
    · exact absurd rfl w
    · refine bX12_line__161 (hq := ?_)
      rw [← hQ]
      refine ⟨_, rfl, rfl, chk0.tr (k1.1.tr (keepM.up98 (by unfold perF; omega))), Or.inr ⟨?_, rfl⟩⟩
      rintro ⟨-, g, j, a, b⟩
      rw [hP] at b
      have g1 := bef_all.mp a
      have p' := preN_nn hd (n := g) (by omega)
      rcases b with ⟨b, -⟩ | ⟨-, -, b, c⟩ | ⟨b, -⟩
      · omega
      · rw [cA_at hd (by omega) j (by omega)] at c
        have ps := psum_s D (inC P) g j
        have pg : P g j := by
          obtain ⟨g', j', u1, u2, u3⟩ := b
          obtain ⟨rfl, rfl⟩ := pair_one hd a u1 u3
          exact u2
        have q1 : inC P g j = 1 := by unfold inC; rw [if_pos (cl_pos pg)]
        have m1 := psum_mono (D := D) P g (show j + 1 ≤ (linesD D g).toNat by omega)
        have m2 : psum D (inC P) g (linesD D g).toNat ≤ psum D (inC P) (D 0 3).toNat 0 := by
          rw [← psum_n]
          unfold psum
          have := sg_mono (F := fun g => sg (inC P g) (linesD D g).toNat) (fun g => by
            have := sg_rng (f := inC P g) (B := 1) (n := (linesD D g).toNat) (fun j _ => inC_rng P g j)
            exact this.1) (show g + 1 ≤ (D 0 3).toNat by omega)
          show _ + (0 : Int) ≤ _ + (0 : Int)
          omega
        omega
      · omega
    · exact absurd t0 w
  suffices H : ∀ (d f j : Nat) (h1 : AH) (x n : Int), preN D f + j + d = allD D → wk D h1 x f j → kM0 (up h 98 0 0) h1 → n = psum D (inC P) f j → n ≤ i → Wp mX12_line_ (kR fr 0 0) Q (0, 0) 104 [zR 98, zI o, zI i, zI k, zI n, zI x] [] 137 h1 by
    refine bX12_line__95 (hS := m_firstW (by omega) eD hd) (kk := ?_)
    rintro x h1 ⟨k1, g, j, s, w⟩
    refine bX12_line__102 (kk := H (allD D).toNat g j h1 x 0 ?_ w k1.m ?_ i0)
    · have := s.2.2
      have e0 : preN D 0 = 0 := rfl
      omega
    · rw [← s.1]; rfl
  intro d
  induction d with
  | zero =>
    intro f j h1 x n hm w k1 hn hi
    have xr := w.rng
    rcases w with ⟨-, a⟩ | ⟨e, e2, e3⟩
    · have := a.lt hd; omega
    exact bX12_line__104 (kt := fun _ => fin h1 _ _ _ _ _ k1 (by rw [e2, e3] at hn; omega)) (kf := fun z => absurd e z)
  | succ d ih =>
    intro f j h1 x n hm w k1 hn hi
    have xr := w.rng
    have prr := psum_rng (D := D) P hd (i := j) w.form
    rcases w with ⟨e, a⟩ | ⟨e, e2, e3⟩
    rotate_left
    · exact bX12_line__104 (kt := fun _ => fin h1 _ _ _ _ _ k1 (by rw [e2, e3] at hn; omega)) (kf := fun z => absurd e z)
    have lt := a.lt hd
    have f46 : h1 98 46 = 0 := by rw [k1.1.2 46 (by unfold perF; omega)]; exact okh.2.1
    have f47 : h1 98 47 = -1 := by rw [k1.1.2 47 (by unfold perF; omega)]; exact okh.2.2.1
    have D1 : dM h1 = D := by rw [k1.1.dM]; exact eD
    have ps := psum_s D (inC P) f j
    have next : ∀ (h2 : AH) (m : Int) (x5 : AV), kM0 (up h 98 0 0) h2 → atL D h2 f j → m = psum D (inC P) f (j + 1) → m ≤ i → Wp mX12_line_ (kR fr 0 0) Q (0, 0) 146 [zR 98, zI o, zI i, zI k, zI m, x5] [] 137 h2 := fun h2 m _ k2 a2 hm2 mi => by
      refine bX12_line__146 (hS := m_nextW (by omega) (by rw [k2.1.dM]; exact eD) hd a2) (kk := ?_)
      rintro y h3 ⟨k3, g, j', s, w3⟩
      refine bX12_line__150 (kk := ih g j' h3 y m ?_ w3 (k2.tr k3.m) (by rw [hm2]; exact s.1 _) mi)
      have := s.2.2
      omega
    refine bX12_line__104 (kt := fun z => by omega) (kf := fun _ => ?_)
    refine bX12_line__109 (hS := m_answers (by omega) D1 hd a al.1 (by rw [f46]; decide) (by rw [f47]; decide)) (kk := ?_)
    rintro y h2 ⟨⟨k2, -⟩, -, -, hy⟩
    rw [f46, f47, hP] at hy
    have k2' := k1.tr k2.m
    have t0 : h2 98 0 = 0 := by rw [k2'.2]; exact e0
    have a2 : atL D h2 f j := a.same (k2.2 53 (by decide) (by decide) (by decide) (by decide) (by decide)) (k2.1 118 (by decide) (by decide) (by decide) (by decide))
    refine bX12_line__114 (r1 := by rcases hy with z | z <;> omega) (kt := fun q => ?_) (kf := fun q => ?_)
    · rcases hy with ⟨z, -⟩ | ⟨-, z⟩
      · omega
      refine next h2 n _ k2' a2 ?_ hi
      have : inC P f j = 0 := by unfold inC; rw [if_neg (by rw [cl_neg z]; decide)]
      omega
    rcases hy with ⟨-, yP⟩ | ⟨z, -⟩
    rotate_left
    · exact absurd z q
    have p1 : inC P f j = 1 := by unfold inC; rw [if_pos (cl_pos yP)]
    refine bX12_line__117 (kt := fun q2 => ?_) (kf := fun q2 => ?_)
    · exact bX12_line__143 (kk := next h2 (n + 1) _ k2' a2 (by omega) (by omega))
    have f1 := a.1.1
    have p' := preN_nn hd (n := f) (by omega)
    have L := (hd.2.2.2.2.2.2.2.2.2.2.2.2.2.2 f (by omega) f1).1
    have res : ∀ v, partR D f j k v → lineRes D (D 9 o) i k v := fun v hv => by
      refine ⟨f, j, a.bef, Or.inr (Or.inl ⟨i0, by omega, ?_, ?_⟩), hv⟩
      · rw [hP]; exact ⟨f, j, a.bef, yP, rfl⟩
      · rw [hP, cA_at hd f1 j (by have := a.1.2; omega)]; omega
    refine bX12_line__123 (kt := fun q3 => ?_) (kf := fun q3 => ?_)
    · refine bX12_line__134 (kk := bX12_line__142 (hq := ?_))
      rw [← hQ]
      refine ⟨_, rfl, rfl, chk0.tr k2'.1, Or.inl ⟨al, t0, res _ ?_⟩⟩
      by_cases kl : k ≤ D 13 f
      · exact Or.inr (Or.inl ⟨⟨by omega, kl⟩, h2 118, a2.2.2.1, rfl⟩)
      · exact Or.inr (Or.inr ⟨⟨by omega, by omega⟩, a2.2.2.2 _ (by omega) (by omega)⟩)
    · refine bX12_line__127 (kk := bX12_line__142 (hq := ?_))
      rw [← hQ]
      exact ⟨_, rfl, rfl, chk0.tr k2'.1, Or.inl ⟨al, t0, res _ (Or.inl ⟨q3, a2.2.1⟩)⟩⟩
