/-! ===== the class's reader: the lines of a text ===== -/
def RC (h0 h : AH) (g : Int) (T : Int → Int) (n p : Int) (E : DT) (a s m : Int) : Prop := kpRd g h0 h ∧ rdC h g T n p E a s m
def RW (h0 h : AH) (g : Int) (T : Int → Int) (n p : Int) (E : DT) (a s m : Int) : Prop := kpRd g h0 h ∧ rdX h g T n E a s m ∧ h 46 5 = bh T n p ∧ 0 ≤ p ∧ p ≤ n
def FL (h0 h : AH) (g k q : Int) : Prop := kpRd g h0 h ∧ h 46 10 = k ∧ h 46 11 = q
section ReadC
variable {fr : Nat} {h0 h : AH} {g : Int} {T : Int → Int} {n p : Int} {E F : DT} {a s m : Int}
theorem RC.w (r : RC h0 h g T n p E a s m) : RW h0 h g T n p E a s m := ⟨r.1, r.2.1, r.2.2.1.2.2.1, r.2.2.2⟩
theorem RW.w1 (r : RW h0 h g T n p E a s m) {k i v : Int} (k0 : 0 ≤ k) (k1 : k ≤ 14) : RW h0 (up h (h 46 2 + k) i v) g T n p (upD E k i v) a s m := by
  have e := r.2.1.2.1
  have q := r.2.1.uD (k := k) (i := i) (v := v) k0 k1
  rw [e.2]
  exact ⟨r.1.tr q.2, q.1, by rw [up_n (by omega)]; exact r.2.2.1, r.2.2.2⟩
theorem RW.w0 (r : RW h0 h g T n p E a s m) {i v : Int} : RW h0 (up h (h 46 2) i v) g T n p (upD E 0 i v) a s m := by
  have := r.w1 (k := 0) (i := i) (v := v) (by decide) (by decide)
  rw [Int.add_zero] at this
  exact this
theorem RW.eqE (r : RW h0 h g T n p E a s m) (e : E = F) : RW h0 h g T n p F a s m := by rw [← e]; exact r
theorem RW.atw (r : RW h0 h g T n p E a s m) (i : Int) : h (h 46 2) i = E 0 i := by rw [r.2.1.2.1.2]; exact r.2.1.atz i
theorem RW.atk (r : RW h0 h g T n p E a s m) {k : Int} (k0 : 0 ≤ k) (k1 : k ≤ 14) (i : Int) : h (h 46 2 + k) i = E k i := by rw [r.2.1.2.1.2, r.2.1.2.2.1 k k0 k1]
theorem RW.f7 (r : RW h0 h g T n p E a s m) {v : Int} : RW h0 (up h 46 7 v) g T n p E v s m := by
  obtain ⟨k, ⟨⟨t1, t2, t3⟩, ⟨hg, h2⟩, he, e7, e8, e9, e10⟩, e5, pp⟩ := r
  exact ⟨k.tr (fun c a _ => up_n a), ⟨⟨by rw [up_cn (by decide), up_cn (by decide)]; exact t1, t2, by rw [up_n (by decide)]; exact t3⟩, ⟨hg, by rw [up_cn (by decide)]; exact h2⟩, fun k a b => by rw [up_n (by omega)]; exact he k a b, up_ci _ _ _ _, by rw [up_cn (by decide)]; exact e8, by rw [up_cn (by decide)]; exact e9, by rw [up_cn (by decide)]; exact e10⟩, by rw [up_cn (by decide)]; exact e5, pp⟩
theorem RW.f8 (r : RW h0 h g T n p E a s m) {v : Int} : RW h0 (up h 46 8 v) g T n p E a v m := by
  obtain ⟨k, ⟨⟨t1, t2, t3⟩, ⟨hg, h2⟩, he, e7, e8, e9, e10⟩, e5, pp⟩ := r
  exact ⟨k.tr (fun c a _ => up_n a), ⟨⟨by rw [up_cn (by decide), up_cn (by decide)]; exact t1, t2, by rw [up_n (by decide)]; exact t3⟩, ⟨hg, by rw [up_cn (by decide)]; exact h2⟩, fun k a b => by rw [up_n (by omega)]; exact he k a b, by rw [up_cn (by decide)]; exact e7, up_ci _ _ _ _, by rw [up_cn (by decide)]; exact e9, by rw [up_cn (by decide)]; exact e10⟩, by rw [up_cn (by decide)]; exact e5, pp⟩
theorem RW.f9 (r : RW h0 h g T n p E a s m) {v : Int} : RW h0 (up h 46 9 v) g T n p E a s v := by
  obtain ⟨k, ⟨⟨t1, t2, t3⟩, ⟨hg, h2⟩, he, e7, e8, e9, e10⟩, e5, pp⟩ := r
  exact ⟨k.tr (fun c a _ => up_n a), ⟨⟨by rw [up_cn (by decide), up_cn (by decide)]; exact t1, t2, by rw [up_n (by decide)]; exact t3⟩, ⟨hg, by rw [up_cn (by decide)]; exact h2⟩, fun k a b => by rw [up_n (by omega)]; exact he k a b, by rw [up_cn (by decide)]; exact e7, by rw [up_cn (by decide)]; exact e8, up_ci _ _ _ _, by rw [up_cn (by decide)]; exact e10⟩, by rw [up_cn (by decide)]; exact e5, pp⟩
theorem RW.ce (r : RW h0 h g T n p E a s m) : cel 137 (h 46 2) (2, 21) := r.2.1.ce
theorem RC.v6 (r : RC h0 h g T n p E a s m) : h 46 6 = vl T n p := r.2.2.1.2.2.2
theorem RC.v3 (r : RC h0 h g T n p E a s m) : h 46 3 = kd T n p := r.2.2.1.1
theorem RC.v4 (r : RC h0 h g T n p E a s m) : h 46 4 = pl T n p := r.2.2.1.2.1
theorem c_stepW (hf : 1 ≤ fr) (r : RW h0 h g T n p E a s m) : Sp mX6_step true fr 0 0 [zR 46] 137 h (rV (fun h' => RC h0 h' g T n (bh T n p) E a s m)) := by
  have b := bh_rng T r.2.2.2.2
  have q := pl_rng T r.2.2.2.2
  have p0 := r.2.2.2.1
  refine Sp.weak (c_step hf r.2.1 r.2.2.1 (by omega) b.2.1) ?_
  rintro r' n' h' ⟨e1, e2, k, t⟩
  exact ⟨e1, e2, r.1.tr k, t⟩
theorem c_numW {lo hi : Int} (hf : 1 ≤ fr) (rl : R32 lo) (rh : R32 hi) (r : RC h0 h g T n p E a s m) : Sp mX6_isNumber true fr 0 0 [zR 46, zI lo, zI hi] 137 h (rI (fun x h' => (x = 1 ∧ h' = h ∧ numF T n p lo hi = 0) ∨ (x = 0 ∧ numF T n p lo hi ≠ 0 ∧ FL h0 h' g (numF T n p lo hi) (pl T n p)))) := by
  refine Sp.weak (c_isNumber hf rl rh r.2) ?_
  rintro r' n' h' ⟨x, e1, e2, z | ⟨z1, z2, z3⟩⟩
  · exact ⟨x, e1, e2, Or.inl z⟩
  · exact ⟨x, e1, e2, Or.inr ⟨z1, z2, r.1.tr (fun c a _ => z3.1 c a), z3.2⟩⟩
theorem c_sndW (hf : 2 ≤ fr) (hE : 0 ≤ E 0 0 ∧ E 0 0 ≤ 8) (r : RC h0 h g T n p E a s m) : Sp mX6_isToldSound true fr 0 0 [zR 46] 137 h (rI (fun x h' => (x = 1 ∧ h' = h ∧ sndF T n p E = 0) ∨ (x = 0 ∧ sndF T n p E ≠ 0 ∧ FL h0 h' g (sndF T n p E) (pl T n p)))) := by
  refine Sp.weak (c_isToldSound hf hE r.2) ?_
  rintro r' n' h' ⟨x, e1, e2, z | ⟨z1, z2, z3⟩⟩
  · exact ⟨x, e1, e2, Or.inl z⟩
  · exact ⟨x, e1, e2, Or.inr ⟨z1, z2, r.1.tr (fun c a _ => z3.1 c a), z3.2⟩⟩
theorem c_failW {k : Int} (r : RC h0 h g T n p E a s m) : Sp mX6_fail true fr 0 0 [zR 46, zI k] 137 h (rI (fun x h' => x = 0 ∧ FL h0 h' g k (pl T n p))) := by
  refine Sp.weak c_fail ?_
  rintro r' n' h' ⟨x, e1, e2, z1, z3⟩
  rw [r.v4] at z3
  exact ⟨x, e1, e2, z1, r.1.tr (fun c a _ => z3.1 c a), z3.2⟩
theorem c_endW (hf : 2 ≤ fr) (r : RC h0 h g T n p E a s m) : Sp mX6_readEnd true fr 0 0 [zR 46] 137 h (rI (rdP h0 g T n (endR T n p E a s m))) := by
  refine Sp.weak (c_readEnd hf r.2) ?_
  rintro r' n' h' ⟨x, e1, e2, z⟩
  exact ⟨x, e1, e2, z.kp r.1⟩
theorem FL.no {k q : Int} {res : RES} (f : FL h0 h g k q) (hk : k ≠ 0) (e : res = .inl (k, q)) : rdP h0 g T n res 0 h := ⟨f.1, Or.inr ⟨rfl, k, q, e, hk, f.2.1, f.2.2⟩⟩
theorem RC.rf (r : rdC h g T n p E a s m) : RC h h g T n p E a s m := ⟨kpRd.rf g h, r⟩
theorem c_readSound (hf : 5 ≤ fr) (hd : okD E) (r : rdC h g T n p E a s m) : Sp mX6_readSound true fr 0 0 [zR 46] 137 h (rI (rdP h g T n (rSound T n p E a s m))) := by
  refine Sp.mk yX6_readSound_ok rfl rfl ?_
  have r0 := RC.rf r
  have d0 := hd.1
  refine bX6_readSound_0 (c1 := r0.w.ce) (r1 := by rw [r0.w.atw]; omega) (kt := fun q => ?_) (kf := fun q => ?_)
  rotate_left
  · rw [r0.w.atw] at q
    refine bX6_readSound_14 (hS := c_failW r0) (kk := ?_)
    rintro x h1 ⟨rfl, f⟩
    exact bX6_readSound_19 (hq := ⟨_, rfl, rfl, f.no (by decide) (by unfold rSound; rw [if_pos q])⟩)
  rw [r0.w.atw] at q ⊢
  have eS : rSound T n p E a s m = numK T n (bh T n p) 1 99 fun x => numK T n (bh T n (bh T n p)) 0 3 fun y => endR T n (bh T n (bh T n (bh T n p))) (upD (upD (upD E 1 (E 0 0) x) 2 (E 0 0) y) 0 0 (E 0 0 + 1)) a s m := by unfold rSound; rw [if_neg (by omega)]
  rw [eS]
  refine bX6_readSound_20 (hS := c_stepW (by omega) r0.w) (kk := ?_)
  intro h1 r1
  refine bX6_readSound_24 (hS := c_numW (by omega) R32_1 (by constructor <;> decide) r1) (kk := ?_)
  rintro x h2 (⟨rfl, rfl, n1⟩ | ⟨rfl, n1, f⟩)
  rotate_left
  · refine bX6_readSound_31 (kt := fun z => absurd rfl z) (kf := fun _ => ?_)
    exact bX6_readSound_34 (hq := ⟨_, rfl, rfl, f.no n1 (numK_no n1)⟩)
  refine bX6_readSound_31 (kt := fun _ => ?_) (kf := fun z => absurd z (by decide))
  rw [numK_ok n1]
  refine bX6_readSound_36 (c1 := r1.w.ce) (hS := c_stepW (by omega) ((r1.w.w1 (by decide) (by decide)).eqE (F := upD E 1 (E 0 0) (vl T n (bh T n p))) (by rw [r1.v6]))) (kk := ?_)
  intro h3 r3
  refine bX6_readSound_53 (hS := c_numW (by omega) R32_0 (by constructor <;> decide) r3) (kk := ?_)
  rintro x h4 (⟨rfl, rfl, n2⟩ | ⟨rfl, n2, f⟩)
  rotate_left
  · refine bX6_readSound_59 (kt := fun z => absurd rfl z) (kf := fun _ => ?_)
    exact bX6_readSound_62 (hq := ⟨_, rfl, rfl, f.no n2 (numK_no n2)⟩)
  refine bX6_readSound_59 (kt := fun _ => ?_) (kf := fun z => absurd z (by decide))
  rw [numK_ok n2]
  have w1 := r3.w.w1 (k := 2) (i := E 0 0) (v := h4 46 6) (by decide) (by decide)
  refine bX6_readSound_64 (c1 := r3.w.ce) (c2 := w1.ce) (hS := c_stepW (by omega) (w1.w0.eqE (F := upD (upD (upD E 1 (E 0 0) (vl T n (bh T n p))) 2 (E 0 0) (vl T n (bh T n (bh T n p)))) 0 0 (E 0 0 + 1)) (by rw [w1.atw, r3.v6]; rfl))) (kk := ?_)
  intro h5 r5
  refine bX6_readSound_94 (hS := c_endW (by omega) r5) (kk := ?_)
  intro x h6 pr
  exact bX6_readSound_98 (r1 := pr.rng) (hq := ⟨_, rfl, rfl, pr⟩)
theorem c_readStraight (hf : 5 ≤ fr) (hs : s = 0 ∨ s = 1) (r : rdC h g T n p E a s m) : Sp mX6_readStraight true fr 0 0 [zR 46] 137 h (rI (rdP h g T n (rStraight T n p E a s m))) := by
  refine Sp.mk yX6_readStraight_ok rfl rfl ?_
  have r0 := RC.rf r
  have e8 : h 46 8 = s := r.1.2.2.2.2.1
  refine bX6_readStraight_0 (r1 := by rw [e8]; omega) (kt := fun q => ?_) (kf := fun q => ?_)
  rotate_left
  · rw [e8] at q
    refine bX6_readStraight_7 (hS := c_failW r0) (kk := ?_)
    rintro x h1 ⟨rfl, f⟩
    exact bX6_readStraight_12 (hq := ⟨_, rfl, rfl, f.no (by decide) (by unfold rStraight; rw [if_pos q])⟩)
  rw [e8] at q
  have eS : rStraight T n p E a s m = numK T n (bh T n p) 0 40 fun x => numK T n (bh T n (bh T n p)) 0 40 fun y => endR T n (bh T n (bh T n (bh T n p))) (upD (upD E 8 1 x) 8 2 y) a 1 m := by unfold rStraight; rw [if_neg (by omega)]
  rw [eS]
  refine bX6_readStraight_13 (hS := c_stepW (by omega) r0.w.f8) (kk := ?_)
  intro h1 r1
  refine bX6_readStraight_22 (kk := bX6_readStraight_24 (kt := fun z => by omega) (kf := fun _ => ?_))
  refine bX6_readStraight_29 (hS := c_numW (by omega) R32_0 (by constructor <;> decide) r1) (kk := ?_)
  rintro x h2 (⟨rfl, rfl, n1⟩ | ⟨rfl, n1, f⟩)
  rotate_left
  · refine bX6_readStraight_36 (kt := fun z => absurd rfl z) (kf := fun _ => ?_)
    exact bX6_readStraight_39 (hq := ⟨_, rfl, rfl, f.no n1 (numK_no n1)⟩)
  refine bX6_readStraight_36 (kt := fun _ => ?_) (kf := fun z => absurd z (by decide))
  rw [numK_ok n1]
  refine bX6_readStraight_41 (c1 := r1.w.ce) (hS := c_stepW (by omega) ((r1.w.w1 (by decide) (by decide)).eqE (F := upD E 8 1 (vl T n (bh T n p))) (by rw [r1.v6]))) (kk := ?_)
  intro h3 r3
  refine bX6_readStraight_58 (kk := bX6_readStraight_24 (kt := fun z => by omega) (kf := fun _ => ?_))
  refine bX6_readStraight_29 (hS := c_numW (by omega) R32_0 (by constructor <;> decide) r3) (kk := ?_)
  rintro x h4 (⟨rfl, rfl, n2⟩ | ⟨rfl, n2, f⟩)
  rotate_left
  · refine bX6_readStraight_36 (kt := fun z => absurd rfl z) (kf := fun _ => ?_)
    exact bX6_readStraight_39 (hq := ⟨_, rfl, rfl, f.no n2 (numK_no n2)⟩)
  refine bX6_readStraight_36 (kt := fun _ => ?_) (kf := fun z => absurd z (by decide))
  rw [numK_ok n2]
  refine bX6_readStraight_41 (c1 := r3.w.ce) (hS := c_stepW (by omega) ((r3.w.w1 (by decide) (by decide)).eqE (F := upD (upD E 8 1 (vl T n (bh T n p))) 8 2 (vl T n (bh T n (bh T n p)))) (by rw [r3.v6]; rfl))) (kk := ?_)
  intro h5 r5
  refine bX6_readStraight_58 (kk := bX6_readStraight_24 (kt := fun _ => ?_) (kf := fun z => by omega))
  refine bX6_readStraight_64 (hS := c_endW (by omega) r5) (kk := ?_)
  intro x h6 pr
  exact bX6_readStraight_68 (r1 := pr.rng) (hq := ⟨_, rfl, rfl, pr⟩)
theorem c_readAir (hf : 5 ≤ fr) (ha : 0 ≤ a ∧ a < 16777216) (r : rdC h g T n p E a s m) : Sp mX6_readAir true fr 0 0 [zR 46] 137 h (rI (rdP h g T n (rAir T n p E a s m))) := by
  refine Sp.mk yX6_readAir_ok rfl rfl ?_
  have r0 := RC.rf r
  unfold rAir
  refine bX6_readAir_0 (hS := c_stepW (by omega) r0.w) (kk := ?_)
  intro h1 r1
  refine bX6_readAir_4 (hS := c_numW (by omega) R32_0 (by constructor <;> decide) r1) (kk := ?_)
  rintro x h2 (⟨rfl, rfl, n1⟩ | ⟨rfl, n1, f⟩)
  rotate_left
  · refine bX6_readAir_11 (kt := fun z => absurd rfl z) (kf := fun _ => ?_)
    exact bX6_readAir_14 (hq := ⟨_, rfl, rfl, f.no n1 (numK_no n1)⟩)
  refine bX6_readAir_11 (kt := fun _ => ?_) (kf := fun z => absurd z (by decide))
  rw [numK_ok n1]
  have v1 := (numF_ok n1).2.1
  have e7 : h2 46 7 = a := r1.2.1.2.2.2.1
  have el := bit_look (x := a) (s := vl T n (bh T n p)) ha.1 v1.1
  refine bX6_readAir_16 (r1 := by rw [r1.v6]; omega) (r2 := by rw [e7]; omega) (r3 := by rw [e7, r1.v6, el]; split <;> decide) (kt := fun z => ?_) (kf := fun z => ?_)
  rotate_left
  · rw [e7, r1.v6, el] at z
    have bit : bt a (vl T n (bh T n p)).toNat = true := by
      by_cases w : bt a (vl T n (bh T n p)).toNat = true
      · exact w
      · rw [if_neg w] at z; omega
    refine bX6_readAir_32 (hS := c_failW r1) (kk := ?_)
    rintro x h3 ⟨rfl, f⟩
    exact bX6_readAir_37 (hq := ⟨_, rfl, rfl, f.no (by decide) (by rw [if_pos bit])⟩)
  rw [e7, r1.v6, el] at z
  have bit : ¬ bt a (vl T n (bh T n p)).toNat = true := fun w => by rw [if_pos w] at z; omega
  rw [if_neg bit, r1.v6]
  refine bX6_readAir_38 (hS := c_stepW (by omega) r1.w.f7) (kk := ?_)
  intro h3 r3
  rw [e7] at r3
  refine bX6_readAir_54 (hS := c_numW (by omega) R32_0 (by constructor <;> decide) r3) (kk := ?_)
  rintro x h4 (⟨rfl, rfl, n2⟩ | ⟨rfl, n2, f⟩)
  rotate_left
  · refine bX6_readAir_61 (kt := fun z => absurd rfl z) (kf := fun _ => ?_)
    exact bX6_readAir_64 (hq := ⟨_, rfl, rfl, f.no n2 (numK_no n2)⟩)
  refine bX6_readAir_61 (kt := fun _ => ?_) (kf := fun z => absurd z (by decide))
  rw [numK_ok n2]
  refine bX6_readAir_66 (c1 := r3.w.ce) (hS := c_stepW (by omega) ((r3.w.w1 (by decide) (by decide)).eqE (F := upD E 9 (vl T n (bh T n p)) (vl T n (bh T n (bh T n p)))) (by rw [r3.v6]))) (kk := ?_)
  intro h5 r5
  refine bX6_readAir_83 (hS := c_endW (by omega) r5) (kk := ?_)
  intro x h6 pr
  exact bX6_readAir_87 (r1 := pr.rng) (hq := ⟨_, rfl, rfl, pr⟩)
end ReadC
