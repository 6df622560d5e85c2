/-! ===== the class's reader: a line, a text; the class's gorge ===== -/
theorem rAll_end {T : Int → Int} {n q : Int} {E : DT} {a s m : Int} {d : Nat} (h : kd T n q = 0) : rAll T n (d + 1) (q, E, a, s, m) = .inr (q, E, a, s, m) := if_pos h
theorem rAll_ok {T : Int → Int} {n q : Int} {E : DT} {a s m : Int} {d : Nat} {S : PS} (h : kd T n q ≠ 0) (e : rLine T n q E a s m = .inr S) : rAll T n (d + 1) (q, E, a, s, m) = rAll T n d S := by
  show (if kd T n q = 0 then Sum.inr (q, E, a, s, m) else match rLine T n q E a s m with | .inl e => .inl e | .inr S' => rAll T n d S') = _
  rw [if_neg h, e]
theorem rAll_no {T : Int → Int} {n q : Int} {E : DT} {a s m : Int} {d : Nat} {k : Int × Int} (h : kd T n q ≠ 0) (e : rLine T n q E a s m = .inl k) : rAll T n (d + 1) (q, E, a, s, m) = .inl k := by
  show (if kd T n q = 0 then Sum.inr (q, E, a, s, m) else match rLine T n q E a s m with | .inl e => .inl e | .inr S' => rAll T n d S') = _
  rw [if_neg h, e]
section ReadF
variable {fr : Nat} {h0 h : AH} {g : Int} {T : Int → Int} {n p : Int} {E F : DT} {a s m : Int}
theorem c_readLine (hf : 9 ≤ fr) (ho : okS E a s m) (r : rdC h g T n p E a s m) : Sp mX6_readLine true fr 0 0 [zR 46] 137 h (rI (rdP h g T n (rLine T n p E a s m))) := by
  refine Sp.mk yX6_readLine_ok rfl rfl ?_
  have r0 := RC.rf r
  unfold rLine
  refine bX6_readLine_0 (hS := c_spW (i := 0) (by omega) (by decide) r0) (kk := ?_)
  rintro x h1 ⟨e1, hx⟩
  rw [e1]; clear e1 h1
  refine bX6_readLine_6 (r1 := by rcases hx with z | z <;> omega) (kt := fun z => ?_) (kf := fun z => ?_)
  rotate_left
  · rcases hx with ⟨-, y⟩ | ⟨y, -⟩
    rotate_left
    · exact absurd y z
    rw [if_pos (cl_pos y)]
    refine bX6_readLine_9 (hS := c_readSound (by omega) ho.1 r) (kk := ?_)
    intro x h2 pr
    exact bX6_readLine_13 (r1 := pr.rng) (hq := ⟨_, rfl, rfl, pr⟩)
  rcases hx with ⟨y, -⟩ | ⟨-, y⟩
  · omega
  rw [if_neg (by rw [cl_neg y]; decide)]
  clear y z x
  refine bX6_readLine_14 (hS := c_spW (i := 1) (by omega) (by decide) r0) (kk := ?_)
  rintro x h1 ⟨e1, hx⟩
  rw [e1]; clear e1 h1
  refine bX6_readLine_20 (r1 := by rcases hx with z | z <;> omega) (kt := fun z => ?_) (kf := fun z => ?_)
  rotate_left
  · rcases hx with ⟨-, y⟩ | ⟨y, -⟩
    rotate_left
    · exact absurd y z
    rw [if_pos (cl_pos y)]
    refine bX6_readLine_23 (hS := c_readWall (by omega) ho.1 r) (kk := ?_)
    intro x h2 pr
    exact bX6_readLine_27 (r1 := pr.rng) (hq := ⟨_, rfl, rfl, pr⟩)
  rcases hx with ⟨y, -⟩ | ⟨-, y⟩
  · omega
  rw [if_neg (by rw [cl_neg y]; decide)]
  clear y z x
  refine bX6_readLine_28 (hS := c_spW (i := 4) (by omega) (by decide) r0) (kk := ?_)
  rintro x h1 ⟨e1, hx⟩
  rw [e1]; clear e1 h1
  refine bX6_readLine_34 (r1 := by rcases hx with z | z <;> omega) (kt := fun z => ?_) (kf := fun z => ?_)
  rotate_left
  · rcases hx with ⟨-, y⟩ | ⟨y, -⟩
    rotate_left
    · exact absurd y z
    rw [if_pos (cl_pos y)]
    refine bX6_readLine_37 (hS := c_readStraight (by omega) ho.2.2.1 r) (kk := ?_)
    intro x h2 pr
    exact bX6_readLine_41 (r1 := pr.rng) (hq := ⟨_, rfl, rfl, pr⟩)
  rcases hx with ⟨y, -⟩ | ⟨-, y⟩
  · omega
  rw [if_neg (by rw [cl_neg y]; decide)]
  clear y z x
  refine bX6_readLine_42 (hS := c_spW (i := 5) (by omega) (by decide) r0) (kk := ?_)
  rintro x h1 ⟨e1, hx⟩
  rw [e1]; clear e1 h1
  refine bX6_readLine_48 (r1 := by rcases hx with z | z <;> omega) (kt := fun z => ?_) (kf := fun z => ?_)
  rotate_left
  · rcases hx with ⟨-, y⟩ | ⟨y, -⟩
    rotate_left
    · exact absurd y z
    rw [if_pos (cl_pos y)]
    refine bX6_readLine_51 (hS := c_readAir (by omega) ho.2.1 r) (kk := ?_)
    intro x h2 pr
    exact bX6_readLine_55 (r1 := pr.rng) (hq := ⟨_, rfl, rfl, pr⟩)
  rcases hx with ⟨y, -⟩ | ⟨-, y⟩
  · omega
  rw [if_neg (by rw [cl_neg y]; decide)]
  clear y z x
  refine bX6_readLine_56 (hS := c_spW (i := 6) (by omega) (by decide) r0) (kk := ?_)
  rintro x h1 ⟨e1, hx⟩
  rw [e1]; clear e1 h1
  refine bX6_readLine_62 (r1 := by rcases hx with z | z <;> omega) (kt := fun z => ?_) (kf := fun z => ?_)
  rotate_left
  · rcases hx with ⟨-, y⟩ | ⟨y, -⟩
    rotate_left
    · exact absurd y z
    rw [if_pos (cl_pos y)]
    refine bX6_readLine_65 (hS := c_readMask (by omega) ho.2.2.2 r) (kk := ?_)
    intro x h2 pr
    exact bX6_readLine_69 (r1 := pr.rng) (hq := ⟨_, rfl, rfl, pr⟩)
  rcases hx with ⟨y, -⟩ | ⟨-, y⟩
  · omega
  rw [if_neg (by rw [cl_neg y]; decide)]
  clear y z x
  refine bX6_readLine_70 (hS := c_spW (i := 7) (by omega) (by decide) r0) (kk := ?_)
  rintro x h1 ⟨e1, hx⟩
  rw [e1]; clear e1 h1
  refine bX6_readLine_76 (r1 := by rcases hx with z | z <;> omega) (kt := fun z => ?_) (kf := fun z => ?_)
  rotate_left
  · rcases hx with ⟨-, y⟩ | ⟨y, -⟩
    rotate_left
    · exact absurd y z
    rw [if_pos (cl_pos y)]
    refine bX6_readLine_79 (hS := c_readSweet (by omega) ho.1 r) (kk := ?_)
    intro x h2 pr
    exact bX6_readLine_83 (r1 := pr.rng) (hq := ⟨_, rfl, rfl, pr⟩)
  rcases hx with ⟨y, -⟩ | ⟨-, y⟩
  · omega
  rw [if_neg (by rw [cl_neg y]; decide)]
  clear y z x
  refine bX6_readLine_84 (hS := c_spW (i := 8) (by omega) (by decide) r0) (kk := ?_)
  rintro x h1 ⟨e1, hx⟩
  rw [e1]; clear e1 h1
  refine bX6_readLine_90 (r1 := by rcases hx with z | z <;> omega) (kt := fun z => ?_) (kf := fun z => ?_)
  rotate_left
  · rcases hx with ⟨-, y⟩ | ⟨y, -⟩
    rotate_left
    · exact absurd y z
    rw [if_pos (cl_pos y)]
    refine bX6_readLine_93 (hS := c_readWord (by omega) ho.1 r) (kk := ?_)
    intro x h2 pr
    exact bX6_readLine_97 (r1 := pr.rng) (hq := ⟨_, rfl, rfl, pr⟩)
  rcases hx with ⟨y, -⟩ | ⟨-, y⟩
  · omega
  rw [if_neg (by rw [cl_neg y]; decide)]
  clear y z x
  refine bX6_readLine_98 (hS := c_spW (i := 9) (by omega) (by decide) r0) (kk := ?_)
  rintro x h1 ⟨e1, hx⟩
  rw [e1]; clear e1 h1
  refine bX6_readLine_104 (r1 := by rcases hx with z | z <;> omega) (kt := fun z => ?_) (kf := fun z => ?_)
  rotate_left
  · rcases hx with ⟨-, y⟩ | ⟨y, -⟩
    rotate_left
    · exact absurd y z
    rw [if_pos (cl_pos y)]
    refine bX6_readLine_107 (hS := c_readForm (by omega) ho.1 r) (kk := ?_)
    intro x h2 pr
    exact bX6_readLine_111 (r1 := pr.rng) (hq := ⟨_, rfl, rfl, pr⟩)
  rcases hx with ⟨y, -⟩ | ⟨-, y⟩
  · omega
  rw [if_neg (by rw [cl_neg y]; decide)]
  clear y z x
  refine bX6_readLine_112 (hS := c_failW r0) (kk := ?_)
  rintro x h1 ⟨rfl, f⟩
  exact bX6_readLine_117 (hq := ⟨_, rfl, rfl, f.no (by decide) rfl⟩)
/-- nothing is told yet -/
def clrD (D : DT) : Prop := (D 0 0 = 0 ∧ D 0 1 = 0 ∧ D 0 2 = 0 ∧ D 0 3 = 0 ∧ D 0 4 = 1 ∧ D 0 5 = 0 ∧ D 0 6 = 0) ∧ (∀ t, 0 ≤ t → t < 8 → D 3 t = 0) ∧ (∀ e, 0 ≤ e → e < 3 → D 8 e = 0) ∧ ∀ o, 0 ≤ o → o < 24 → D 9 o = 100
theorem clrD.ok {D : DT} (hc : clrD D) : okD D := by
  obtain ⟨⟨a0, a1, a2, a3, a4, a5, a6⟩, b, c, d⟩ := hc
  exact ⟨by omega, by omega, by omega, by omega, by omega, by omega, by omega, fun t t0 t1 => by omega, fun t t0 t1 => by rw [b t t0 t1]; decide, fun w w0 w1 => by omega, fun e e0 e1 => by rw [c e e0 e1]; decide, c 0 (by decide) (by decide), fun o o0 o1 => by rw [d o o0 o1]; decide, fun w w0 w1 => by omega, fun f f0 f1 => by omega⟩
theorem c_clearG (hf : 1 ≤ fr) (hg : g = 4 ∨ g = 19) : Sp mX2_clear true fr 0 0 [zR g] 137 h (rV (fun h' => (∀ c, (c < g ∨ g + 14 < c) → h' c = h c) ∧ clrD (dC h' g))) := by
  refine Sp.mk yX2_clear_ok rfl rfl ?_
  have cg := cel_g hg
  have c3 : cel 137 (g + 3) (100, 8) := by rcases hg with e | e <;> rw [e] <;> exact ⟨by decide, by decide, rfl⟩
  have c8 : cel 137 (g + 8) (100, 3) := by rcases hg with e | e <;> rw [e] <;> exact ⟨by decide, by decide, rfl⟩
  have c9 : cel 137 (g + 9) (100, 24) := by rcases hg with e | e <;> rw [e] <;> exact ⟨by decide, by decide, rfl⟩
  refine bX2_clear_0 (hS := c_fill c3) (kk := ?_)
  rintro h1 rfl
  refine bX2_clear_43 (hS := c_fill c8) (kk := ?_)
  rintro h2 rfl
  refine bX2_clear_51 (hS := c_fill c9) (kk := ?_)
  rintro h3 rfl
  have fn : ∀ {k : AH} {b v : Int} {N : Nat} {c : Int}, c ≠ b → fil k b v N c = k c := fun z => by unfold fil; rw [if_neg z]
  have fi : ∀ {k : AH} {b v : Int} {N : Nat} {i : Int}, 0 ≤ i → i < N → fil k b v N b i = v := fun x y => by unfold fil; rw [if_pos rfl, if_pos ⟨x, y⟩]
  refine bX2_clear_60 (hq := ⟨rfl, rfl, fun c hc => ?_, ⟨?_, ?_, ?_, ?_, ?_, ?_, ?_⟩, fun t t0 t1 => ?_, fun e e0 e1 => ?_, fun o o0 o1 => ?_⟩)
  · rw [fn (by omega), fn (by omega), fn (by omega), up_n (by omega), up_n (by omega), up_n (by omega), up_n (by omega), up_n (by omega), up_n (by omega), up_n (by omega)]
  all_goals first | (rw [dC0]; rw [fn (by omega), fn (by omega), fn (by omega)]; first | (rw [up_ci]) | (rw [up_cn (by decide), up_ci]) | (rw [up_cn (by decide), up_cn (by decide), up_ci]) | (rw [up_cn (by decide), up_cn (by decide), up_cn (by decide), up_ci]) | (rw [up_cn (by decide), up_cn (by decide), up_cn (by decide), up_cn (by decide), up_ci]) | (rw [up_cn (by decide), up_cn (by decide), up_cn (by decide), up_cn (by decide), up_cn (by decide), up_ci]) | (rw [up_cn (by decide), up_cn (by decide), up_cn (by decide), up_cn (by decide), up_cn (by decide), up_cn (by decide), up_ci])) | skip
  · show fil _ (g + 9) 100 24 (g + 3) t = 0
    rw [fn (by omega), fn (by omega), fi t0 (by omega)]
  · show fil _ (g + 9) 100 24 (g + 8) e = 0
    rw [fn (by omega), fi e0 (by omega)]
  · show fil _ (g + 9) 100 24 (g + 9) o = 100
    rw [fi o0 (by omega)]
theorem c_read (hf : 11 ≤ fr) (hg : g = 4 ∨ g = 19) (n0 : 0 ≤ n) (n7 : n ≤ 700) (ht : ∀ i, 0 ≤ i → i < n → (-128 ≤ h 2 i ∧ h 2 i < 128) ∧ h 2 i % 256 = T i) : Sp mX6_read true fr 0 0 [zR 46, zR 2, zI n, zR g] 137 h (rI (fun x h' => kpRd g h h' ∧ ∃ E0, clrD E0 ∧ ((x = 0 ∧ ∃ S : PS, rAll T n 700 (0, E0, 0, 0, 0) = .inr S ∧ (∀ k, 0 ≤ k → k ≤ 14 → h' (g + k) = S.2.1 k) ∧ okD S.2.1) ∨ (x ≠ 0 ∧ ∃ q, rAll T n 700 (0, E0, 0, 0, 0) = .inl (x, q) ∧ h' 46 11 = q)))) := by
  refine Sp.mk yX6_read_ok rfl rfl ?_
  have cg := cel_g hg
  refine bX6_read_0 (c1 := e2) (c2 := cg) (hS := c_clearG (by omega) hg) (kk := ?_)
  rintro h1 ⟨k1, cl1⟩
  have q0 : h1 46 0 = 2 := by rw [k1 46 (by omega), up_cn (by decide), up_cn (by decide), up_ci]
  have q1 : h1 46 1 = n := by rw [k1 46 (by omega), up_cn (by decide), up_ci]; show min n 700 = n; omega
  have q2 : h1 46 2 = g := by rw [k1 46 (by omega), up_ci]
  have kC : ∀ c, c ≠ 46 → (c < g ∨ g + 14 < c) → h1 c = h c := fun c x y => by rw [k1 c y, up_n x, up_n x, up_n x]
  have t2 : h1 2 = h 2 := kC 2 (by decide) (by omega)
  generalize hQ : (rI (fun x h' => kpRd g h h' ∧ ∃ E0, clrD E0 ∧ ((x = 0 ∧ ∃ S : PS, rAll T n 700 (0, E0, 0, 0, 0) = .inr S ∧ (∀ k, 0 ≤ k → k ≤ 14 → h' (g + k) = S.2.1 k) ∧ okD S.2.1) ∨ (x ≠ 0 ∧ ∃ q, rAll T n 700 (0, E0, 0, 0, 0) = .inl (x, q) ∧ h' 46 11 = q)))) = Q
  generalize hh2 : up (up (up (up (up (up h1 46 5 0) 46 7 0) 46 8 0) 46 9 0) 46 10 0) 46 11 (-1) = h2
  have f2 : ∀ j, j ≤ 4 → h2 46 j = h1 46 j := fun j hj => by rw [← hh2, up_cn (by omega), up_cn (by omega), up_cn (by omega), up_cn (by omega), up_cn (by omega), up_cn (by omega)]
  have c2 : ∀ c, c ≠ 46 → h2 c = h1 c := fun c hc => by rw [← hh2, up_n hc, up_n hc, up_n hc, up_n hc, up_n hc, up_n hc]
  have rx : rdX h2 g T n (dC h1 g) 0 0 0 := by
    refine ⟨⟨⟨by rw [f2 0 (by decide)]; exact q0, by rw [f2 1 (by decide)]; exact q1⟩, ⟨n0, n7⟩, by rw [c2 2 (by decide), t2]; exact ht⟩, ⟨hg, by rw [f2 2 (by decide)]; exact q2⟩, fun k x y => c2 _ (by omega), ?_, ?_, ?_, ?_⟩
    · rw [← hh2, up_cn (by decide), up_cn (by decide), up_cn (by decide), up_cn (by decide), up_ci]
    · rw [← hh2, up_cn (by decide), up_cn (by decide), up_cn (by decide), up_ci]
    · rw [← hh2, up_cn (by decide), up_cn (by decide), up_ci]
    · rw [← hh2, up_cn (by decide), up_ci]
  have h25 : h2 46 5 = 0 := by rw [← hh2, up_cn (by decide), up_cn (by decide), up_cn (by decide), up_cn (by decide), up_cn (by decide), up_ci]
  have kp2 : kpRd g h h2 := fun c x y => by rw [c2 c x, kC c x y]
  refine bX6_read_27 (hS := by rw [hh2]; exact c_step (by omega) rx h25 (by decide) n0) (kk := ?_)
  rintro h3 ⟨k3, r3⟩
  refine bX6_read_61 (kk := ?_)
  have kp3 := kp2.tr k3
  -- the end
  have good : ∀ (h4 : AH) (S : PS) (x1 x2 x3 x4 x5 : AV), kpRd g h h4 → rdX h4 g T n S.2.1 S.2.2.1 S.2.2.2.1 S.2.2.2.2 → okD S.2.1 → rAll T n 700 (0, dC h1 g, 0, 0, 0) = .inr S → Wp mX6_read (kR fr 0 0) Q (0, 0) 99 [zR 46, x1, x2, x3, x4, x5] [] 137 h4 := fun h4 S _ _ _ _ _ k4 r4 o4 e => by
    refine bX6_read_99 (hq := ?_)
    rw [← hQ]
    exact ⟨_, rfl, rfl, k4, dC h1 g, cl1, Or.inl ⟨r4.2.2.2.2.2.2, S, e, r4.2.2.1, o4⟩⟩
  suffices L : ∀ (d l : Nat) (h4 : AH) (q : Int) (E1 : DT) (a1 s1 m1 : Int) (x1 x2 x3 : AV), l + d = 700 → kpRd g h h4 → rdC h4 g T n q E1 a1 s1 m1 → okS E1 a1 s1 m1 → rAll T n 700 (0, dC h1 g, 0, 0, 0) = rAll T n d (q, E1, a1, s1, m1) → Wp mX6_read (kR fr 0 0) Q (0, 0) 67 [zR 46, x1, x2, x3, zI 1, zI l] [] 137 h4 by
    exact L 700 0 h3 0 _ 0 0 0 _ _ _ (by omega) kp3 r3 ⟨cl1.ok, by decide, Or.inl rfl, Or.inl rfl⟩ rfl
  intro d
  induction d with
  | zero =>
    intro l h4 q E1 a1 s1 m1 x1 x2 x3 hl k4 r4 o4 e
    refine bX6_read_67 (kt := fun _ => good h4 (q, E1, a1, s1, m1) _ _ _ _ _ k4 r4.1 o4.1 e) (kf := fun z => by omega)
  | succ d ih =>
    intro l h4 q E1 a1 s1 m1 x1 x2 x3 hl k4 r4 o4 e
    have k3 := r4.2.1.1
    have kr := kd_rng T n q
    refine bX6_read_67 (kt := fun z => by omega) (kf := fun _ => ?_)
    refine bX6_read_75 (kt := fun z => absurd z (by decide)) (kf := fun _ => ?_)
    refine bX6_read_80 (r1 := by rw [k3]; omega) (kt := fun z => ?_) (kf := fun z => ?_)
    · rw [k3] at z
      rw [rAll_end z] at e
      exact good h4 (q, E1, a1, s1, m1) _ _ _ _ _ k4 r4.1 o4.1 e
    rw [k3] at z
    refine bX6_read_87 (hS := c_readLine (by omega) o4 r4) (kk := ?_)
    rintro x h5 ⟨k5, pr⟩
    refine bX6_read_91 (kk := ?_)
    rcases pr with ⟨rfl, p5, E5, a5, s5, m5, e5, r5⟩ | ⟨rfl, k, qq, e5, nk, f1, f2⟩
    · have gd := rLine_good r4.2.2.2 o4 e5
      rw [rAll_ok z e5] at e
      rw [show (l : Int) + 1 = ((l + 1 : Nat) : Int) by omega]
      exact ih (l + 1) h5 p5 E5 a5 s5 m5 _ _ _ (by omega) (k4.tr k5) r5 gd.1.1 e
    · rw [rAll_no z e5] at e
      have fin : ∀ (x1 x2 x3 x4 x5 : AV), Wp mX6_read (kR fr 0 0) Q (0, 0) 99 [zR 46, x1, x2, x3, x4, x5] [] 137 h5 := fun _ _ _ _ _ => by
        refine bX6_read_99 (hq := ?_)
        rw [← hQ]
        exact ⟨_, rfl, rfl, k4.tr k5, dC h1 g, cl1, Or.inr ⟨by rw [f1]; exact nk, qq, by rw [e, f1], f2⟩⟩
      refine bX6_read_67 (kt := fun _ => fin _ _ _ _ _) (kf := fun _ => ?_)
      exact bX6_read_75 (kt := fun _ => fin _ _ _ _ _) (kf := fun z => absurd rfl z)
end ReadF
