/-! ===== a call of each side: the same is thrown, the same answered, the relation stays ===== -/
def JP (k b : Int) (h2 : AH) : Prop := (0 ≤ k ∧ k ≤ 2) ∧ h2 98 0 = k ∧ (k = 0 → h2 137 0 = i2l b) ∧ REL h2
def TWO (YL YM : YD) (aw am : List AV) (h : AH) : Prop := ∃ R : Int → AH → Prop, Sp YL true 999 8 48 aw 137 h (rI R) ∧ ∀ k h1, R k h1 → ∃ M : Int → AH → Prop, Sp YM true 999 0 0 am 137 h1 (rI M) ∧ ∀ b h2, M b h2 → JP k b h2
theorem JP.ok {k b x : Int} {h2 : AH} (k0 : k = 0) (t0 : h2 98 0 = 0) (e : h2 137 0 = i2l x) (xb : x = b) (rel : REL h2) : JP k b h2 := ⟨by omega, by rw [t0, k0], fun _ => by rw [e, xb], rel⟩
theorem JP.no {k b v : Int} {h2 : AH} (k1 : k = v) (hv : v = 1 ∨ v = 2) (t1 : h2 98 0 = v) (rel : REL h2) : JP k b h2 := ⟨by omega, by rw [t1, k1], fun z => by omega, rel⟩
def mS (h h1 : AH) : Prop := ∀ c, 98 ≤ c → c ≤ 136 → h1 c = h c
section
variable {h h1 : AH}
theorem mS.rf (h : AH) : mS h h := fun _ _ _ => rfl
theorem mS.out (hm : mS h h1) (v : Int) : mS h (up h1 137 0 v) := fun c a b => by rw [up_n (by omega)]; exact hm c a b
theorem mS.m (hm : mS h h1) : h1 98 = h 98 := hm 98 (by decide) (by decide)
theorem mS.dm (hm : mS h h1) : dM h1 = dM h := dM_eq (fun i _ _ => by rw [hm.m]) (fun c a b => hm c (by omega) (by omega))
theorem mS.lam (hm : mS h h1) (e o : Int) : lamM h1 e o = lamM h e o := by
  unfold lamM
  rw [hm.dm, hm.m, hm 104 (by decide) (by decide), hm 116 (by decide) (by decide), hm 117 (by decide) (by decide)]
theorem mS.ampr (hm : mS h h1) : ampR h1 = ampR h := by
  funext s d
  show amp (dM h1) 0 (h1 104 12) 0 (-1) s d = amp (dM h) 0 (h 104 12) 0 (-1) s d
  rw [hm.dm, hm 104 (by decide) (by decide)]
theorem mS.tl (hm : mS h h1) : tlM h1 = tlM h := by
  funext t
  unfold tlM
  rw [hm.m, hm 124 (by decide) (by decide)]
theorem mS.riv (hm : mS h h1) (sh : Int) : RivM h1 sh = RivM h sh := by
  unfold RivM
  rw [hm.dm, hm.tl, hm.m, hm 104 (by decide) (by decide), hm 116 (by decide) (by decide), hm 117 (by decide) (by decide)]
theorem mS.eqm (hm : mS h h1) (sh : Int) : EqM h1 sh = EqM h sh := by
  unfold EqM
  rw [hm.dm, hm.m, hm 104 (by decide) (by decide)]
end
section
variable {h : AH} (hr : REL h)
theorem t_heard (hr : REL h) {e o t : Int} (re : R32 e) (ro : R32 o) (rt : R32 t) : TWO mL_heard mX12_heard [zR 1, zI e, zI o, zI t, zR 137] [zR 98, zI e, zI o, zI t] h := by
  refine ⟨_, w_heard (fr := 998) (c_heard (by decide) re ro rt hr.ear) (fun E h' z => z.2.1), fun k h1 hw => ?_⟩
  have key : mS h h1 ∧ REL h1 := by
    rcases hw with ⟨x, hx, -, ⟨-, -, kh, r, z⟩, e1⟩ | ⟨E, -, e1, -⟩
    · rw [e1]; exact ⟨mS.out (fun c a b => kh c (by omega)) _, (hr.hear (fun c a _ _ _ => kh c a) r z).same (keepQ.out _ _ _)⟩
    · rw [e1]; exact ⟨mS.rf _, hr⟩
  refine ⟨_, m_heard (fr := 999) (by decide) re ro rt key.2.mok, fun b h2 ⟨km, hm⟩ => ?_⟩
  have rel := key.2.same km.q
  have o137 : h2 137 = h1 137 := km.1 137 (by unfold perC; omega)
  rcases hw with ⟨x, hx, k0, ⟨cond, hh, -⟩, e1⟩ | ⟨E, k1, -, -, nc⟩
  · rcases hm with ⟨-, t0, hb⟩ | ⟨bad, -⟩
    · rw [key.1.lam, key.1.m] at hb
      exact JP.ok k0 t0 (by rw [o137, e1, up_ci]) (A_heard hr cond.1 cond.2.1 cond.2.2.1 hh hb) rel
    · exact absurd cond bad
  · rcases hm with ⟨good, -⟩ | ⟨-, t1⟩
    · exact absurd good nc
    · exact JP.no k1 (Or.inl rfl) t1 rel
theorem t_loud (hr : REL h) {e o t s : Int} (re : R32 e) (ro : R32 o) (rt : R32 t) (rs : R32 s) : TWO mL_loud mX12_loud [zR 1, zI e, zI o, zI t, zI s, zR 137] [zR 98, zI e, zI o, zI t, zI s] h := by
  have e0 : h (h 1 4) 0 = h 98 1 := hr.2.2.2.1.c (i := 0) (by decide)
  refine ⟨_, w_loud (fr := 998) (c_loud (by decide) re ro rt rs hr.ear) (fun E h' z => z.2.1), fun k h1 hw => ?_⟩
  have key : mS h h1 ∧ REL h1 := by
    rcases hw with ⟨x, hx, -, ⟨-, -, kh, r, z⟩, e1⟩ | ⟨E, -, e1, -⟩
    · rw [e1]; exact ⟨mS.out (fun c a b => kh c (by omega)) _, (hr.hear (fun c a _ _ _ => kh c a) r z).same (keepQ.out _ _ _)⟩
    · rw [e1]; exact ⟨mS.rf _, hr⟩
  refine ⟨_, m_loud (fr := 999) (by decide) re ro rt rs key.2.mok, fun b h2 ⟨km, hm⟩ => ?_⟩
  have rel := key.2.same km.q
  have o137 : h2 137 = h1 137 := km.1 137 (by unfold perC; omega)
  rw [key.1.m, key.1.lam] at hm
  rcases hw with ⟨x, hx, k0, ⟨cond, hh, -⟩, e1⟩ | ⟨E, k1, -, -, nc⟩
  · rw [e0] at cond
    rcases hm with ⟨-, t0, hb⟩ | ⟨bad, -⟩
    · exact JP.ok k0 t0 (by rw [o137, e1, up_ci]) (by rw [hh, hb]; exact hr.lam cond.1.1 cond.1.2.1 _ _ cond.2.1 cond.2.2) rel
    · exact absurd cond bad
  · rw [e0] at nc
    rcases hm with ⟨good, -⟩ | ⟨-, t1⟩
    · exact absurd good nc
    · exact JP.no k1 (Or.inl rfl) t1 rel
theorem keptV.ms {D : DT} {g : Int} {h h1 : AH} (hk : keptV D g h h1) : mS h h1 := fun c a b => hk.1.1.1 c (by omega) (by omega)
theorem t_lines (hr : REL h) {o q : Int} (ro : R32 o) (rq : R32 q) : TWO mL_lines mX12_lines [zR 1, zI o, zI q, zR 137] [zR 98, zI o, zI q] h := by
  obtain ⟨g, D, v, w⟩ := hr.2.2.2.2.2.2.2.2.1
  refine ⟨_, w_lines (fr := 998) (c_lines (by decide) ro rq v.1 v.2.2.2.1 v.2.2.2.2.1 v.2.2.2.2.2) (fun E h' z => z.2.1), fun k h1 hw => ?_⟩
  have key : mS h h1 ∧ REL h1 := by
    rcases hw with ⟨x, hx, -, ⟨-, -, kk⟩, e1⟩ | ⟨E, -, e1, -⟩
    · rw [e1]; exact ⟨mS.out kk.ms _, (hr.vers v w kk).same (keepQ.out _ _ _)⟩
    · rw [e1]; exact ⟨mS.rf _, hr⟩
  refine ⟨_, m_lines (fr := 999) (by decide) ro rq key.2.mok, fun b h2 ⟨km, hm⟩ => ?_⟩
  have rel := key.2.same km.q
  have o137 : h2 137 = h1 137 := km.1 137 (by unfold perC; omega)
  rw [key.1.dm] at hm
  rcases hw with ⟨x, hx, k0, ⟨cond, hh, -⟩, e1⟩ | ⟨E, k1, -, -, nc⟩
  · rcases hm with ⟨-, t0, hb⟩ | ⟨bad, -⟩
    · exact JP.ok k0 t0 (by rw [o137, e1, up_ci]) (A_lines hr v.2.2.1 cond.1 hh hb) rel
    · exact absurd cond bad
  · rcases hm with ⟨good, -⟩ | ⟨-, t1⟩
    · exact absurd good nc
    · exact JP.no k1 (Or.inl rfl) t1 rel
theorem t_line (hr : REL h) {o i q : Int} (ro : R32 o) (ri : R32 i) (rq : R32 q) : TWO mL_line mX12_line_ [zR 1, zI o, zI i, zI q, zR 137] [zR 98, zI o, zI i, zI q] h := by
  obtain ⟨g, D, v, w⟩ := hr.2.2.2.2.2.2.2.2.1
  refine ⟨_, w_line (fr := 998) (c_lineV (by decide) ro ri rq v.1 v.2.2.2.1 v.2.2.2.2.1 v.2.2.2.2.2) (fun E h' z => z.1), fun k h1 hw => ?_⟩
  have key : mS h h1 ∧ REL h1 := by
    rcases hw with ⟨x, hx, -, ⟨-, -, kk⟩, e1⟩ | ⟨E, -, -, -, kk⟩
    · rw [e1]; exact ⟨mS.out kk.ms _, (hr.vers v w kk).same (keepQ.out _ _ _)⟩
    · exact ⟨kk.ms, hr.vers v w kk⟩
  refine ⟨_, m_line_ (fr := 999) (by decide) ro ri rq key.2.mok, fun b h2 ⟨km, hm⟩ => ?_⟩
  have rel := key.2.same km.q
  have o137 : h2 137 = h1 137 := km.1 137 (by unfold perC; omega)
  rw [key.1.dm] at hm
  rcases hw with ⟨x, hx, k0, ⟨cond, hh, -⟩, e1⟩ | ⟨E, k1, -, nc, -⟩
  · have ok : lineOk D (D 9 o) i := by obtain ⟨g', j', a, b, _⟩ := hh; exact ⟨g', j', a, b⟩
    rcases hm with ⟨-, t0, hb⟩ | ⟨bad, -⟩
    · exact JP.ok k0 t0 (by rw [o137, e1, up_ci]) (A_line hr v.2.2.1 cond.1 hh hb) rel
    · exact absurd ⟨cond, (A_lineOk hr v.2.2.1 cond.1).mp ok⟩ bad
  · rcases hm with ⟨good, -, hb⟩ | ⟨-, t1⟩
    · have ok : lineOk (dM h) (dM h 9 o) i := by obtain ⟨g', j', a, b, _⟩ := hb; exact ⟨g', j', a, b⟩
      exact absurd ⟨good, (A_lineOk hr v.2.2.1 good.1).mpr ok⟩ nc
    · exact JP.no k1 (Or.inl rfl) t1 rel
theorem t_still (hr : REL h) {o q : Int} (ro : R32 o) (rq : R32 q) : TWO mL_still mX12_still [zR 1, zI o, zI q, zR 137] [zR 98, zI o, zI q] h := by
  obtain ⟨g, D, v, w⟩ := hr.2.2.2.2.2.2.2.2.1
  refine ⟨_, w_still (fr := 998) (c_stillV (by decide) ro rq v) (fun E h' z => z.2.imp (fun y => y.1) (fun y => y.1)), fun k h1 hw => ?_⟩
  have key : mS h h1 ∧ REL h1 := by
    rcases hw with ⟨x, hx, -, ⟨-, -, kk⟩, e1⟩ | ⟨E, -, e1, -⟩
    · rw [e1]; exact ⟨mS.out kk.ms _, (hr.vers v w kk).same (keepQ.out _ _ _)⟩
    · rw [e1]; exact ⟨mS.rf _, hr⟩
  refine ⟨_, m_still (fr := 999) (by decide) ro rq key.2.mok, fun b h2 ⟨km, hm⟩ => ?_⟩
  have rel := key.2.same km.q
  have o137 : h2 137 = h1 137 := km.1 137 (by unfold perC; omega)
  rw [key.1.dm] at hm
  rcases hw with ⟨x, hx, k0, ⟨cond, hh, -⟩, e1⟩ | ⟨E, k1, -, ⟨eE, nc⟩ | ⟨eE, co, nc⟩⟩
  · rcases hm with ⟨-, t0, hb⟩ | ⟨bad, -⟩ | ⟨⟨-, bad⟩, -⟩
    · exact JP.ok k0 t0 (by rw [o137, e1, up_ci]) (A_still hr v.2.2.1 cond.1 hh hb) rel
    · exact absurd cond.1 bad
    · exact absurd cond.2 bad
  · rcases hm with ⟨good, -⟩ | ⟨-, t1⟩ | ⟨⟨good, -⟩, -⟩
    · exact absurd good.1 nc
    · exact JP.no (v := 1) (by rw [k1, eE]; rfl) (Or.inl rfl) t1 rel
    · exact absurd good nc
  · rcases hm with ⟨good, -⟩ | ⟨bad, -⟩ | ⟨-, t1⟩
    · exact absurd good.2 nc
    · exact absurd co bad
    · exact JP.no (v := 2) (by rw [k1, eE]; rfl) (Or.inr rfl) t1 rel
theorem t_without (hr : REL h) {o q : Int} (ro : R32 o) (rq : R32 q) : TWO mL_without mX12_without [zR 1, zI o, zI q, zR 137] [zR 98, zI o, zI q] h := by
  obtain ⟨g, D, v, w⟩ := hr.2.2.2.2.2.2.2.2.1
  have eW : dM h 0 1 = D 0 1 := (hr.2.2.2.1.d v.2.2.1).1 1 (by decide) (by decide)
  refine ⟨_, w_without (fr := 998) (c_withoutV (by decide) ro rq hr.now v) (fun E h' z => z.2.1), fun k h1 hw => ?_⟩
  have key : mS h h1 ∧ REL h1 := by
    rcases hw with ⟨x, hx, -, ⟨-, -, kk⟩, e1⟩ | ⟨E, -, e1, -⟩
    · rw [e1]; exact ⟨mS.out kk.ms _, (hr.vers v w kk).same (keepQ.out _ _ _)⟩
    · rw [e1]; exact ⟨mS.rf _, hr⟩
  refine ⟨_, m_without (fr := 999) (by decide) ro rq key.2.mok, fun b h2 ⟨km, hm⟩ => ?_⟩
  have rel := key.2.same km.q
  have o137 : h2 137 = h1 137 := km.1 137 (by unfold perC; omega)
  rw [key.1.dm, eW] at hm
  rcases hw with ⟨x, hx, k0, ⟨cond, hh, -⟩, e1⟩ | ⟨E, k1, -, -, nc⟩
  · rcases hm with ⟨-, t0, hb⟩ | ⟨bad, -⟩
    · exact JP.ok k0 t0 (by rw [o137, e1, up_ci]) (A_still hr v.2.2.1 cond.1 hh hb) rel
    · exact absurd cond bad
  · rcases hm with ⟨good, -⟩ | ⟨-, t1⟩
    · exact absurd good nc
    · exact JP.no k1 (Or.inl rfl) t1 rel
theorem t_lasts (hr : REL h) {o : Int} (ro : R32 o) : TWO mL_lasts mX12_lasts [zR 1, zI o, zR 137] [zR 98, zI o] h := by
  obtain ⟨g, D, v, w⟩ := hr.2.2.2.2.2.2.2.2.1
  refine ⟨_, w_lasts (fr := 998) (c_lastsV (by decide) ro v.1 v.2.2.2.1 v.2.2.2.2.1 v.2.2.2.2.2) (fun E h' z => z.2.1), fun k h1 hw => ?_⟩
  have key : mS h h1 ∧ REL h1 := by
    rcases hw with ⟨x, hx, -, ⟨-, -, kk⟩, e1⟩ | ⟨E, -, e1, -⟩
    · rw [e1]; exact ⟨mS.out kk.ms _, (hr.vers v w kk).same (keepQ.out _ _ _)⟩
    · rw [e1]; exact ⟨mS.rf _, hr⟩
  refine ⟨_, m_lasts (fr := 999) (by decide) ro key.2.mok, fun b h2 ⟨km, hm⟩ => ?_⟩
  have rel := key.2.same km.q
  have o137 : h2 137 = h1 137 := km.1 137 (by unfold perC; omega)
  rw [key.1.dm] at hm
  rcases hw with ⟨x, hx, k0, ⟨cond, hh, -⟩, e1⟩ | ⟨E, k1, -, -, nc⟩
  · rcases hm with ⟨-, t0, hb⟩ | ⟨bad, -⟩
    · exact JP.ok k0 t0 (by rw [o137, e1, up_ci]) (A_lasts hr v.2.2.1 cond hh hb) rel
    · exact absurd cond bad
  · rcases hm with ⟨good, -⟩ | ⟨-, t1⟩
    · exact absurd good nc
    · exact JP.no k1 (Or.inl rfl) t1 rel
theorem t_round (hr : REL h) {q : Int} (rq : R32 q) : TWO mL_round mX12_round [zR 1, zI q, zR 137] [zR 98, zI q] h := by
  have row : rowOk h 34 := by
    have n8 : h 98 1 ≤ 8 := hr.2.2.2.1.1.1.2
    obtain ⟨⟨-, -, a5⟩, -, -, ⟨r1, r2⟩, -⟩ := hr.2.2.2.2.2.1
    refine ⟨by rw [a5]; exact r1, fun i a b => ?_⟩
    have := r2 i a b
    show -1 ≤ h 37 i ∧ h 37 i < 8
    omega
  refine ⟨_, w_round (fr := 998) (c_round (by decide) rq hr.ear row) (fun E h' z => z.1), fun k h1 hw => ?_⟩
  have key : mS h h1 ∧ REL h1 := by
    rcases hw with ⟨x, hx, -, ⟨-, -, kk, r, z⟩, e1⟩ | ⟨E, -, -, -, kk, r, z⟩
    · rw [e1]; exact ⟨mS.out (fun c a b => kk c (by omega) (by omega)) _, (hr.hear (fun c a b _ _ => kk c a b) r z).same (keepQ.out _ _ _)⟩
    · exact ⟨fun c a b => kk c (by omega) (by omega), hr.hear (fun c a b _ _ => kk c a b) r z⟩
  refine ⟨_, m_round (fr := 999) (by decide) rq key.2.mok, fun b h2 ⟨km, hm⟩ => ?_⟩
  have rel := key.2.same km.q
  have o137 : h2 137 = h1 137 := km.1 137 (by unfold perC; omega)
  rcases hw with ⟨x, hx, k0, ⟨cond, hh, -⟩, e1⟩ | ⟨E, k1, -, nc, -⟩
  · rcases hm with ⟨-, t0, hb⟩ | ⟨bad, -⟩
    · rw [key.1.ampr, key.1.m, show sngM h1 = sngM h by unfold sngM; rw [key.1 123 (by decide) (by decide)], key.1 105 (by decide) (by decide)] at hb
      exact JP.ok k0 t0 (by rw [o137, e1, up_ci]) (A_round hr hh hb) rel
    · exact absurd cond bad
  · rcases hm with ⟨good, -⟩ | ⟨-, t1⟩
    · exact absurd good nc
    · exact JP.no k1 (Or.inl rfl) t1 rel
theorem t_rivals (hr : REL h) {sh q : Int} (rs : R32 sh) (rq : R32 q) : TWO mL_rivals mX12_rivals [zR 1, zI sh, zI q, zR 137] [zR 98, zI sh, zI q] h := by
  obtain ⟨g86, gu⟩ := hr.2.2.2.2.2.2.2.2.2.1
  refine ⟨_, w_rivals (fr := 998) (c_rivals (by decide) rs rq hr.ear g86 hr.h36 gu) (fun E h' z => z.2.imp (fun y => y.1) (fun y => y.1)), fun k h1 hw => ?_⟩
  have key : mS h h1 ∧ REL h1 := by
    rcases hw with ⟨x, hx, -, ⟨-, -, ⟨kk, z⟩, r86, gg⟩, e1⟩ | ⟨E, -, e1, -⟩
    · rw [e1]; exact ⟨mS.out (fun c a b => kk c (by omega) (by omega)) _, (hr.gues kk z r86 gg).same (keepQ.out _ _ _)⟩
    · rw [e1]; exact ⟨mS.rf _, hr⟩
  refine ⟨_, m_rivals (fr := 999) (by decide) rs rq key.2.mok, fun b h2 ⟨km, hm⟩ => ?_⟩
  have rel := key.2.same km.q
  have o137 : h2 137 = h1 137 := km.1 137 (by unfold perC; omega)
  rw [key.1.riv, key.1.eqm, key.1.m] at hm
  rcases hw with ⟨x, hx, k0, ⟨cond, hh, -⟩, e1⟩ | ⟨E, k1, -, ⟨eE, nc⟩ | ⟨eE, co, nc⟩⟩
  · rcases hm with ⟨-, t0, hb⟩ | ⟨bad, -⟩ | ⟨-, bad, -⟩
    · exact JP.ok k0 t0 (by rw [o137, e1, up_ci]) (A_rivals hr hh hb) rel
    · exact absurd cond.1 bad
    · exact absurd cond.2 bad
  · rcases hm with ⟨good, -⟩ | ⟨-, t1⟩ | ⟨good, -⟩
    · exact absurd good.1 nc
    · exact JP.no (v := 1) (by rw [k1, eE]; rfl) (Or.inl rfl) t1 rel
    · exact absurd good nc
  · rcases hm with ⟨good, -⟩ | ⟨bad, -⟩ | ⟨-, -, t1⟩
    · exact absurd good.2 nc
    · exact absurd co bad
    · exact JP.no (v := 2) (by rw [k1, eE]; rfl) (Or.inr rfl) t1 rel
theorem t_sayers (hr : REL h) {q : Int} (rq : R32 q) : TWO mL_sayers mX12_sayers [zR 1, zI q, zR 137] [zR 98, zI q] h := by
  refine ⟨_, w_sayers (fr := 998) (c_sayers (by decide) rq hr.ear hr.h36 hr.2.2.2.2.2.2.2.2.2.2) (fun E h' z => z.2.1), fun k h1 hw => ?_⟩
  have key : mS h h1 ∧ REL h1 := by
    rcases hw with ⟨x, hx, -, ⟨-, -, kk, r, z, tt⟩, e1⟩ | ⟨E, -, e1, -⟩
    · rw [e1]; exact ⟨mS.out (fun c a b => kk c (by omega) (by omega)) _, (hr.sayr kk r z tt).same (keepQ.out _ _ _)⟩
    · rw [e1]; exact ⟨mS.rf _, hr⟩
  refine ⟨_, m_sayers (fr := 999) (by decide) rq key.2.mok, fun b h2 ⟨km, hm⟩ => ?_⟩
  have rel := key.2.same km.q
  have o137 : h2 137 = h1 137 := km.1 137 (by unfold perC; omega)
  rw [key.1.ampr, key.1.tl, key.1.m] at hm
  rcases hw with ⟨x, hx, k0, ⟨cond, hh, -⟩, e1⟩ | ⟨E, k1, -, -, nc⟩
  · rcases hm with ⟨-, t0, hb⟩ | ⟨bad, -⟩
    · exact JP.ok k0 t0 (by rw [o137, e1, up_ci]) (A_sayers hr hh hb) rel
    · exact absurd cond bad
  · rcases hm with ⟨good, -⟩ | ⟨-, t1⟩
    · exact absurd good nc
    · exact JP.no k1 (Or.inl rfl) t1 rel
theorem t_code (hr : REL h) {s q : Int} (rs : R32 s) (rq : R32 q) : TWO mL_code mX12_code [zR 1, zI s, zI q, zR 137] [zR 98, zI s, zI q] h := by
  have e0 : h (h 1 4) 0 = h 98 1 := hr.2.2.2.1.c (i := 0) (by decide)
  refine ⟨_, w_code (fr := 998) (c_code (by decide) rs rq hr.ear) (fun E h' z => z.2.1), fun k h1 hw => ?_⟩
  have key : mS h h1 ∧ REL h1 := by
    rcases hw with ⟨x, hx, -, ⟨-, -, kk, r, z⟩, e1⟩ | ⟨E, -, e1, -⟩
    · rw [e1]; exact ⟨mS.out (fun c a b => kk c (by omega) (by omega)) _, (hr.hear (fun c a _ _ d => kk c a d) r z).same (keepQ.out _ _ _)⟩
    · rw [e1]; exact ⟨mS.rf _, hr⟩
  refine ⟨_, m_code (fr := 999) (by decide) rs rq key.2.mok, fun b h2 ⟨km, hm⟩ => ?_⟩
  have rel := key.2.same km.q
  have o137 : h2 137 = h1 137 := km.1 137 (by unfold perC; omega)
  rw [key.1.ampr, key.1.m] at hm
  rcases hw with ⟨x, hx, k0, ⟨cond, hh, -⟩, e1⟩ | ⟨E, k1, -, -, nc⟩
  · have cond2 : (0 ≤ s ∧ s < h 98 1) ∧ 0 ≤ q ∧ q < 18 := by rw [e0] at cond; exact cond
    rcases hm with ⟨-, t0, hb⟩ | ⟨bad, -⟩
    · exact JP.ok k0 t0 (by rw [o137, e1, up_ci]) (A_code hr cond2.1 cond2.2.2 hh hb) rel
    · exact absurd cond2 bad
  · rw [e0] at nc
    rcases hm with ⟨good, -⟩ | ⟨-, t1⟩
    · exact absurd good nc
    · exact JP.no k1 (Or.inl rfl) t1 rel
end
