/-! ===== a call of each side: the rest of the calls that may throw ===== -/
section
variable {h : AH}
theorem k98q (h : AH) (v : Int) : keepQ h (up h 98 0 v) := (keepM.up98 (by unfold perF; omega)).q
theorem t_matching (hr : REL h) {a b i : Int} (ra : R32 a) (rb : R32 b) (ri : R32 i) : TWO mL_matching mX12_matching [zR 1, zI a, zI b, zI i, zR 137] [zR 98, zI a, zI b, zI i] h := by
  have rt := hr.2.2.2.2.2.2.2.1
  refine ⟨_, w_matching (fr := 998) (c_matching (by decide) rt hr.ears.2 ra rb ri) (fun E h' z => z.2.1), fun k h1 hw => ?_⟩
  have key : mS h h1 ∧ REL h1 := by
    rcases hw with ⟨x, hx, -, ⟨e0, -⟩, e1⟩ | ⟨E, -, e1, -⟩
    · rw [e1, e0]; exact ⟨(mS.rf h).out _, hr.same (keepQ.out _ _ _)⟩
    · rw [e1]; exact ⟨mS.rf _, hr⟩
  refine ⟨_, m_matching (fr := 999) (by decide) ra rb ri key.2.mok.2.2.2.2.2.2.2.2.2, fun y h2 hm => ?_⟩
  have P := hr.plc a b
  rw [key.1 128 (by decide) (by decide), ← P] at hm
  rcases hw with ⟨x, hx, k0, ⟨e0, hh⟩, e1⟩ | ⟨E, k1, -, -, nc⟩
  · rcases hm with ⟨hb, e2⟩ | ⟨bad, -⟩
    · exact JP.ok k0 (by rw [e2, up_ci]) (by rw [e2, up_n (by decide), e1, up_ci]) (hh.one hb) (by rw [e2]; exact key.2.same (k98q _ _))
    · exact absurd hh.okk bad
  · rcases hm with ⟨hb, -⟩ | ⟨-, e2⟩
    · exact absurd hb.okk nc
    · exact JP.no (v := 1) k1 (Or.inl rfl) (by rw [e2, up_ci]) (by rw [e2]; exact key.2.same (k98q _ _))
theorem t_moved (hr : REL h) {a b c d st : Int} (ra : R32 a) (rb : R32 b) (rc : R32 c) (rd : R32 d) (rs : R32 st) : TWO mL_moved mX12_moved [zR 1, zI a, zI b, zI c, zI d, zI st, zR 137] [zR 98, zI a, zI b, zI c, zI d, zI st] h := by
  have rt := hr.2.2.2.2.2.2.2.1
  have n := hr.1
  refine ⟨_, w_moved (fr := 998) (c_moved (by decide) rt hr.ears.2 ra rb rc rd rs) (fun E h' z => z.2.1), fun k h1 hw => ?_⟩
  have key : mS h h1 ∧ REL h1 := by
    rcases hw with ⟨x, hx, -, ⟨-, -, kk⟩, e1⟩ | ⟨E, -, e1, -⟩
    · have ret := verR.ret hr.2.2.2.2.2.2.2.2.1
      have gc : ∀ k, 0 ≤ k → k ≤ 14 → hx (h 1 4 + k) = h (h 1 4 + k) := fun k p q => kk _ (by unfold nowR at n; omega)
      have gc0 : hx (h 1 4) = h (h 1 4) := by have := gc 0 (by decide) (by decide); rw [Int.add_zero] at this; exact this
      have q := hr.hear (h1 := hx) (fun c _ _ p _ => kk c p) (retOk_same (kk 47 (by decide)) (kk (47 + 1) (by decide)) (kk (47 + 2) (by decide)) gc0 gc ret.1) (by have z := ret.2; unfold sumZ at z ⊢; rw [kk 54 (by decide)]; exact z)
      rw [e1]; exact ⟨mS.out (fun c p q => kk c (by omega)) _, q.same (keepQ.out _ _ _)⟩
    · rw [e1]; exact ⟨mS.rf _, hr⟩
  refine ⟨_, m_moved (fr := 999) (by decide) ra rb rc rd rs key.2.mok.2.2.2.2.2.2.2.2.2, fun y h2 hm => ?_⟩
  have P1 := hr.plc a b
  have P2 := hr.plc c d
  rw [key.1 128 (by decide) (by decide), ← P1, ← P2] at hm
  rcases hw with ⟨x, hx, k0, ⟨cond, hh, -⟩, e1⟩ | ⟨E, k1, -, -, nc⟩
  · rcases hm with ⟨-, hb, e2⟩ | ⟨bad, -⟩
    · have q : keepQ h1 h2 := by
        have q0 := k98q h1 0
        exact ⟨fun c p => by rw [e2 c (by omega) (by omega)]; exact q0.1 c p, fun c p q r => by rw [e2 c (by unfold perC at r; omega) (by unfold perC at r; omega)]; exact q0.2.1 c p q r, fun i p => by rw [e2 98 (by decide) (by decide)]; exact q0.2.2 i p⟩
      exact JP.ok k0 (by rw [e2 98 (by decide) (by decide), up_ci]) (by rw [e2 137 (by decide) (by decide), up_n (by decide), e1, up_ci]) (by rw [hh, hb, coup_eq]) (key.2.same q)
    · exact absurd cond bad
  · rcases hm with ⟨good, -⟩ | ⟨-, e2⟩
    · exact absurd good nc
    · exact JP.no (v := 1) k1 (Or.inl rfl) (by rw [e2, up_ci]) (by rw [e2]; exact key.2.same (k98q _ _))
theorem t_count (hr : REL h) {q : Int} (rq : R32 q) : TWO mL_count mX12_count [zR 1, zI q, zR 137] [zR 98, zI q] h := by
  refine ⟨_, w_count (fr := 998) (c_count (by decide) rq hr.now) (fun E h' z => z.2.1), fun k h1 hw => ?_⟩
  have key : mS h h1 ∧ REL h1 := by
    rcases hw with ⟨x, hx, -, ⟨e0, -⟩, e1⟩ | ⟨E, -, e1, -⟩
    · rw [e1, e0]; exact ⟨(mS.rf h).out _, hr.same (keepQ.out _ _ _)⟩
    · rw [e1]; exact ⟨mS.rf _, hr⟩
  refine ⟨_, m_count (fr := 999) (by decide) rq key.2.mok.1, fun y h2 hm => ?_⟩
  have em : countM h1 q = countM h q := by unfold countM; rw [key.1.m, key.1.dm, key.1 107 (by decide) (by decide)]
  rw [em] at hm
  rcases hw with ⟨x, hx, k0, ⟨e0, cond, hh⟩, e1⟩ | ⟨E, k1, -, -, nc⟩
  · rcases hm with ⟨-, hb, e2⟩ | ⟨bad, -⟩
    · exact JP.ok k0 (by rw [e2, up_ci]) (by rw [e2, up_n (by decide), e1, up_ci]) (by rw [hh, hb]; exact A_count hr cond) (by rw [e2]; exact key.2.same (k98q _ _))
    · exact absurd cond bad
  · rcases hm with ⟨good, -⟩ | ⟨-, e2⟩
    · exact absurd good nc
    · exact JP.no (v := 1) k1 (Or.inl rfl) (by rw [e2, up_ci]) (by rw [e2]; exact key.2.same (k98q _ _))
theorem t_wall (hr : REL h) {w q : Int} (rw_ : R32 w) (rq : R32 q) : TWO mL_wall mX12_wall [zR 1, zI w, zI q, zR 137] [zR 98, zI w, zI q] h := by
  have e1' : h (h 1 4) 1 = h 98 2 := hr.2.2.2.1.c (i := 1) (by decide)
  refine ⟨_, w_wall (fr := 998) (c_wall (by decide) rw_ rq hr.now) (fun E h' z => z.2.1), fun k h1 hw => ?_⟩
  have key : mS h h1 ∧ REL h1 := by
    rcases hw with ⟨x, hx, -, ⟨e0, -⟩, e1⟩ | ⟨E, -, e1, -⟩
    · rw [e1, e0]; exact ⟨(mS.rf h).out _, hr.same (keepQ.out _ _ _)⟩
    · rw [e1]; exact ⟨mS.rf _, hr⟩
  refine ⟨_, m_wall (fr := 999) (by decide) rw_ rq key.2.mok.1.2.1, fun y h2 hm => ?_⟩
  rw [key.1.m, key.1 100 (by decide) (by decide)] at hm
  rw [e1'] at hw
  rcases hw with ⟨x, hx, k0, ⟨e0, cond, hh⟩, e1⟩ | ⟨E, k1, -, -, nc⟩
  · rcases hm with ⟨-, e2, hb⟩ | ⟨bad, -⟩
    · exact JP.ok k0 (by rw [e2, up_ci]) (by rw [e2, up_n (by decide), e1, up_ci]) (by rw [hh, hb]; exact A_wall hr cond.1 cond.2) (by rw [e2]; exact key.2.same (k98q _ _))
    · exact absurd cond bad
  · rcases hm with ⟨good, -⟩ | ⟨-, e2⟩
    · exact absurd good nc
    · exact JP.no (v := 1) k1 (Or.inl rfl) (by rw [e2, up_ci]) (by rw [e2]; exact key.2.same (k98q _ _))
theorem t_word (hr : REL h) {w q : Int} (rw_ : R32 w) (rq : R32 q) : TWO mL_word mX12_word [zR 1, zI w, zI q, zR 137] [zR 98, zI w, zI q] h := by
  have e1' : h (h 1 4) 2 = h 98 3 := hr.2.2.2.1.c (i := 2) (by decide)
  have okm := hr.2.2.2.1.1
  have hl2 : ∀ w, 0 ≤ w → w < h 98 3 → 1 ≤ h 101 (6 * w + 1) ∧ h 101 (6 * w + 1) ≤ 4 := fun w a b => (okm.2.2.2.2.2.2.2.2.2.2.2.2.2.1 w a b).2.1
  refine ⟨_, w_word (fr := 998) (c_word (by decide) rw_ rq hr.now (fun w a b => by
    rw [e1'] at b
    rw [hr.wordLen a b]; exact hl2 w a b)) (fun E h' z => z.2.1), fun k h1 hw => ?_⟩
  have key : mS h h1 ∧ REL h1 := by
    rcases hw with ⟨x, hx, -, ⟨e0, -⟩, e1⟩ | ⟨E, -, e1, -⟩
    · rw [e1, e0]; exact ⟨(mS.rf h).out _, hr.same (keepQ.out _ _ _)⟩
    · rw [e1]; exact ⟨mS.rf _, hr⟩
  refine ⟨_, m_word (fr := 999) (by decide) rw_ rq key.2.mok.1.2.2.1 (by rw [key.1.m, key.1 101 (by decide) (by decide)]; exact hl2), fun y h2 hm => ?_⟩
  rw [key.1.m, key.1 101 (by decide) (by decide)] at hm
  rw [e1'] at hw
  rcases hw with ⟨x, hx, k0, ⟨e0, cond, hh⟩, e1⟩ | ⟨E, k1, -, -, nc⟩
  · rw [hr.wordLen cond.1.1 cond.1.2] at cond
    rcases hm with ⟨-, e2, hb⟩ | ⟨bad, -⟩
    · exact JP.ok k0 (by rw [e2, up_ci]) (by rw [e2, up_n (by decide), e1, up_ci]) (by rw [hh, hb]; exact A_word hr cond.1 cond.2) (by rw [e2]; exact key.2.same (k98q _ _))
    · exact absurd cond bad
  · rcases hm with ⟨good, -⟩ | ⟨-, e2⟩
    · refine absurd ⟨good.1, good.2.1, ?_⟩ nc
      rw [hr.wordLen good.1.1 good.1.2]; exact good.2.2
    · exact JP.no (v := 1) k1 (Or.inl rfl) (by rw [e2, up_ci]) (by rw [e2]; exact key.2.same (k98q _ _))
theorem t_say (hr : REL h) {s t : Int} (rs : R32 s) (rt : R32 t) : TWO mL_say mX12_say [zR 1, zI s, zI t, zR 137] [zR 98, zI s, zI t] h := by
  have e0' : h (h 1 4) 0 = h 98 1 := hr.2.2.2.1.c (i := 0) (by decide)
  obtain ⟨⟨p1, -, -⟩, ⟨a1, a2, a3, -⟩, -⟩ := id hr.2.2.2.2.2.1
  have okm := hr.mok
  have n8 : h 98 1 ≤ 8 := okm.1.1.2
  refine ⟨_, w_say (fr := 998) (c_say (by decide) rs rt hr.now (by rw [p1]; exact a1) (fun t a b => (a3 t a b).1)) (fun E h' z => z.2.1), fun k h1 hw => ?_⟩
  have ms : mS h h1 := by
    rcases hw with ⟨x, hx, -, ⟨-, ⟨-, -, e0⟩ | ⟨-, -, e0⟩⟩, e1⟩ | ⟨E, -, e1, -⟩
    · rw [e1, e0]; exact mS.out (fun c a b => by rw [up_n (by omega), up_n (by omega), up_n (by omega)]) _
    · rw [e1, e0]; exact mS.out (fun c a b => by rw [up_n (by omega)]) _
    · rw [e1]; exact mS.rf _
  refine ⟨_, m_say (fr := 999) (by decide) rs rt (by rw [ms.m]; exact okm.1.1) (by rw [ms.m]; exact okm.2.2.2.1) (fun k a b => by
    rw [ms.m] at b
    rw [ms 116 (by decide) (by decide), ms 117 (by decide) (by decide)]
    have := okm.2.2.2.2.1 k a b
    constructor <;> constructor <;> omega), fun y h2 hm => ?_⟩
  have iff2 : sayOkM h1 s t ↔ sayOkM h s t := by unfold sayOkM saidIn; rw [ms.m, ms 116 (by decide) (by decide), ms 117 (by decide) (by decide)]
  rw [e0'] at hw
  have m1 : h1 98 1 = h 98 1 := by rw [ms.m]
  have m50 : h1 98 50 = h 98 50 := by rw [ms.m]
  rcases hw with ⟨x, hx, k0, ⟨cond, ⟨ok, ex, e0⟩ | ⟨no, ex, e0⟩⟩, e1⟩ | ⟨E, k1, eh, -, nc⟩
  · have iff1 := say_iff hr.2.2.2.2.2.1 (t := t) n8 cond.1 cond.2
    rcases hm with ⟨-, ⟨-, hb, e2⟩ | ⟨bad, -⟩⟩ | ⟨bad, -⟩
    · refine JP.ok k0 (by rw [e2]; rfl) (by rw [e2]; show h1 137 0 = _; rw [e1, up_ci]) (by rw [ex, hb, m50, p1]) (R_say (h1 := h1) hr cond.1 cond.2 ok (fun c q => by rw [e1, up_n q, e0]) e2)
    · exact absurd (iff2.mpr (iff1.mp ok)) bad
    · exact absurd (by rw [m1]; exact cond) bad
  · have iff1 := say_iff hr.2.2.2.2.2.1 (t := t) n8 cond.1 cond.2
    rcases hm with ⟨-, ⟨good, -⟩ | ⟨-, hb, e2⟩⟩ | ⟨bad, -⟩
    · exact absurd (iff1.mpr (iff2.mp good)) no
    · exact JP.ok k0 (by rw [e2]; rfl) (by rw [e2]; show h1 137 0 = _; rw [e1, up_ci]) (by rw [ex, hb]) (R_refuse (h1 := h1) (i := 1) hr (by decide) (fun c q => by rw [e1, up_n q, e0]) e2)
    · exact absurd (by rw [m1]; exact cond) bad
  · rcases hm with ⟨good, -⟩ | ⟨-, e2⟩
    · exact absurd (by rw [m1] at good; exact good) nc
    · exact JP.no (v := 1) k1 (Or.inl rfl) (by rw [e2, up_ci]) (by rw [e2, eh]; exact hr.same (k98q _ _))
theorem t_tell (hr : REL h) {s : Int} (rs : R32 s) : TWO mL_tell mX12_tell [zR 1, zI s, zR 137] [zR 98, zI s] h := by
  have e0' : h (h 1 4) 0 = h 98 1 := hr.2.2.2.1.c (i := 0) (by decide)
  obtain ⟨⟨-, p3, -⟩, -, ⟨t1, -⟩, -⟩ := id hr.2.2.2.2.2.1
  have okm := hr.mok
  refine ⟨_, w_tell (fr := 998) (c_tell (by decide) rs hr.now (by rw [p3]; exact t1)) (fun E h' z => z.2.1), fun k h1 hw => ?_⟩
  have ms : mS h h1 := by
    rcases hw with ⟨x, hx, -, ⟨-, ⟨-, -, e0⟩ | ⟨-, -, e0⟩⟩, e1⟩ | ⟨E, -, e1, -⟩
    · rw [e1, e0]; exact mS.out (fun c a b => by rw [up_n (by omega)]) _
    · rw [e1, e0]; exact mS.out (fun c a b => by rw [up_n (by omega), up_n (by omega), up_n (by omega), up_n (by omega)]) _
    · rw [e1]; exact mS.rf _
  refine ⟨_, m_tell (fr := 999) (by decide) rs (by rw [ms.m]; exact okm.1.1) (by rw [ms.m]; exact t1), fun y h2 hm => ?_⟩
  rw [e0'] at hw
  have m1 : h1 98 1 = h 98 1 := by rw [ms.m]
  have m68 : h1 98 68 = h 98 68 := by rw [ms.m]
  rcases hw with ⟨x, hx, k0, ⟨cond, ⟨full, ex, e0⟩ | ⟨room, ex, e0⟩⟩, e1⟩ | ⟨E, k1, eh, -, nc⟩
  · rcases hm with ⟨-, ⟨-, hb, e2⟩ | ⟨bad, -⟩⟩ | ⟨bad, -⟩
    · exact JP.ok k0 (by rw [e2]; rfl) (by rw [e2]; show h1 137 0 = _; rw [e1, up_ci]) (by rw [ex, hb]) (R_refuse (h1 := h1) (i := 2) hr (by decide) (fun c q => by rw [e1, up_n q, e0]) e2)
    · omega
    · exact absurd (by rw [m1]; exact cond) bad
  · rcases hm with ⟨-, ⟨bad, -⟩ | ⟨-, hb, e2⟩⟩ | ⟨bad, -⟩
    · omega
    · exact JP.ok k0 (by rw [e2]; rfl) (by rw [e2]; show h1 137 0 = _; rw [e1, up_ci]) (by rw [ex, hb, m68, p3]) (R_tell (h1 := h1) hr cond room (fun c q => by rw [e1, up_n q, e0]) e2)
    · exact absurd (by rw [m1]; exact cond) bad
  · rcases hm with ⟨good, -⟩ | ⟨-, e2⟩
    · exact absurd (by rw [m1] at good; exact good) nc
    · exact JP.no (v := 1) k1 (Or.inl rfl) (by rw [e2, up_ci]) (by rw [e2, eh]; exact hr.same (k98q _ _))
theorem t_sing (hr : REL h) {t s : Int} (rt : R32 t) (rs : R32 s) : TWO mL_sing mX12_sing [zR 1, zI t, zI s, zR 137] [zR 98, zI t, zI s] h := by
  have e0' : h (h 1 4) 0 = h 98 1 := hr.2.2.2.1.c (i := 0) (by decide)
  obtain ⟨⟨-, -, p5⟩, -, -, ⟨r1, -⟩, -⟩ := id hr.2.2.2.2.2.1
  have okm := hr.mok
  refine ⟨_, w_sing (fr := 998) (c_sing (by decide) rt rs hr.now (by rw [p5]; exact r1)) (fun E h' z => z.2.1), fun k h1 hw => ?_⟩
  have ms : mS h h1 := by
    rcases hw with ⟨x, hx, -, ⟨-, -, e0⟩, e1⟩ | ⟨E, -, e1, -⟩
    · rw [e1, e0]; exact mS.out (fun c a b => by rw [up_n (by omega), up_n (by omega)]) _
    · rw [e1]; exact mS.rf _
  refine ⟨_, m_sing (fr := 999) (by decide) rt rs (by rw [ms.m]; exact okm.1.1) (by rw [ms.m]; exact r1), fun y h2 hm => ?_⟩
  rw [e0'] at hw
  have m1 : h1 98 1 = h 98 1 := by rw [ms.m]
  have m66 : h1 98 66 = h 98 66 := by rw [ms.m]
  rcases hw with ⟨x, hx, k0, ⟨cond, ex, e0⟩, e1⟩ | ⟨E, k1, eh, -, nc⟩
  · rcases hm with ⟨-, hb, e2⟩ | ⟨bad, -⟩
    · exact JP.ok k0 (by rw [e2]; rfl) (by rw [e2]; show h1 137 0 = _; rw [e1, up_ci]) (by rw [ex, hb, m66, p5]) (R_sing (h1 := h1) hr cond.1 cond.2 (fun c q => by rw [e1, up_n q, e0]) e2)
    · exact absurd (by rw [m1]; exact cond) bad
  · rcases hm with ⟨good, -⟩ | ⟨-, e2⟩
    · exact absurd (by rw [m1] at good; exact good) nc
    · exact JP.no (v := 1) k1 (Or.inl rfl) (by rw [e2, up_ci]) (by rw [e2, eh]; exact hr.same (k98q _ _))
/-- stand answers yes or no: 0, 1 -/
def TWOb (YL YM : YD) (aw am : List AV) (h : AH) : Prop := ∃ R : Int → AH → Prop, Sp YL true 999 8 48 aw 137 h (rI R) ∧ ∀ k h1, R k h1 → ∃ M : Int → AH → Prop, Sp YM true 999 0 0 am 137 h1 (rI M) ∧ ∀ b h2, M b h2 → JP k b h2 ∧ (k = 0 → b = 0 ∨ b = 1)
theorem t_stand (hr : REL h) {e x y : Int} (re : R32 e) (rx : R32 x) (ry : R32 y) : TWOb mL_stand mX12_stand [zR 1, zI e, zI x, zI y, zR 137] [zR 98, zI e, zI x, zI y] h := by
  refine ⟨_, w_stand (fr := 998) (c_stand (by decide) re rx ry) (fun E h' z => z.2.1) (fun x h' z => by rcases z.2 with ⟨-, q, -⟩ | ⟨-, q, -⟩ <;> omega), fun k h1 hw => ?_⟩
  have ms : mS h h1 := by
    rcases hw with ⟨x, hx, -, ⟨-, ⟨-, -, e0⟩ | ⟨-, -, e0⟩⟩, e1⟩ | ⟨E, -, e1, -⟩
    · rw [e1, e0]; exact mS.out (fun c a b => by rw [up_n (by omega), up_n (by omega)]) _
    · rw [e1, e0]; exact (mS.rf h).out _
    · rw [e1]; exact mS.rf _
  refine ⟨_, m_stand (fr := 999) (by decide) re rx ry, fun b h2 hm => ?_⟩
  rcases hw with ⟨z, hx, k0, ⟨ce, ⟨cond, ex, e0⟩ | ⟨nc, ex, e0⟩⟩, e1⟩ | ⟨E, k1, eh, -, nc⟩
  · rcases hm with ⟨-, ⟨-, hb, e2⟩ | ⟨bad, -⟩⟩ | ⟨bad, -⟩
    · exact ⟨JP.ok k0 (by rw [e2]; rfl) (by rw [e2]; show h1 137 0 = _; rw [e1, up_ci]) (by rw [ex, hb]) (R_stand (h1 := h1) hr ce cond.1 cond.2 (fun c q => by rw [e1, up_n q, e0]) e2), fun _ => by omega⟩
    · exact absurd cond bad
    · exact absurd ce bad
  · rcases hm with ⟨-, ⟨good, -⟩ | ⟨-, hb, e2⟩⟩ | ⟨bad, -⟩
    · exact absurd good nc
    · exact ⟨JP.ok k0 (by rw [e2]; rfl) (by rw [e2]; show h1 137 0 = _; rw [e1, up_ci]) (by rw [ex, hb]) (by rw [e2, e1, e0]; exact (hr.same (keepQ.out _ _ _)).same (k98q _ _)), fun _ => by omega⟩
    · exact absurd ce bad
  · rcases hm with ⟨good, -⟩ | ⟨-, e2⟩
    · exact absurd good nc
    · exact ⟨JP.no (v := 1) k1 (Or.inl rfl) (by rw [e2, up_ci]) (by rw [e2, eh]; exact hr.same (k98q _ _)), fun z => absurd (show (1 : Int) = 0 from k1.symm.trans z) (by decide)⟩
theorem t_gorge (hr : REL h) {n : Int} (rn : R32 n) : TWO mL_gorge mX12_gorge [zR 1, zI n, zR 137] [zR 98, zI n] h := by
  obtain ⟨t0, t1, t2⟩ := id hr.2.1
  refine ⟨_, w_gorge (fr := 998) (c_gorge (T := fun i => h 106 i) (by decide) rn t0 hr.1 (fun i a b => ⟨(t2 i a b).1, (t2 i a b).2.symm⟩)) (fun E h' z => z.2.1), fun k h1 hw => ?_⟩
  have ng : h 1 5 = 4 ∨ h 1 5 = 19 := by have := hr.1; unfold nowR at this; omega
  have ms : mS h h1 := by
    rcases hw with ⟨x, hx, -, ⟨-, E0, -, ⟨-, S, -, -, -, g1⟩ | ⟨-, q, -, g1⟩⟩, e1⟩ | ⟨E, -, e1, -⟩
    · rw [e1]; exact mS.out (fun c a b => g1.1 c (by omega) (by omega) (by omega) (by omega) (by omega) (by omega) (by omega) (by omega) (by omega)) _
    · rw [e1]; exact mS.out (fun c a b => g1.1 c (by omega) (by omega) (by omega) (by omega)) _
    · rw [e1]; exact mS.rf _
  refine ⟨_, m_gorge (fr := 999) (T := fun i => h 106 i) (by decide) rn (by rw [ms.m, t1]; exact t0) (fun i a b => by
    rw [ms.m, t1] at b
    rw [ms 106 (by decide) (by decide)]
    have := (t2 i a b).2
    exact ⟨rfl, by omega, by omega⟩), fun y h2 hm => ?_⟩
  have m16 : h1 98 16 = h 1 1 := by rw [ms.m, t1]
  unfold mgR at hm
  rw [m16] at hm
  rcases hw with ⟨x, hx, k0, ⟨cond, E0, c0, hh⟩, e1⟩ | ⟨E, k1, eh, -, nc⟩
  · rcases hm with ⟨bad, -⟩ | ⟨-, F0, c0', hm⟩
    · exact absurd cond bad
    · have sim := rAll_s (T := fun i => h 106 i) (n := n) 700 0 E0 F0 0 0 0 cond.1 ⟨c0.ok, by decide, Or.inl rfl, Or.inl rfl⟩ (c0.sim c0')
      have kx : ∀ c, c ≠ 137 → h1 c = hx c := fun c q => by rw [e1, up_n q]
      rcases hh with ⟨x0, S, r1, o1, eC, g1⟩ | ⟨x0, q, r1, g1⟩
      · rcases hm with ⟨y0, S', r2, o2, cp, g2⟩ | ⟨y0, q', r2, g2⟩
        · exact JP.ok k0 g2.2.1.1 (by rw [g2.1 137 (by omega) (by decide) (by decide), e1, up_ci]) (by rw [x0, y0]) (R_gorOk hr cond.1 c0 c0' r1 r2 o1 eC g1 h1 kx cp o2 g2)
        · rw [r1, r2] at sim; exact absurd sim (fun z => z)
      · rcases hm with ⟨y0, S', r2, o2, cp, g2⟩ | ⟨y0, q', r2, g2⟩
        · rw [r1, r2] at sim; exact absurd sim (fun z => z)
        · rw [r1, r2] at sim
          have e : (x, q) = (y, q') := sim
          have ex : x = y := congrArg Prod.fst e
          have eq : q = q' := congrArg Prod.snd e
          rw [← eq] at g2
          exact JP.ok k0 g2.2.2.1 (by rw [g2.1 137 (by decide) (by omega), e1, up_ci]) ex (R_gorNo hr g1 h1 kx g2)
  · rcases hm with ⟨-, -, e2⟩ | ⟨good, -⟩
    · exact JP.no (v := 1) k1 (Or.inl rfl) (by rw [e2, up_ci]) (by rw [e2, eh]; exact (hr.same (k98q _ _)).same (k98q _ _))
    · exact absurd good nc
end
