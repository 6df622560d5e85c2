/-! ===== the law's cases ===== -/
theorem s_ifeq0 {Y : YD} {k : KD} {Q : RS → Nat → AH → Prop} {b : Nat × Nat} {pc : Nat} {ls st : List AV} {n : Nat} {h : AH} {off : Int} {tgt : Nat} (hd : decode Y.cd pc = .ok (.ifCond .eq off, 3)) (ht : (pc : Int) + off = (tgt : Int)) (kt : Wp Y k Q b tgt ls st n h) : Wp Y k Q b pc ls (zI 0 :: st) n h := s_if_eq hd ht R32_0 (fun _ => kt) (fun q => absurd rfl q)
section
variable {L b1 b2 : Nat} {xs : Nat → Int} {Q : RS → Nat → AH → Prop} {h : AH} {i : Int} {x5 x6 : AV}
-- feed [164, 198, 232, 235] [195, 229]
theorem K_gorge (hL : L < 4000) (hx : ∀ j, R32 (xs j)) (i0 : 0 ≤ i) (i1 : i + 5 < L) (g1 : 8 ≤ b1) (g2 : 48 ≤ b2) (hr : REL h) (kk : ∀ h2, REL h2 → Wp mL_law (kL L xs) Q (b1 - 8, b2 - 48) 1771 [zR (-100), zR 1, zR 98, zR 137, zI i, none, none] [] 137 h2) : Wp mL_law (kL L xs) Q (b1, b2) 237 [zR (-100), zR 1, zR 98, zR 137, zI i, x5, x6] [] 137 h := by
  obtain ⟨R, hS, hk⟩ := t_gorge hr (hx (i + 1).toNat)
  refine bL_law_237 (hL := hL) (hS := hS) (g1 := g1) (g2 := g2) (kk := fun k h1 hR => ?_)
  obtain ⟨M, hS2, hj⟩ := hk k h1 hR
  refine bL_law_248 (hL := hL) (hS := hS2) (kk := fun b h2 hM => ?_)
  obtain ⟨k02, th, ou, rel⟩ := hj b h2 hM
  refine bL_law_260 (hL := hL) (hS := m_thrown) (kk := fun t h3 z => ?_)
  obtain ⟨e3, et⟩ := z
  rw [e3, et, th]
  refine bL_law_266 (hL := hL) (r1 := by omega) (r2 := by omega) (kf := fun q => absurd rfl q) (kt := fun _ => ?_)
  refine bL_law_273 (hL := hL) (r1 := by omega) (kt := fun _ => bL_law_290 (hL := hL) (kk := kk h2 rel)) (kf := fun q => ?_)
  refine bL_law_278 (hL := hL) (r1 := cmp_rng _ _) (kt := fun _ => bL_law_290 (hL := hL) (kk := kk h2 rel)) (kf := fun z => ?_)
  exact absurd (by rw [ou q]; exact lg_self _) z
-- fault [293, 297, 301, 304] [294, 298]
theorem K_count (hL : L < 4000) (hx : ∀ j, R32 (xs j)) (i0 : 0 ≤ i) (i1 : i + 5 < L) (g1 : 8 ≤ b1) (g2 : 48 ≤ b2) (hr : REL h) (kk : ∀ h2, REL h2 → Wp mL_law (kL L xs) Q (b1 - 8, b2 - 48) 1771 [zR (-100), zR 1, zR 98, zR 137, zI i, none, none] [] 137 h2) : Wp mL_law (kL L xs) Q (b1, b2) 306 [zR (-100), zR 1, zR 98, zR 137, zI i, x5, x6] [] 137 h := by
  obtain ⟨R, hS, hk⟩ := t_count hr (hx (i + 1).toNat)
  refine bL_law_306 (hL := hL) (hS := hS) (g1 := g1) (g2 := g2) (kk := fun k h1 hR => ?_)
  obtain ⟨M, hS2, hj⟩ := hk k h1 hR
  refine bL_law_317 (hL := hL) (hS := hS2) (kk := fun b h2 hM => ?_)
  obtain ⟨k02, th, ou, rel⟩ := hj b h2 hM
  refine bL_law_329 (hL := hL) (hS := m_thrown) (kk := fun t h3 z => ?_)
  obtain ⟨e3, et⟩ := z
  rw [e3, et, th]
  refine bL_law_335 (hL := hL) (r1 := by omega) (r2 := by omega) (kf := fun q => absurd rfl q) (kt := fun _ => ?_)
  refine bL_law_342 (hL := hL) (r1 := by omega) (kt := fun _ => bL_law_359 (hL := hL) (kk := kk h2 rel)) (kf := fun q => ?_)
  refine bL_law_347 (hL := hL) (r1 := cmp_rng _ _) (kt := fun _ => bL_law_359 (hL := hL) (kk := kk h2 rel)) (kf := fun z => ?_)
  exact absurd (by rw [ou q]; exact lg_self _) z
theorem K_wall (hL : L < 4000) (hx : ∀ j, R32 (xs j)) (i0 : 0 ≤ i) (i1 : i + 5 < L) (g1 : 8 ≤ b1) (g2 : 48 ≤ b2) (hr : REL h) (kk : ∀ h2, REL h2 → Wp mL_law (kL L xs) Q (b1 - 8, b2 - 48) 1771 [zR (-100), zR 1, zR 98, zR 137, zI i, none, none] [] 137 h2) : Wp mL_law (kL L xs) Q (b1, b2) 362 [zR (-100), zR 1, zR 98, zR 137, zI i, x5, x6] [] 137 h := by
  obtain ⟨R, hS, hk⟩ := t_wall hr (hx (i + 1).toNat) (hx (i + 2).toNat)
  refine bL_law_362 (hL := hL) (hS := hS) (g1 := g1) (g2 := g2) (kk := fun k h1 hR => ?_)
  obtain ⟨M, hS2, hj⟩ := hk k h1 hR
  refine bL_law_379 (hL := hL) (hS := hS2) (kk := fun b h2 hM => ?_)
  obtain ⟨k02, th, ou, rel⟩ := hj b h2 hM
  refine bL_law_397 (hL := hL) (hS := m_thrown) (kk := fun t h3 z => ?_)
  obtain ⟨e3, et⟩ := z
  rw [e3, et, th]
  refine bL_law_403 (hL := hL) (r1 := by omega) (r2 := by omega) (kf := fun q => absurd rfl q) (kt := fun _ => ?_)
  refine bL_law_410 (hL := hL) (r1 := by omega) (kt := fun _ => bL_law_427 (hL := hL) (kk := kk h2 rel)) (kf := fun q => ?_)
  refine bL_law_415 (hL := hL) (r1 := cmp_rng _ _) (kt := fun _ => bL_law_427 (hL := hL) (kk := kk h2 rel)) (kf := fun z => ?_)
  exact absurd (by rw [ou q]; exact lg_self _) z
theorem K_word (hL : L < 4000) (hx : ∀ j, R32 (xs j)) (i0 : 0 ≤ i) (i1 : i + 5 < L) (g1 : 8 ≤ b1) (g2 : 48 ≤ b2) (hr : REL h) (kk : ∀ h2, REL h2 → Wp mL_law (kL L xs) Q (b1 - 8, b2 - 48) 1771 [zR (-100), zR 1, zR 98, zR 137, zI i, none, none] [] 137 h2) : Wp mL_law (kL L xs) Q (b1, b2) 430 [zR (-100), zR 1, zR 98, zR 137, zI i, x5, x6] [] 137 h := by
  obtain ⟨R, hS, hk⟩ := t_word hr (hx (i + 1).toNat) (hx (i + 2).toNat)
  refine bL_law_430 (hL := hL) (hS := hS) (g1 := g1) (g2 := g2) (kk := fun k h1 hR => ?_)
  obtain ⟨M, hS2, hj⟩ := hk k h1 hR
  refine bL_law_447 (hL := hL) (hS := hS2) (kk := fun b h2 hM => ?_)
  obtain ⟨k02, th, ou, rel⟩ := hj b h2 hM
  refine bL_law_465 (hL := hL) (hS := m_thrown) (kk := fun t h3 z => ?_)
  obtain ⟨e3, et⟩ := z
  rw [e3, et, th]
  refine bL_law_471 (hL := hL) (r1 := by omega) (r2 := by omega) (kf := fun q => absurd rfl q) (kt := fun _ => ?_)
  refine bL_law_478 (hL := hL) (r1 := by omega) (kt := fun _ => bL_law_495 (hL := hL) (kk := kk h2 rel)) (kf := fun q => ?_)
  refine bL_law_483 (hL := hL) (r1 := cmp_rng _ _) (kt := fun _ => bL_law_495 (hL := hL) (kk := kk h2 rel)) (kf := fun z => ?_)
  exact absurd (by rw [ou q]; exact lg_self _) z
theorem K_say (hL : L < 4000) (hx : ∀ j, R32 (xs j)) (i0 : 0 ≤ i) (i1 : i + 5 < L) (g1 : 8 ≤ b1) (g2 : 48 ≤ b2) (hr : REL h) (kk : ∀ h2, REL h2 → Wp mL_law (kL L xs) Q (b1 - 8, b2 - 48) 1771 [zR (-100), zR 1, zR 98, zR 137, zI i, none, none] [] 137 h2) : Wp mL_law (kL L xs) Q (b1, b2) 498 [zR (-100), zR 1, zR 98, zR 137, zI i, x5, x6] [] 137 h := by
  obtain ⟨R, hS, hk⟩ := t_say hr (hx (i + 1).toNat) (hx (i + 2).toNat)
  refine bL_law_498 (hL := hL) (hS := hS) (g1 := g1) (g2 := g2) (kk := fun k h1 hR => ?_)
  obtain ⟨M, hS2, hj⟩ := hk k h1 hR
  refine bL_law_515 (hL := hL) (hS := hS2) (kk := fun b h2 hM => ?_)
  obtain ⟨k02, th, ou, rel⟩ := hj b h2 hM
  refine bL_law_533 (hL := hL) (hS := m_thrown) (kk := fun t h3 z => ?_)
  obtain ⟨e3, et⟩ := z
  rw [e3, et, th]
  refine bL_law_539 (hL := hL) (r1 := by omega) (r2 := by omega) (kf := fun q => absurd rfl q) (kt := fun _ => ?_)
  refine bL_law_546 (hL := hL) (r1 := by omega) (kt := fun _ => bL_law_563 (hL := hL) (kk := kk h2 rel)) (kf := fun q => ?_)
  refine bL_law_551 (hL := hL) (r1 := cmp_rng _ _) (kt := fun _ => bL_law_563 (hL := hL) (kk := kk h2 rel)) (kf := fun z => ?_)
  exact absurd (by rw [ou q]; exact lg_self _) z
-- hush [566, 570, 574, 577] [567, 571]
theorem K_heard (hL : L < 4000) (hx : ∀ j, R32 (xs j)) (i0 : 0 ≤ i) (i1 : i + 5 < L) (g1 : 8 ≤ b1) (g2 : 48 ≤ b2) (hr : REL h) (kk : ∀ h2, REL h2 → Wp mL_law (kL L xs) Q (b1 - 8, b2 - 48) 1771 [zR (-100), zR 1, zR 98, zR 137, zI i, none, none] [] 137 h2) : Wp mL_law (kL L xs) Q (b1, b2) 579 [zR (-100), zR 1, zR 98, zR 137, zI i, x5, x6] [] 137 h := by
  obtain ⟨R, hS, hk⟩ := t_heard hr (hx (i + 1).toNat) (hx (i + 2).toNat) (hx (i + 3).toNat)
  refine bL_law_579 (hL := hL) (hS := hS) (g1 := g1) (g2 := g2) (kk := fun k h1 hR => ?_)
  obtain ⟨M, hS2, hj⟩ := hk k h1 hR
  refine bL_law_602 (hL := hL) (hS := hS2) (kk := fun b h2 hM => ?_)
  obtain ⟨k02, th, ou, rel⟩ := hj b h2 hM
  refine bL_law_626 (hL := hL) (hS := m_thrown) (kk := fun t h3 z => ?_)
  obtain ⟨e3, et⟩ := z
  rw [e3, et, th]
  refine bL_law_632 (hL := hL) (r1 := by omega) (r2 := by omega) (kf := fun q => absurd rfl q) (kt := fun _ => ?_)
  refine bL_law_639 (hL := hL) (r1 := by omega) (kt := fun _ => bL_law_656 (hL := hL) (kk := kk h2 rel)) (kf := fun q => ?_)
  refine bL_law_644 (hL := hL) (r1 := cmp_rng _ _) (kt := fun _ => bL_law_656 (hL := hL) (kk := kk h2 rel)) (kf := fun z => ?_)
  exact absurd (by rw [ou q]; exact lg_self _) z
theorem K_loud (hL : L < 4000) (hx : ∀ j, R32 (xs j)) (i0 : 0 ≤ i) (i1 : i + 5 < L) (g1 : 8 ≤ b1) (g2 : 48 ≤ b2) (hr : REL h) (kk : ∀ h2, REL h2 → Wp mL_law (kL L xs) Q (b1 - 8, b2 - 48) 1771 [zR (-100), zR 1, zR 98, zR 137, zI i, none, none] [] 137 h2) : Wp mL_law (kL L xs) Q (b1, b2) 659 [zR (-100), zR 1, zR 98, zR 137, zI i, x5, x6] [] 137 h := by
  obtain ⟨R, hS, hk⟩ := t_loud hr (hx (i + 1).toNat) (hx (i + 2).toNat) (hx (i + 3).toNat) (hx (i + 4).toNat)
  refine bL_law_659 (hL := hL) (hS := hS) (g1 := g1) (g2 := g2) (kk := fun k h1 hR => ?_)
  obtain ⟨M, hS2, hj⟩ := hk k h1 hR
  refine bL_law_688 (hL := hL) (hS := hS2) (kk := fun b h2 hM => ?_)
  obtain ⟨k02, th, ou, rel⟩ := hj b h2 hM
  refine bL_law_718 (hL := hL) (hS := m_thrown) (kk := fun t h3 z => ?_)
  obtain ⟨e3, et⟩ := z
  rw [e3, et, th]
  refine bL_law_724 (hL := hL) (r1 := by omega) (r2 := by omega) (kf := fun q => absurd rfl q) (kt := fun _ => ?_)
  refine bL_law_731 (hL := hL) (r1 := by omega) (kt := fun _ => bL_law_748 (hL := hL) (kk := kk h2 rel)) (kf := fun q => ?_)
  refine bL_law_736 (hL := hL) (r1 := cmp_rng _ _) (kt := fun _ => bL_law_748 (hL := hL) (kk := kk h2 rel)) (kf := fun z => ?_)
  exact absurd (by rw [ou q]; exact lg_self _) z
theorem K_lines (hL : L < 4000) (hx : ∀ j, R32 (xs j)) (i0 : 0 ≤ i) (i1 : i + 5 < L) (g1 : 8 ≤ b1) (g2 : 48 ≤ b2) (hr : REL h) (kk : ∀ h2, REL h2 → Wp mL_law (kL L xs) Q (b1 - 8, b2 - 48) 1771 [zR (-100), zR 1, zR 98, zR 137, zI i, none, none] [] 137 h2) : Wp mL_law (kL L xs) Q (b1, b2) 751 [zR (-100), zR 1, zR 98, zR 137, zI i, x5, x6] [] 137 h := by
  obtain ⟨R, hS, hk⟩ := t_lines hr (hx (i + 1).toNat) (hx (i + 2).toNat)
  refine bL_law_751 (hL := hL) (hS := hS) (g1 := g1) (g2 := g2) (kk := fun k h1 hR => ?_)
  obtain ⟨M, hS2, hj⟩ := hk k h1 hR
  refine bL_law_768 (hL := hL) (hS := hS2) (kk := fun b h2 hM => ?_)
  obtain ⟨k02, th, ou, rel⟩ := hj b h2 hM
  refine bL_law_786 (hL := hL) (hS := m_thrown) (kk := fun t h3 z => ?_)
  obtain ⟨e3, et⟩ := z
  rw [e3, et, th]
  refine bL_law_792 (hL := hL) (r1 := by omega) (r2 := by omega) (kf := fun q => absurd rfl q) (kt := fun _ => ?_)
  refine bL_law_799 (hL := hL) (r1 := by omega) (kt := fun _ => bL_law_816 (hL := hL) (kk := kk h2 rel)) (kf := fun q => ?_)
  refine bL_law_804 (hL := hL) (r1 := cmp_rng _ _) (kt := fun _ => bL_law_816 (hL := hL) (kk := kk h2 rel)) (kf := fun z => ?_)
  exact absurd (by rw [ou q]; exact lg_self _) z
theorem K_line (hL : L < 4000) (hx : ∀ j, R32 (xs j)) (i0 : 0 ≤ i) (i1 : i + 5 < L) (g1 : 8 ≤ b1) (g2 : 48 ≤ b2) (hr : REL h) (kk : ∀ h2, REL h2 → Wp mL_law (kL L xs) Q (b1 - 8, b2 - 48) 1771 [zR (-100), zR 1, zR 98, zR 137, zI i, none, none] [] 137 h2) : Wp mL_law (kL L xs) Q (b1, b2) 819 [zR (-100), zR 1, zR 98, zR 137, zI i, x5, x6] [] 137 h := by
  obtain ⟨R, hS, hk⟩ := t_line hr (hx (i + 1).toNat) (hx (i + 2).toNat) (hx (i + 3).toNat)
  refine bL_law_819 (hL := hL) (hS := hS) (g1 := g1) (g2 := g2) (kk := fun k h1 hR => ?_)
  obtain ⟨M, hS2, hj⟩ := hk k h1 hR
  refine bL_law_842 (hL := hL) (hS := hS2) (kk := fun b h2 hM => ?_)
  obtain ⟨k02, th, ou, rel⟩ := hj b h2 hM
  refine bL_law_866 (hL := hL) (hS := m_thrown) (kk := fun t h3 z => ?_)
  obtain ⟨e3, et⟩ := z
  rw [e3, et, th]
  refine bL_law_872 (hL := hL) (r1 := by omega) (r2 := by omega) (kf := fun q => absurd rfl q) (kt := fun _ => ?_)
  refine bL_law_879 (hL := hL) (r1 := by omega) (kt := fun _ => bL_law_896 (hL := hL) (kk := kk h2 rel)) (kf := fun q => ?_)
  refine bL_law_884 (hL := hL) (r1 := cmp_rng _ _) (kt := fun _ => bL_law_896 (hL := hL) (kk := kk h2 rel)) (kf := fun z => ?_)
  exact absurd (by rw [ou q]; exact lg_self _) z
theorem K_still (hL : L < 4000) (hx : ∀ j, R32 (xs j)) (i0 : 0 ≤ i) (i1 : i + 5 < L) (g1 : 8 ≤ b1) (g2 : 48 ≤ b2) (hr : REL h) (kk : ∀ h2, REL h2 → Wp mL_law (kL L xs) Q (b1 - 8, b2 - 48) 1771 [zR (-100), zR 1, zR 98, zR 137, zI i, none, none] [] 137 h2) : Wp mL_law (kL L xs) Q (b1, b2) 899 [zR (-100), zR 1, zR 98, zR 137, zI i, x5, x6] [] 137 h := by
  obtain ⟨R, hS, hk⟩ := t_still hr (hx (i + 1).toNat) (hx (i + 2).toNat)
  refine bL_law_899 (hL := hL) (hS := hS) (g1 := g1) (g2 := g2) (kk := fun k h1 hR => ?_)
  obtain ⟨M, hS2, hj⟩ := hk k h1 hR
  refine bL_law_916 (hL := hL) (hS := hS2) (kk := fun b h2 hM => ?_)
  obtain ⟨k02, th, ou, rel⟩ := hj b h2 hM
  refine bL_law_934 (hL := hL) (hS := m_thrown) (kk := fun t h3 z => ?_)
  obtain ⟨e3, et⟩ := z
  rw [e3, et, th]
  refine bL_law_940 (hL := hL) (r1 := by omega) (r2 := by omega) (kf := fun q => absurd rfl q) (kt := fun _ => ?_)
  refine bL_law_947 (hL := hL) (r1 := by omega) (kt := fun _ => bL_law_964 (hL := hL) (kk := kk h2 rel)) (kf := fun q => ?_)
  refine bL_law_952 (hL := hL) (r1 := cmp_rng _ _) (kt := fun _ => bL_law_964 (hL := hL) (kk := kk h2 rel)) (kf := fun z => ?_)
  exact absurd (by rw [ou q]; exact lg_self _) z
theorem K_without (hL : L < 4000) (hx : ∀ j, R32 (xs j)) (i0 : 0 ≤ i) (i1 : i + 5 < L) (g1 : 8 ≤ b1) (g2 : 48 ≤ b2) (hr : REL h) (kk : ∀ h2, REL h2 → Wp mL_law (kL L xs) Q (b1 - 8, b2 - 48) 1771 [zR (-100), zR 1, zR 98, zR 137, zI i, none, none] [] 137 h2) : Wp mL_law (kL L xs) Q (b1, b2) 967 [zR (-100), zR 1, zR 98, zR 137, zI i, x5, x6] [] 137 h := by
  obtain ⟨R, hS, hk⟩ := t_without hr (hx (i + 1).toNat) (hx (i + 2).toNat)
  refine bL_law_967 (hL := hL) (hS := hS) (g1 := g1) (g2 := g2) (kk := fun k h1 hR => ?_)
  obtain ⟨M, hS2, hj⟩ := hk k h1 hR
  refine bL_law_984 (hL := hL) (hS := hS2) (kk := fun b h2 hM => ?_)
  obtain ⟨k02, th, ou, rel⟩ := hj b h2 hM
  refine bL_law_1002 (hL := hL) (hS := m_thrown) (kk := fun t h3 z => ?_)
  obtain ⟨e3, et⟩ := z
  rw [e3, et, th]
  refine bL_law_1008 (hL := hL) (r1 := by omega) (r2 := by omega) (kf := fun q => absurd rfl q) (kt := fun _ => ?_)
  refine bL_law_1015 (hL := hL) (r1 := by omega) (kt := fun _ => bL_law_1032 (hL := hL) (kk := kk h2 rel)) (kf := fun q => ?_)
  refine bL_law_1020 (hL := hL) (r1 := cmp_rng _ _) (kt := fun _ => bL_law_1032 (hL := hL) (kk := kk h2 rel)) (kf := fun z => ?_)
  exact absurd (by rw [ou q]; exact lg_self _) z
theorem K_lasts (hL : L < 4000) (hx : ∀ j, R32 (xs j)) (i0 : 0 ≤ i) (i1 : i + 5 < L) (g1 : 8 ≤ b1) (g2 : 48 ≤ b2) (hr : REL h) (kk : ∀ h2, REL h2 → Wp mL_law (kL L xs) Q (b1 - 8, b2 - 48) 1771 [zR (-100), zR 1, zR 98, zR 137, zI i, none, none] [] 137 h2) : Wp mL_law (kL L xs) Q (b1, b2) 1035 [zR (-100), zR 1, zR 98, zR 137, zI i, x5, x6] [] 137 h := by
  obtain ⟨R, hS, hk⟩ := t_lasts hr (hx (i + 1).toNat)
  refine bL_law_1035 (hL := hL) (hS := hS) (g1 := g1) (g2 := g2) (kk := fun k h1 hR => ?_)
  obtain ⟨M, hS2, hj⟩ := hk k h1 hR
  refine bL_law_1046 (hL := hL) (hS := hS2) (kk := fun b h2 hM => ?_)
  obtain ⟨k02, th, ou, rel⟩ := hj b h2 hM
  refine bL_law_1058 (hL := hL) (hS := m_thrown) (kk := fun t h3 z => ?_)
  obtain ⟨e3, et⟩ := z
  rw [e3, et, th]
  refine bL_law_1064 (hL := hL) (r1 := by omega) (r2 := by omega) (kf := fun q => absurd rfl q) (kt := fun _ => ?_)
  refine bL_law_1071 (hL := hL) (r1 := by omega) (kt := fun _ => bL_law_1088 (hL := hL) (kk := kk h2 rel)) (kf := fun q => ?_)
  refine bL_law_1076 (hL := hL) (r1 := cmp_rng _ _) (kt := fun _ => bL_law_1088 (hL := hL) (kk := kk h2 rel)) (kf := fun z => ?_)
  exact absurd (by rw [ou q]; exact lg_self _) z
theorem K_sing (hL : L < 4000) (hx : ∀ j, R32 (xs j)) (i0 : 0 ≤ i) (i1 : i + 5 < L) (g1 : 8 ≤ b1) (g2 : 48 ≤ b2) (hr : REL h) (kk : ∀ h2, REL h2 → Wp mL_law (kL L xs) Q (b1 - 8, b2 - 48) 1771 [zR (-100), zR 1, zR 98, zR 137, zI i, none, none] [] 137 h2) : Wp mL_law (kL L xs) Q (b1, b2) 1091 [zR (-100), zR 1, zR 98, zR 137, zI i, x5, x6] [] 137 h := by
  obtain ⟨R, hS, hk⟩ := t_sing hr (hx (i + 1).toNat) (hx (i + 2).toNat)
  refine bL_law_1091 (hL := hL) (hS := hS) (g1 := g1) (g2 := g2) (kk := fun k h1 hR => ?_)
  obtain ⟨M, hS2, hj⟩ := hk k h1 hR
  refine bL_law_1108 (hL := hL) (hS := hS2) (kk := fun b h2 hM => ?_)
  obtain ⟨k02, th, ou, rel⟩ := hj b h2 hM
  refine bL_law_1126 (hL := hL) (hS := m_thrown) (kk := fun t h3 z => ?_)
  obtain ⟨e3, et⟩ := z
  rw [e3, et, th]
  refine bL_law_1132 (hL := hL) (r1 := by omega) (r2 := by omega) (kf := fun q => absurd rfl q) (kt := fun _ => ?_)
  refine bL_law_1139 (hL := hL) (r1 := by omega) (kt := fun _ => bL_law_1156 (hL := hL) (kk := kk h2 rel)) (kf := fun q => ?_)
  refine bL_law_1144 (hL := hL) (r1 := cmp_rng _ _) (kt := fun _ => bL_law_1156 (hL := hL) (kk := kk h2 rel)) (kf := fun z => ?_)
  exact absurd (by rw [ou q]; exact lg_self _) z
theorem K_round (hL : L < 4000) (hx : ∀ j, R32 (xs j)) (i0 : 0 ≤ i) (i1 : i + 5 < L) (g1 : 8 ≤ b1) (g2 : 48 ≤ b2) (hr : REL h) (kk : ∀ h2, REL h2 → Wp mL_law (kL L xs) Q (b1 - 8, b2 - 48) 1771 [zR (-100), zR 1, zR 98, zR 137, zI i, none, none] [] 137 h2) : Wp mL_law (kL L xs) Q (b1, b2) 1159 [zR (-100), zR 1, zR 98, zR 137, zI i, x5, x6] [] 137 h := by
  obtain ⟨R, hS, hk⟩ := t_round hr (hx (i + 1).toNat)
  refine bL_law_1159 (hL := hL) (hS := hS) (g1 := g1) (g2 := g2) (kk := fun k h1 hR => ?_)
  obtain ⟨M, hS2, hj⟩ := hk k h1 hR
  refine bL_law_1170 (hL := hL) (hS := hS2) (kk := fun b h2 hM => ?_)
  obtain ⟨k02, th, ou, rel⟩ := hj b h2 hM
  refine bL_law_1182 (hL := hL) (hS := m_thrown) (kk := fun t h3 z => ?_)
  obtain ⟨e3, et⟩ := z
  rw [e3, et, th]
  refine bL_law_1188 (hL := hL) (r1 := by omega) (r2 := by omega) (kf := fun q => absurd rfl q) (kt := fun _ => ?_)
  refine bL_law_1195 (hL := hL) (r1 := by omega) (kt := fun _ => bL_law_1212 (hL := hL) (kk := kk h2 rel)) (kf := fun q => ?_)
  refine bL_law_1200 (hL := hL) (r1 := cmp_rng _ _) (kt := fun _ => bL_law_1212 (hL := hL) (kk := kk h2 rel)) (kf := fun z => ?_)
  exact absurd (by rw [ou q]; exact lg_self _) z
theorem K_tell (hL : L < 4000) (hx : ∀ j, R32 (xs j)) (i0 : 0 ≤ i) (i1 : i + 5 < L) (g1 : 8 ≤ b1) (g2 : 48 ≤ b2) (hr : REL h) (kk : ∀ h2, REL h2 → Wp mL_law (kL L xs) Q (b1 - 8, b2 - 48) 1771 [zR (-100), zR 1, zR 98, zR 137, zI i, none, none] [] 137 h2) : Wp mL_law (kL L xs) Q (b1, b2) 1215 [zR (-100), zR 1, zR 98, zR 137, zI i, x5, x6] [] 137 h := by
  obtain ⟨R, hS, hk⟩ := t_tell hr (hx (i + 1).toNat)
  refine bL_law_1215 (hL := hL) (hS := hS) (g1 := g1) (g2 := g2) (kk := fun k h1 hR => ?_)
  obtain ⟨M, hS2, hj⟩ := hk k h1 hR
  refine bL_law_1226 (hL := hL) (hS := hS2) (kk := fun b h2 hM => ?_)
  obtain ⟨k02, th, ou, rel⟩ := hj b h2 hM
  refine bL_law_1238 (hL := hL) (hS := m_thrown) (kk := fun t h3 z => ?_)
  obtain ⟨e3, et⟩ := z
  rw [e3, et, th]
  refine bL_law_1244 (hL := hL) (r1 := by omega) (r2 := by omega) (kf := fun q => absurd rfl q) (kt := fun _ => ?_)
  refine bL_law_1251 (hL := hL) (r1 := by omega) (kt := fun _ => bL_law_1268 (hL := hL) (kk := kk h2 rel)) (kf := fun q => ?_)
  refine bL_law_1256 (hL := hL) (r1 := cmp_rng _ _) (kt := fun _ => bL_law_1268 (hL := hL) (kk := kk h2 rel)) (kf := fun z => ?_)
  exact absurd (by rw [ou q]; exact lg_self _) z
-- untell [1271, 1275, 1279, 1282] [1272, 1276]
theorem K_rivals (hL : L < 4000) (hx : ∀ j, R32 (xs j)) (i0 : 0 ≤ i) (i1 : i + 5 < L) (g1 : 8 ≤ b1) (g2 : 48 ≤ b2) (hr : REL h) (kk : ∀ h2, REL h2 → Wp mL_law (kL L xs) Q (b1 - 8, b2 - 48) 1771 [zR (-100), zR 1, zR 98, zR 137, zI i, none, none] [] 137 h2) : Wp mL_law (kL L xs) Q (b1, b2) 1284 [zR (-100), zR 1, zR 98, zR 137, zI i, x5, x6] [] 137 h := by
  obtain ⟨R, hS, hk⟩ := t_rivals hr (hx (i + 1).toNat) (hx (i + 2).toNat)
  refine bL_law_1284 (hL := hL) (hS := hS) (g1 := g1) (g2 := g2) (kk := fun k h1 hR => ?_)
  obtain ⟨M, hS2, hj⟩ := hk k h1 hR
  refine bL_law_1301 (hL := hL) (hS := hS2) (kk := fun b h2 hM => ?_)
  obtain ⟨k02, th, ou, rel⟩ := hj b h2 hM
  refine bL_law_1319 (hL := hL) (hS := m_thrown) (kk := fun t h3 z => ?_)
  obtain ⟨e3, et⟩ := z
  rw [e3, et, th]
  refine bL_law_1325 (hL := hL) (r1 := by omega) (r2 := by omega) (kf := fun q => absurd rfl q) (kt := fun _ => ?_)
  refine bL_law_1332 (hL := hL) (r1 := by omega) (kt := fun _ => bL_law_1349 (hL := hL) (kk := kk h2 rel)) (kf := fun q => ?_)
  refine bL_law_1337 (hL := hL) (r1 := cmp_rng _ _) (kt := fun _ => bL_law_1349 (hL := hL) (kk := kk h2 rel)) (kf := fun z => ?_)
  exact absurd (by rw [ou q]; exact lg_self _) z
theorem K_sayers (hL : L < 4000) (hx : ∀ j, R32 (xs j)) (i0 : 0 ≤ i) (i1 : i + 5 < L) (g1 : 8 ≤ b1) (g2 : 48 ≤ b2) (hr : REL h) (kk : ∀ h2, REL h2 → Wp mL_law (kL L xs) Q (b1 - 8, b2 - 48) 1771 [zR (-100), zR 1, zR 98, zR 137, zI i, none, none] [] 137 h2) : Wp mL_law (kL L xs) Q (b1, b2) 1352 [zR (-100), zR 1, zR 98, zR 137, zI i, x5, x6] [] 137 h := by
  obtain ⟨R, hS, hk⟩ := t_sayers hr (hx (i + 1).toNat)
  refine bL_law_1352 (hL := hL) (hS := hS) (g1 := g1) (g2 := g2) (kk := fun k h1 hR => ?_)
  obtain ⟨M, hS2, hj⟩ := hk k h1 hR
  refine bL_law_1363 (hL := hL) (hS := hS2) (kk := fun b h2 hM => ?_)
  obtain ⟨k02, th, ou, rel⟩ := hj b h2 hM
  refine bL_law_1375 (hL := hL) (hS := m_thrown) (kk := fun t h3 z => ?_)
  obtain ⟨e3, et⟩ := z
  rw [e3, et, th]
  refine bL_law_1381 (hL := hL) (r1 := by omega) (r2 := by omega) (kf := fun q => absurd rfl q) (kt := fun _ => ?_)
  refine bL_law_1388 (hL := hL) (r1 := by omega) (kt := fun _ => bL_law_1405 (hL := hL) (kk := kk h2 rel)) (kf := fun q => ?_)
  refine bL_law_1393 (hL := hL) (r1 := cmp_rng _ _) (kt := fun _ => bL_law_1405 (hL := hL) (kk := kk h2 rel)) (kf := fun z => ?_)
  exact absurd (by rw [ou q]; exact lg_self _) z
theorem K_stand (hL : L < 4000) (hx : ∀ j, R32 (xs j)) (i0 : 0 ≤ i) (i1 : i + 5 < L) (g1 : 8 ≤ b1) (g2 : 48 ≤ b2) (hr : REL h) (kk : ∀ h2, REL h2 → Wp mL_law (kL L xs) Q (b1 - 8, b2 - 48) 1771 [zR (-100), zR 1, zR 98, zR 137, zI i, none, none] [] 137 h2) : Wp mL_law (kL L xs) Q (b1, b2) 1408 [zR (-100), zR 1, zR 98, zR 137, zI i, x5, x6] [] 137 h := by
  obtain ⟨R, hS, hk⟩ := t_stand hr (hx (i + 1).toNat) (hx (i + 2).toNat) (hx (i + 3).toNat)
  refine bL_law_1408 (hL := hL) (hS := hS) (g1 := g1) (g2 := g2) (kk := fun k h1 hR => ?_)
  obtain ⟨M, hS2, hj⟩ := hk k h1 hR
  refine bL_law_1431 (hL := hL) (hS := hS2) (kk := fun b h2 hM => ?_)
  obtain ⟨⟨k02, th, ou, rel⟩, b01⟩ := hj b h2 hM
  refine bL_law_1455 (hL := hL) (hS := m_thrown) (kk := fun t h3 z => ?_)
  obtain ⟨e3, et⟩ := z
  rw [e3, et, th]
  refine bL_law_1461 (hL := hL) (r1 := by omega) (r2 := by omega) (kf := fun q => absurd rfl q) (kt := fun _ => ?_)
  -- STAND [1408, 1431, 1455, 1461, 1466, 1468, 1473, 1481, 1485, 1486, 1490, 1492]
  refine bL_law_1468 (hL := hL) (r1 := by omega) (kt := fun _ => bL_law_1492 (hL := hL) (kk := kk h2 rel)) (kf := fun q => ?_)
  rcases b01 q with b0 | b1
  · rw [b0] at ou ⊢
    refine bL_law_1473 (hL := hL) (kf := fun z => absurd rfl z) (kt := fun _ => bL_law_1485 (hL := hL) (kk := ?_))
    refine bL_law_1486 (hL := hL) (r1 := cmp_rng _ _) (kt := fun _ => bL_law_1492 (hL := hL) (kk := kk h2 rel)) (kf := fun z => ?_)
    exact absurd (by rw [ou q, show i2l 0 = 0 from i2l_eq ⟨by decide, by decide⟩]; exact lg_self _) z
  · rw [b1] at ou ⊢
    refine bL_law_1473 (hL := hL) (kt := fun z => absurd z (by decide)) (kf := fun _ => bL_law_1481 (hL := hL) (kk := ?_))
    refine bL_law_1486 (hL := hL) (r1 := cmp_rng _ _) (kt := fun _ => bL_law_1492 (hL := hL) (kk := kk h2 rel)) (kf := fun z => ?_)
    exact absurd (by rw [ou q, show i2l 1 = 1 from i2l_eq ⟨by decide, by decide⟩]; exact lg_self _) z
theorem K_matching (hL : L < 4000) (hx : ∀ j, R32 (xs j)) (i0 : 0 ≤ i) (i1 : i + 5 < L) (g1 : 8 ≤ b1) (g2 : 48 ≤ b2) (hr : REL h) (kk : ∀ h2, REL h2 → Wp mL_law (kL L xs) Q (b1 - 8, b2 - 48) 1771 [zR (-100), zR 1, zR 98, zR 137, zI i, none, none] [] 137 h2) : Wp mL_law (kL L xs) Q (b1, b2) 1495 [zR (-100), zR 1, zR 98, zR 137, zI i, x5, x6] [] 137 h := by
  obtain ⟨R, hS, hk⟩ := t_matching hr (hx (i + 1).toNat) (hx (i + 2).toNat) (hx (i + 3).toNat)
  refine bL_law_1495 (hL := hL) (hS := hS) (g1 := g1) (g2 := g2) (kk := fun k h1 hR => ?_)
  obtain ⟨M, hS2, hj⟩ := hk k h1 hR
  refine bL_law_1518 (hL := hL) (hS := hS2) (kk := fun b h2 hM => ?_)
  obtain ⟨k02, th, ou, rel⟩ := hj b h2 hM
  refine bL_law_1542 (hL := hL) (hS := m_thrown) (kk := fun t h3 z => ?_)
  obtain ⟨e3, et⟩ := z
  rw [e3, et, th]
  refine bL_law_1548 (hL := hL) (r1 := by omega) (r2 := by omega) (kf := fun q => absurd rfl q) (kt := fun _ => ?_)
  refine bL_law_1555 (hL := hL) (r1 := by omega) (kt := fun _ => bL_law_1572 (hL := hL) (kk := kk h2 rel)) (kf := fun q => ?_)
  refine bL_law_1560 (hL := hL) (r1 := cmp_rng _ _) (kt := fun _ => bL_law_1572 (hL := hL) (kk := kk h2 rel)) (kf := fun z => ?_)
  exact absurd (by rw [ou q]; exact lg_self _) z
theorem K_moved (hL : L < 4000) (hx : ∀ j, R32 (xs j)) (i0 : 0 ≤ i) (i1 : i + 5 < L) (g1 : 8 ≤ b1) (g2 : 48 ≤ b2) (hr : REL h) (kk : ∀ h2, REL h2 → Wp mL_law (kL L xs) Q (b1 - 8, b2 - 48) 1771 [zR (-100), zR 1, zR 98, zR 137, zI i, none, none] [] 137 h2) : Wp mL_law (kL L xs) Q (b1, b2) 1575 [zR (-100), zR 1, zR 98, zR 137, zI i, x5, x6] [] 137 h := by
  obtain ⟨R, hS, hk⟩ := t_moved hr (hx (i + 1).toNat) (hx (i + 2).toNat) (hx (i + 3).toNat) (hx (i + 4).toNat) (hx (i + 5).toNat)
  refine bL_law_1575 (hL := hL) (hS := hS) (g1 := g1) (g2 := g2) (kk := fun k h1 hR => ?_)
  obtain ⟨M, hS2, hj⟩ := hk k h1 hR
  refine bL_law_1610 (hL := hL) (hS := hS2) (kk := fun b h2 hM => ?_)
  obtain ⟨k02, th, ou, rel⟩ := hj b h2 hM
  refine bL_law_1646 (hL := hL) (hS := m_thrown) (kk := fun t h3 z => ?_)
  obtain ⟨e3, et⟩ := z
  rw [e3, et, th]
  refine bL_law_1652 (hL := hL) (r1 := by omega) (r2 := by omega) (kf := fun q => absurd rfl q) (kt := fun _ => ?_)
  refine bL_law_1659 (hL := hL) (r1 := by omega) (kt := fun _ => bL_law_1676 (hL := hL) (kk := kk h2 rel)) (kf := fun q => ?_)
  refine bL_law_1664 (hL := hL) (r1 := cmp_rng _ _) (kt := fun _ => bL_law_1676 (hL := hL) (kk := kk h2 rel)) (kf := fun z => ?_)
  exact absurd (by rw [ou q]; exact lg_self _) z
theorem K_code (hL : L < 4000) (hx : ∀ j, R32 (xs j)) (i0 : 0 ≤ i) (i1 : i + 5 < L) (g1 : 8 ≤ b1) (g2 : 48 ≤ b2) (hr : REL h) (kk : ∀ h2, REL h2 → Wp mL_law (kL L xs) Q (b1 - 8, b2 - 48) 1771 [zR (-100), zR 1, zR 98, zR 137, zI i, none, none] [] 137 h2) : Wp mL_law (kL L xs) Q (b1, b2) 1679 [zR (-100), zR 1, zR 98, zR 137, zI i, x5, x6] [] 137 h := by
  obtain ⟨R, hS, hk⟩ := t_code hr (hx (i + 1).toNat) (hx (i + 2).toNat)
  refine bL_law_1679 (hL := hL) (hS := hS) (g1 := g1) (g2 := g2) (kk := fun k h1 hR => ?_)
  obtain ⟨M, hS2, hj⟩ := hk k h1 hR
  refine bL_law_1696 (hL := hL) (hS := hS2) (kk := fun b h2 hM => ?_)
  obtain ⟨k02, th, ou, rel⟩ := hj b h2 hM
  refine bL_law_1714 (hL := hL) (hS := m_thrown) (kk := fun t h3 z => ?_)
  obtain ⟨e3, et⟩ := z
  rw [e3, et, th]
  refine bL_law_1720 (hL := hL) (r1 := by omega) (r2 := by omega) (kf := fun q => absurd rfl q) (kt := fun _ => ?_)
  refine bL_law_1727 (hL := hL) (r1 := by omega) (kt := fun _ => bL_law_1744 (hL := hL) (kk := kk h2 rel)) (kf := fun q => ?_)
  refine bL_law_1732 (hL := hL) (r1 := cmp_rng _ _) (kt := fun _ => bL_law_1744 (hL := hL) (kk := kk h2 rel)) (kf := fun z => ?_)
  exact absurd (by rw [ou q]; exact lg_self _) z
-- image [1747, 1751, 1755] [1748, 1752]
-- restore [1758, 1762, 1766, 1769] [1759, 1763]
end
section
variable {L b1 b2 : Nat} {xs : Nat → Int} {Q : RS → Nat → AH → Prop} {h : AH} {i : Int} {x5 x6 : AV}
theorem K_feed (hL : L < 4000) (hx : ∀ j, R32 (xs j)) (i0 : 0 ≤ i) (i1 : i + 5 < L) (hr : REL h) (kk : ∀ h2, REL h2 → Wp mL_law (kL L xs) Q (b1, b2) 1771 [zR (-100), zR 1, zR 98, zR 137, zI i, none, none] [] 137 h2) : Wp mL_law (kL L xs) Q (b1, b2) 164 [zR (-100), zR 1, zR 98, zR 137, zI i, x5, x6] [] 137 h := by
  obtain ⟨t0, t1, -⟩ := id hr.2.1
  refine bL_law_164 (hL := hL) (hS := c_feed (fr := 999) (by decide) (hx _) (hx _) (hx _) (hx _) (hx _) t0) (kk := fun x h1 hR => ?_)
  have m98 : h1 98 = h 98 := by
    rcases hR with ⟨-, -, e⟩ | ⟨-, -, e⟩
    · rw [e]
    · rw [e, lay4_n (by decide) (by decide), lay4_n (by decide) (by decide), lay4_n (by decide) (by decide), lay4_n (by decide) (by decide), lay4_n (by decide) (by decide)]
  refine bL_law_198 (hL := hL) (hS := m_feed (fr := 999) (by decide) (hx _) (hx _) (hx _) (hx _) (hx _) (by rw [m98, t1]; exact t0)) (kk := fun y h2 hM => ?_)
  rw [m98, t1] at hM
  have e : y = x ∧ REL h2 := by
    rcases hR with ⟨a, ex, e1⟩ | ⟨a, ex, e1⟩ <;> rcases hM with ⟨b, ey, e2⟩ | ⟨b, ey, e2⟩
    · exact ⟨by rw [ex, ey], by rw [e2, e1]; exact hr.same (k98q _ _)⟩
    · omega
    · omega
    · exact ⟨by rw [ex, ey], R_feed hr a e1 e2⟩
  rw [e.1]
  exact s_icmp_same (tgt := 1771) dL_law_232 (by decide) (kk h2 e.2)
theorem K_fault (hL : L < 4000) (hx : ∀ j, R32 (xs j)) (i0 : 0 ≤ i) (i1 : i + 5 < L) (hr : REL h) (kk : ∀ h2, REL h2 → Wp mL_law (kL L xs) Q (b1, b2) 1771 [zR (-100), zR 1, zR 98, zR 137, zI i, none, none] [] 137 h2) : Wp mL_law (kL L xs) Q (b1, b2) 293 [zR (-100), zR 1, zR 98, zR 137, zI i, x5, x6] [] 137 h := by
  refine bL_law_293 (hL := hL) (hS := c_fault (fr := 999)) (kk := fun x h1 hR => ?_)
  obtain ⟨e1, ex⟩ := hR
  rw [e1]
  refine bL_law_297 (hL := hL) (hS := m_fault (fr := 999)) (kk := fun y h2 hM => ?_)
  obtain ⟨e2, ey⟩ := hM
  rw [ey, ex, hr.2.2.1.1]
  exact s_icmp_same (tgt := 1771) dL_law_301 (by decide) (kk h2 (by rw [e2]; exact hr.same (k98q _ _)))
theorem K_hush (hL : L < 4000) (hx : ∀ j, R32 (xs j)) (i0 : 0 ≤ i) (i1 : i + 5 < L) (hr : REL h) (kk : ∀ h2, REL h2 → Wp mL_law (kL L xs) Q (b1, b2) 1771 [zR (-100), zR 1, zR 98, zR 137, zI i, none, none] [] 137 h2) : Wp mL_law (kL L xs) Q (b1, b2) 566 [zR (-100), zR 1, zR 98, zR 137, zI i, x5, x6] [] 137 h := by
  refine bL_law_566 (hL := hL) (hS := c_hush (fr := 999) (by decide)) (kk := fun x h1 hR => ?_)
  obtain ⟨e1, ex⟩ := hR
  refine bL_law_570 (hL := hL) (hS := m_hush (fr := 999)) (kk := fun y h2 hM => ?_)
  obtain ⟨e2, ey⟩ := hM
  have e : y = x := by rw [ey, ex, hr.2.2.2.2.2.1.1.1, e1]; rfl
  rw [e]
  exact s_icmp_same (tgt := 1771) dL_law_574 (by decide) (kk h2 (R_hush hr e1 e2))
theorem K_untell (hL : L < 4000) (hx : ∀ j, R32 (xs j)) (i0 : 0 ≤ i) (i1 : i + 5 < L) (hr : REL h) (kk : ∀ h2, REL h2 → Wp mL_law (kL L xs) Q (b1, b2) 1771 [zR (-100), zR 1, zR 98, zR 137, zI i, none, none] [] 137 h2) : Wp mL_law (kL L xs) Q (b1, b2) 1271 [zR (-100), zR 1, zR 98, zR 137, zI i, x5, x6] [] 137 h := by
  refine bL_law_1271 (hL := hL) (hS := c_untell (fr := 999) (by decide)) (kk := fun x h1 hR => ?_)
  obtain ⟨e1, ex⟩ := hR
  refine bL_law_1275 (hL := hL) (hS := m_untell (fr := 999)) (kk := fun y h2 hM => ?_)
  obtain ⟨e2, ey⟩ := hM
  have e : y = x := by rw [ey, ex, hr.2.2.2.2.2.1.1.2.1, e1]; rfl
  rw [e]
  exact s_icmp_same (tgt := 1771) dL_law_1279 (by decide) (kk h2 (R_untell hr e1 e2))
theorem K_image (hL : L < 4000) (hx : ∀ j, R32 (xs j)) (i0 : 0 ≤ i) (i1 : i + 5 < L) (hr : REL h) (kk : ∀ h2, REL h2 → Wp mL_law (kL L xs) Q (b1, b2) 1771 [zR (-100), zR 1, zR 98, zR 137, zI i, none, none] [] 137 h2) : Wp mL_law (kL L xs) Q (b1, b2) 1747 [zR (-100), zR 1, zR 98, zR 137, zI i, x5, x6] [] 137 h := by
  refine bL_law_1747 (hL := hL) (hS := c_image (fr := 999) (by decide)) (kk := fun h1 e1 => ?_)
  refine bL_law_1751 (hL := hL) (hS := m_image (fr := 999) (by decide)) (kk := fun h2 e2 => ?_)
  exact bL_law_1755 (hL := hL) (kk := kk h2 (R_image hr e1 e2))
theorem K_restore (hL : L < 4000) (hx : ∀ j, R32 (xs j)) (i0 : 0 ≤ i) (i1 : i + 5 < L) (hr : REL h) (kk : ∀ h2, REL h2 → Wp mL_law (kL L xs) Q (b1, b2) 1771 [zR (-100), zR 1, zR 98, zR 137, zI i, none, none] [] 137 h2) : Wp mL_law (kL L xs) Q (b1, b2) 1758 [zR (-100), zR 1, zR 98, zR 137, zI i, x5, x6] [] 137 h := by
  obtain ⟨i1', i2', -⟩ := id hr.2.2.2.2.2.2.1
  refine bL_law_1758 (hL := hL) (hS := c_restore (fr := 999) (by decide) i2') (kk := fun x h1 hR => ?_)
  have m98 : h1 98 = h 98 := by
    rcases hR with ⟨-, -, e⟩ | ⟨-, -, e⟩
    · rw [e]
    · rw [e]; rfl
  refine bL_law_1762 (hL := hL) (hS := m_restore (fr := 999) (by decide) (by rw [m98, i1']; exact i2')) (kk := fun y h2 hM => ?_)
  rw [m98, i1'] at hM
  have e : y = x ∧ REL h2 := by
    rcases hR with ⟨a, ex, e1⟩ | ⟨a, ex, e1⟩ <;> rcases hM with ⟨b, ey, e2⟩ | ⟨b, ey, e2⟩
    · exact ⟨by rw [ex, ey], by rw [e2, e1]; exact hr.same (k98q _ _)⟩
    · omega
    · omega
    · exact ⟨by rw [ex, ey], R_restore hr a e1 e2⟩
  rw [e.1]
  exact s_icmp_same (tgt := 1771) dL_law_1766 (by decide) (kk h2 e.2)
end

section
variable {L : Nat} {xs : Nat → Int} {Q : RS → Nat → AH → Prop}
theorem law_loop (hL : L ≤ 384) (hx : ∀ j, R32 (xs j)) (hQ : ∀ n h, Q (.inl (some (zI 1))) n h) : ∀ (d : Nat) (i : Int) (b1 b2 : Nat) (h : AH) (x5 x6 : AV), REL h → 0 ≤ i → i ≤ L → (L : Int) - i ≤ 6 * d → 8 * d ≤ b1 → 48 * d ≤ b2 → Wp mL_law (kL L xs) Q (b1, b2) 23 [zR (-100), zR 1, zR 98, zR 137, zI i, x5, x6] [] 137 h := by
  have hL4 : L < 4000 := by omega
  intro d
  induction d with
  | zero =>
    intro i b1 b2 h x5 x6 hr i0 iL i1 g1 g2
    · exact bL_law_23 (hL := hL4) (kt := fun _ => bL_law_1777 (hL := hL4) (hq := hQ _ _)) (kf := fun q => by omega)
  | succ d ih =>
    intro i b1 b2 h x5 x6 hr i0 iL i1 g1 g2
    refine bL_law_23 (hL := hL4) (kt := fun _ => bL_law_1777 (hL := hL4) (hq := hQ _ _)) (kf := fun q => ?_)
    have i5 : i + 5 < L := by omega
    have go8 : ∀ h2, REL h2 → Wp mL_law (kL L xs) Q (b1 - 8, b2 - 48) 1771 [zR (-100), zR 1, zR 98, zR 137, zI i, none, none] [] 137 h2 := fun h2 rel => bL_law_1771 (hL := hL4) (kk := ih (i + 6) (b1 - 8) (b2 - 48) h2 _ _ rel (by omega) (by omega) (by omega) (by omega) (by omega))
    have go0 : ∀ h2, REL h2 → Wp mL_law (kL L xs) Q (b1, b2) 1771 [zR (-100), zR 1, zR 98, zR 137, zI i, none, none] [] 137 h2 := fun h2 rel => bL_law_1771 (hL := hL4) (kk := ih (i + 6) b1 b2 h2 _ _ rel (by omega) (by omega) (by omega) (by omega) (by omega))
    refine bL_law_33 (hL := hL4) (r1 := by omega) (r2 := bAnd_R _ _) (k0 := fun _ => ?_) (k1 := fun _ => ?_) (k2 := fun _ => ?_) (k3 := fun _ => ?_) (k4 := fun _ => ?_) (k5 := fun _ => ?_) (k6 := fun _ => ?_) (k7 := fun _ => ?_) (k8 := fun _ => ?_) (k9 := fun _ => ?_) (k10 := fun _ => ?_) (k11 := fun _ => ?_) (k12 := fun _ => ?_) (k13 := fun _ => ?_) (k14 := fun _ => ?_) (k15 := fun _ => ?_) (k16 := fun _ => ?_) (k17 := fun _ => ?_) (k18 := fun _ => ?_) (k19 := fun _ => ?_) (k20 := fun _ => ?_) (k21 := fun _ => ?_) (k22 := fun _ => ?_) (k23 := fun _ => ?_) (k24 := fun _ => ?_) (k25 := fun _ => ?_) (k26 := fun _ => ?_) (kd := fun _ => go0 h hr)
    · exact K_feed hL4 hx i0 i5 hr go0
    · exact K_gorge hL4 hx i0 i5 (by omega) (by omega) hr go8
    · exact K_fault hL4 hx i0 i5 hr go0
    · exact K_count hL4 hx i0 i5 (by omega) (by omega) hr go8
    · exact K_wall hL4 hx i0 i5 (by omega) (by omega) hr go8
    · exact K_word hL4 hx i0 i5 (by omega) (by omega) hr go8
    · exact K_say hL4 hx i0 i5 (by omega) (by omega) hr go8
    · exact K_hush hL4 hx i0 i5 hr go0
    · exact K_heard hL4 hx i0 i5 (by omega) (by omega) hr go8
    · exact K_loud hL4 hx i0 i5 (by omega) (by omega) hr go8
    · exact K_lines hL4 hx i0 i5 (by omega) (by omega) hr go8
    · exact K_line hL4 hx i0 i5 (by omega) (by omega) hr go8
    · exact K_still hL4 hx i0 i5 (by omega) (by omega) hr go8
    · exact K_without hL4 hx i0 i5 (by omega) (by omega) hr go8
    · exact K_lasts hL4 hx i0 i5 (by omega) (by omega) hr go8
    · exact K_sing hL4 hx i0 i5 (by omega) (by omega) hr go8
    · exact K_round hL4 hx i0 i5 (by omega) (by omega) hr go8
    · exact K_tell hL4 hx i0 i5 (by omega) (by omega) hr go8
    · exact K_untell hL4 hx i0 i5 hr go0
    · exact K_rivals hL4 hx i0 i5 (by omega) (by omega) hr go8
    · exact K_sayers hL4 hx i0 i5 (by omega) (by omega) hr go8
    · exact K_stand hL4 hx i0 i5 (by omega) (by omega) hr go8
    · exact K_matching hL4 hx i0 i5 (by omega) (by omega) hr go8
    · exact K_moved hL4 hx i0 i5 (by omega) (by omega) hr go8
    · exact K_code hL4 hx i0 i5 (by omega) (by omega) hr go8
    · exact K_image hL4 hx i0 i5 hr go0
    · exact K_restore hL4 hx i0 i5 hr go0
end
