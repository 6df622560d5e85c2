/-! ===== the answers of both sides are the same ===== -/
theorem telR.d {h : AH} (ht : telR h) {D : DT} (e : eqD D (dC h (h 1 4))) : simD D (dM h) := ht.2.eq e.symm
theorem telR.air {h : AH} (ht : telR h) {o : Int} (o0 : 0 ≤ o) (o1 : o < 24) : h (h 1 4 + 9) o = h 104 o := (ht.2.2.2.2.2.2.1 o o0 o1).symm
theorem telR.amp {h : AH} (ht : telR h) {ear air : Int} (e0 : 0 ≤ ear ∧ ear < 3) : ∀ s d, 0 ≤ s → s < h 98 1 → amp (dC h (h 1 4)) ear air 0 (-1) s d = amp (dM h) ear air 0 (-1) s d := fun s d s0 s1 => amp_s ht.2.symm e0 s0 s1
theorem REL.lam {h : AH} (hr : REL h) {e o : Int} (he : 0 ≤ e ∧ e < 3) (ho : 0 ≤ o ∧ o < 24) : ∀ t s, 0 ≤ s → s < h 98 1 → lamS h e o t s = lamM h e o t s := fun t s s0 s1 => by
  have n8 := hr.mok.1.1
  obtain ⟨n, -, -, te, -, lv, -⟩ := hr
  rw [dM00] at n8
  obtain ⟨s1', s2, s3, s4⟩ := lv.2.1
  have key := lamL_U (M := fun u => h 35 u) (A := fun s d => amp (dM h) e (h 104 o) 0 (-1) s d) (S := fun k => h 116 k) (T := fun k => h 117 k) (n := (h 98 50).toNat) (N := 200) (s := s) (fun k hk => by
    have := (s2 k (by omega) (by omega)).2
    exact ⟨this.1, by omega⟩) (fun u hu => s4 u s (by omega) s0 (by omega)) t
  show lamU (fun u => h 35 u) (fun s d => amp (dC h (h 1 4)) e (h (h 1 4 + 9) o) 0 (-1) s d) 200 t s = lamL (fun s d => amp (dM h) e (h 104 o) 0 (-1) s d) (fun k => h 116 k) (fun k => h 117 k) (h 98 50).toNat t s
  rw [key, te.air ho.1 ho.2]
  refine sg_cong (fun u _ => ?_)
  show (if bt (h 35 u) s.toNat = true then amp (dC h (h 1 4)) e (h 104 o) 0 (-1) s (t - u) else 0) = if bt (h 35 u) s.toNat = true then amp (dM h) e (h 104 o) 0 (-1) s (t - u) else 0
  rw [te.amp he s _ s0 s1]
section
variable {h : AH}
theorem A_heard (hr : REL h) {e o t x y : Int} (he : 0 ≤ e ∧ e < 3) (ho : 0 ≤ o ∧ o < 24) (t0 : 0 ≤ t) (h1 : HeardR (lamS h e o) (h (h 1 4) 0) (h (h 1 4) 4) (h (h 1 4) 5) (h (h 1 4) 6) t x) (h2 : HeardR (lamM h e o) (h 98 1) (h 98 5) (h 98 6) (h 98 7) t y) : x = y := by
  have te := hr.2.2.2.1
  have e0 : h (h 1 4) 0 = h 98 1 := te.c (i := 0) (by decide)
  have e4 : h (h 1 4) 4 = h 98 5 := te.c (i := 4) (by decide)
  have e5 : h (h 1 4) 5 = h 98 6 := te.c (i := 5) (by decide)
  have e6 : h (h 1 4) 6 = h 98 7 := te.c (i := 6) (by decide)
  rw [e0, e4, e5, e6] at h1
  exact (HeardR.cong (fun t' s _ _ _ s0 s1 => hr.lam he ho t' s s0 s1) t0 te.1.2.2.2.2.2.1.1 h1).one h2
theorem A_lines (hr : REL h) {D : DT} (e : eqD D (dC h (h 1 4))) {o k x y : Int} (ho : 0 ≤ o ∧ o < 24) (h1 : linesR D (D 9 o) k x) (h2 : linesR (dM h) (dM h 9 o) k y) : x = y := by
  have te := hr.2.2.2.1
  have s := te.d e
  have ok := s.symm.ok te.1
  rw [s.2.2.2.2.2.1 o ho.1 ho.2] at h2
  exact (linesR_s s ok h1).one h2
theorem A_line (hr : REL h) {D : DT} (e : eqD D (dC h (h 1 4))) {o i k x y : Int} (ho : 0 ≤ o ∧ o < 24) (h1 : lineRes D (D 9 o) i k x) (h2 : lineRes (dM h) (dM h 9 o) i k y) : x = y := by
  have te := hr.2.2.2.1
  have s := te.d e
  have ok := s.symm.ok te.1
  rw [s.2.2.2.2.2.1 o ho.1 ho.2] at h2
  exact (lineRes_s s ok h1).one te.1 h2
theorem A_lineOk (hr : REL h) {D : DT} (e : eqD D (dC h (h 1 4))) {o i : Int} (ho : 0 ≤ o ∧ o < 24) : lineOk D (D 9 o) i ↔ lineOk (dM h) (dM h 9 o) i := by
  have te := hr.2.2.2.1
  have s := te.d e
  have ok := s.symm.ok te.1
  rw [s.2.2.2.2.2.1 o ho.1 ho.2]
  exact ⟨lineOk_s s ok, lineOk_s s.symm te.1⟩
theorem A_still (hr : REL h) {D : DT} (e : eqD D (dC h (h 1 4))) {o fog gone x y : Int} (ho : 0 ≤ o ∧ o < 24) (h1 : stillR D (D 9 o) fog gone x) (h2 : stillR (dM h) (dM h 9 o) fog gone y) : x = y := by
  have te := hr.2.2.2.1
  have s := te.d e
  have ok := s.symm.ok te.1
  rw [s.2.2.2.2.2.1 o ho.1 ho.2] at h2
  have := stillR_s s ok h1
  unfold stillR at this h2
  rw [this, h2]
theorem A_lasts (hr : REL h) {D : DT} (e : eqD D (dC h (h 1 4))) {o x y : Int} (ho : 0 ≤ o ∧ o < 24) (h1 : lastsR D (D 9 o) x) (h2 : lastsR (dM h) (dM h 9 o) y) : x = y := by
  have te := hr.2.2.2.1
  have s := te.d e
  have ok := s.symm.ok te.1
  rw [s.2.2.2.2.2.1 o ho.1 ho.2] at h2
  exact (lastsR_s s ok h1).one h2
theorem A_round (hr : REL h) {k x y : Int} (h1 : roundR (fun s d => amp (dC h (h 1 4)) 0 (h (h 1 4 + 9) 12) 0 (-1) s d) (fun i => h 37 i) (h 34 5) (h (h 1 4) 0) (h (h 1 4) 4) (fun s => h (h 1 4 + 3) s) k x) (h2 : roundR (ampR h) (sngM h) (h 98 66) (h 98 1) (h 98 5) (fun s => h 105 s) k y) : x = y := by
  have te := hr.2.2.2.1
  have n8 := te.1.1
  rw [dM00] at n8
  obtain ⟨⟨-, -, a5⟩, -, -, ⟨r1, r2⟩, -⟩ := hr.2.2.2.2.2.1
  have e0 : h (h 1 4) 0 = h 98 1 := te.c (i := 0) (by decide)
  have e4 : h (h 1 4) 4 = h 98 5 := te.c (i := 4) (by decide)
  rw [e0, e4, a5, te.air (o := 12) (by decide) (by decide)] at h1
  have h3 := round_row (sow := fun i => h 37 i) (fun i a b => ((r2 i a (by omega)).1).symm) h2
  exact roundR.one (te.amp (by decide)) (fun _ => rfl) (fun s s0 s1 => (te.2.2.2.1 s s0 (by omega)).symm) h1 h3
theorem A_code (hr : REL h) {s k x y : Int} (s0 : 0 ≤ s ∧ s < h 98 1) (hk : k < 18) (h1 : codeR (gapH (fun s d => amp (dC h (h 1 4)) 0 (h (h 1 4 + 9) 12) 0 (-1) s d) (h (h 1 4) 0) (h (h 1 4) 4) (h (h 1 4) 5) (h (h 1 4) 6) s) k x) (h2 : codeR (gapH (ampR h) (h 98 1) (h 98 5) (h 98 6) (h 98 7) s) k y) : x = y := by
  have te := hr.2.2.2.1
  have e0 : h (h 1 4) 0 = h 98 1 := te.c (i := 0) (by decide)
  have e4 : h (h 1 4) 4 = h 98 5 := te.c (i := 4) (by decide)
  have e5 : h (h 1 4) 5 = h 98 6 := te.c (i := 5) (by decide)
  have e6 : h (h 1 4) 6 = h 98 7 := te.c (i := 6) (by decide)
  rw [e0, e4, e5, e6, te.air (o := 12) (by decide) (by decide)] at h1
  refine codeR.one hk (fun a j _ _ => ?_) h1 h2
  refine Hd_cong (fun t' s' s0' s1' => ?_) (by omega) te.1.2.2.2.2.2.1.1
  unfold lamG
  by_cases c : s' = s
  · rw [if_pos c, if_pos c]
    have q1 := te.amp (ear := 0) (air := h 104 12) (by decide) s t' s0.1 s0.2
    have q2 := te.amp (ear := 0) (air := h 104 12) (by decide) s (t' - ((a : Int) + 2)) s0.1 s0.2
    show amp (dC h (h 1 4)) 0 (h 104 12) 0 (-1) s t' + amp (dC h (h 1 4)) 0 (h 104 12) 0 (-1) s (t' - ((a : Int) + 2)) = amp (dM h) 0 (h 104 12) 0 (-1) s t' + amp (dM h) 0 (h 104 12) 0 (-1) s (t' - ((a : Int) + 2))
    rw [q1, q2]
  · rw [if_neg c, if_neg c]
theorem REL.tl (hr : REL h) : ∀ t, 0 ≤ t → t < 60 → h 36 t = tlM h t := fun t a b => hr.2.2.2.2.2.1.2.2.1.2.2 t a b
theorem REL.h36 (hr : REL h) : ∀ t, 0 ≤ t → t < 60 → -1 ≤ h 36 t ∧ h 36 t < h (h 1 4) 0 := fun t a b => by
  have te := hr.2.2.2.1
  have n8 := te.1.1
  rw [dM00] at n8
  rw [hr.tl t a b, te.c (i := 0) (by decide)]
  unfold tlM
  by_cases c : t < h 98 68
  · rw [if_pos c]; exact hr.2.2.2.2.2.1.2.2.1.2.1 t a c
  · rw [if_neg c]; show -1 ≤ (-1 : Int) ∧ (-1 : Int) < h 98 1; omega
theorem A_sayers (hr : REL h) {k x y : Int} (h1 : sayersR (saySet (fun s d => amp (dC h (h 1 4)) 0 (h (h 1 4 + 9) 12) 0 (-1) s d) (h 36) (h (h 1 4) 0) (h (h 1 4) 4) (h (h 1 4) 5) (h (h 1 4) 6)) k x) (h2 : sayersR (saySet (ampR h) (tlM h) (h 98 1) (h 98 5) (h 98 6) (h 98 7)) k y) : x = y := by
  have te := hr.2.2.2.1
  have w0 : 0 ≤ h 98 6 := te.1.2.2.2.2.2.1.1
  have e0 : h (h 1 4) 0 = h 98 1 := te.c (i := 0) (by decide)
  have e4 : h (h 1 4) 4 = h 98 5 := te.c (i := 4) (by decide)
  have e5 : h (h 1 4) 5 = h 98 6 := te.c (i := 5) (by decide)
  have e6 : h (h 1 4) 6 = h 98 7 := te.c (i := 6) (by decide)
  rw [e0, e4, e5, e6, te.air (o := 12) (by decide) (by decide)] at h1
  exact sayersR.one (fun y _ _ => ⟨saySet_cong w0 (te.amp (by decide)) hr.tl, saySet_cong w0 (fun s d a b => (te.amp (by decide) s d a b).symm) (fun t a b => (hr.tl t a b).symm)⟩) h1 h2
theorem A_rivals (hr : REL h) {sh k x y : Int} (h1 : rivalsR (RvC h (h 1 4) sh (h (h 1 4 + 9) 12)) (EqC h (h 1 4) sh (h (h 1 4 + 9) 12)) (h (h 1 4) 0) k x) (h2 : rivalsR (RivM h sh) (EqM h sh) (h 98 1) k y) : x = y := by
  have te := hr.2.2.2.1
  have w0 : 0 ≤ h 98 6 := te.1.2.2.2.2.2.1.1
  have n8 := te.1.1
  rw [dM00] at n8
  have e0 : h (h 1 4) 0 = h 98 1 := te.c (i := 0) (by decide)
  have e4 : h (h 1 4) 4 = h 98 5 := te.c (i := 4) (by decide)
  have e5 : h (h 1 4) 5 = h 98 6 := te.c (i := 5) (by decide)
  have e6 : h (h 1 4) 6 = h 98 7 := te.c (i := 6) (by decide)
  obtain ⟨s1', s2, s3, s4⟩ := hr.2.2.2.2.2.1.2.1
  have eL : ∀ s, 0 ≤ s → s < h 98 1 → dC h (h 1 4) 1 s = dM h 1 s := fun s s0 q => ((te.2.s s0 (by show s < dC h (h 1 4) 0 0; rw [dC0, e0]; exact q)).1).symm
  have eT : ∀ s, 0 ≤ s → s < h 98 1 → thT (dC h (h 1 4)) sh (h 104 12) s = thT (dM h) sh (h 104 12) s := fun s s0 q => by
    show dC h (h 1 4) 1 s * sh / 100 * h 104 12 / 100 = dM h 1 s * sh / 100 * h 104 12 / 100
    rw [eL s s0 q]
  have eE : EqC h (h 1 4) sh (h (h 1 4 + 9) 12) = EqM h sh := by
    unfold EqC EqM
    rw [e0, e4, e5, e6, te.air (o := 12) (by decide) (by decide)]
    exact eqA_cg w0 eL eT
  have lam : ∀ y t s, 0 ≤ s → s < h 98 1 → lamU (h 35) (ampY (dC h (h 1 4) 1) (thT (dC h (h 1 4)) sh (h 104 12)) y) 200 t s = lamL (ampY (dM h 1) (thT (dM h) sh (h 104 12)) y) (fun k => h 116 k) (fun k => h 117 k) (h 98 50).toNat t s := fun y t s s0 q => by
    have key := lamL_U (M := h 35) (A := ampY (dM h 1) (thT (dM h) sh (h 104 12)) y) (S := fun k => h 116 k) (T := fun k => h 117 k) (n := (h 98 50).toNat) (N := 200) (s := s) (fun k hk => by
      have := (s2 k (by omega) (by omega)).2
      exact ⟨this.1, by omega⟩) (fun u hu => s4 u s (by omega) s0 (by omega)) t
    rw [key]
    refine sg_cong (fun u _ => ?_)
    unfold ampY
    rw [eL s s0 q, eT s s0 q]
  have eR : RvC h (h 1 4) sh (h (h 1 4 + 9) 12) = RivM h sh := by
    funext y
    unfold RvC RivM RivP
    rw [e0, e4, e5, e6, te.air (o := 12) (by decide) (by decide)]
    refine propext ⟨fun z => ⟨z.1, ?_⟩, fun z => ⟨z.1, ?_⟩⟩
    · exact toldAs_cg w0 (fun t s _ a b => lam y t s a b) hr.tl z.2
    · exact toldAs_cg w0 (fun t s _ a b => (lam y t s a b).symm) (fun t a b => (hr.tl t a b).symm) z.2
  rw [eE, eR, e0] at h1
  exact h1.one h2
theorem REL.ears (hr : REL h) : (∀ e, e = 0 ∨ e = 1 ∨ e = 2 → h 38 e = h 128 (2 * e) ∧ h 39 e = h 128 (2 * e + 1)) ∧ earsIn h 34 := by
  obtain ⟨-, -, -, -, st⟩ := hr.2.2.2.2.2.1
  exact ⟨fun e he => (st e (by omega) (by omega)).1, fun e a b => (st e a b).2⟩
theorem REL.plc (hr : REL h) (a b : Int) : plc (fun e => h 38 e) (fun e => h 39 e) a b = plc (fun e => h 128 (2 * e)) (fun e => h 128 (2 * e + 1)) a b := by
  have E := hr.ears.1
  funext k
  have t : ∀ e, e = 0 ∨ e = 1 ∨ e = 2 → ∀ x y, tick (fun e => h 38 e) (fun e => h 39 e) e x y = tick (fun e => h 128 (2 * e)) (fun e => h 128 (2 * e + 1)) e x y := fun e he x y => by
    show ((rootN ((x - h 38 e) * (x - h 38 e) + (y - h 39 e) * (y - h 39 e)).toNat : Nat) : Int) = ((rootN ((x - h 128 (2 * e)) * (x - h 128 (2 * e)) + (y - h 128 (2 * e + 1)) * (y - h 128 (2 * e + 1))).toNat : Nat) : Int)
    rw [(E e he).1, (E e he).2]
  show mat _ _ a b _ _ = mat _ _ a b _ _
  unfold mat
  rw [t 0 (by decide), t 1 (by decide), t 2 (by decide)]
theorem matchR.one {p : Nat → Bool} {i x y : Int} (h1 : matchR p i x) (h2 : matchR p i y) : x = y := by
  rcases h1 with ⟨a, b⟩ | ⟨a, b, c, d, e⟩ <;> rcases h2 with ⟨a', b'⟩ | ⟨a', b', c', d', e'⟩
  · rw [b, b']
  · omega
  · omega
  · have := nth_one d d' (e.trans e'.symm)
    omega
theorem matchR.okk {p : Nat → Bool} {i x : Int} (h1 : matchR p i x) : matchOk p i := by
  rcases h1 with ⟨a, b⟩ | ⟨a, b, c, d, e⟩
  · exact Or.inl a
  · refine Or.inr ⟨a, ?_⟩
    have := cnt_lt (p := p) (a := x.toNat) (b := 961) (by omega) d
    omega
theorem A_count (hr : REL h) {k : Int} (hk : 0 ≤ k ∧ k ≤ 10) : countV h k = countM h k := by
  obtain ⟨n, ⟨-, tp, -⟩, ⟨-, cn⟩, te, -, lv, -, -, ⟨g, D, ve, -⟩, -⟩ := hr
  unfold countV countM
  by_cases c1 : k ≤ 3
  · rw [if_pos c1, if_pos c1]; exact te.c ⟨hk.1, by omega⟩
  rw [if_neg c1, if_neg c1]
  by_cases c2 : k = 4
  · rw [if_pos c2, if_pos c2]; exact lv.1.1
  rw [if_neg c2, if_neg c2]
  by_cases c3 : k = 5
  · rw [if_pos c3, if_pos c3]; exact lv.1.2.1
  rw [if_neg c3, if_neg c3]
  by_cases c4 : k = 6
  · rw [if_pos c4, if_pos c4]; exact tp.symm
  rw [if_neg c4, if_neg c4]
  by_cases c5 : k = 10
  · rw [if_pos c5, if_pos c5]
    obtain ⟨hv, -, e2, -⟩ := ve
    rw [hv.2.2.2.1.2.2.1]
    exact (all_s (te.d e2)).symm
  rw [if_neg c5, if_neg c5]
  exact (cn (k - 7) (by omega) (by omega)).symm
theorem A_wall (hr : REL h) {w k : Int} (hw : 0 ≤ w ∧ w < h 98 2) (hk : 0 ≤ k ∧ k ≤ 5) : wallV h (h 1 4) w k = h 100 (6 * w + k) := by
  have te := hr.2.2.2.1
  have e1 : h (h 1 4) 1 = h 98 2 := te.c (i := 1) (by decide)
  obtain ⟨b1, b2, b3, b4⟩ := te.2.w hw.1 (by show w < dC h (h 1 4) 0 1; rw [dC0, e1]; exact hw.2)
  unfold wallV
  by_cases c1 : k < 3
  · rw [if_pos c1]
    refine (b1 k hk.1 c1).symm.trans ?_
    show h 100 (6 * ((w * 3 + k) / 3) + (w * 3 + k) % 3) = _
    congr 1
    omega
  rw [if_neg c1]
  by_cases c2 : k = 3
  · rw [if_pos c2, c2]; exact b2.symm
  rw [if_neg c2]
  by_cases c3 : k = 4
  · rw [if_pos c3, c3]; exact b3.symm
  rw [if_neg c3, show k = 5 by omega]
  exact b4.symm
theorem REL.wordLen (hr : REL h) {w : Int} (w0 : 0 ≤ w) (w1 : w < h 98 3) : h (h 1 4 + 11) w = h 101 (6 * w + 1) := by
  have te := hr.2.2.2.1
  have e1 : h (h 1 4) 2 = h 98 3 := te.c (i := 2) (by decide)
  exact ((te.2.o w0 (by show w < dC h (h 1 4) 0 2; rw [dC0, e1]; exact w1)).2.1).symm
theorem A_word (hr : REL h) {w k : Int} (hw : 0 ≤ w ∧ w < h 98 3) (hk : 0 ≤ k ∧ k < 2 + h 101 (6 * w + 1)) : wordV h (h 1 4) w k = h 101 (6 * w + k) := by
  have te := hr.2.2.2.1
  have wl := hr.wordLen hw.1 hw.2
  have e1 : h (h 1 4) 2 = h 98 3 := te.c (i := 2) (by decide)
  have wo := (te.1.2.2.2.2.2.2.2.2.2.2.2.2.2.1 w hw.1 hw.2).2.1.2
  have wo' : h 101 (6 * w + 1) ≤ 4 := wo
  obtain ⟨b1, b2, b3⟩ := te.2.o hw.1 (by show w < dC h (h 1 4) 0 2; rw [dC0, e1]; exact hw.2)
  unfold wordV
  by_cases c1 : k = 0
  · rw [if_pos c1, c1, Int.add_zero]; exact b1.symm
  rw [if_neg c1]
  by_cases c2 : k = 1
  · rw [if_pos c2, c2]; exact b2.symm
  rw [if_neg c2, show w * 4 + k - 2 = w * 4 + (k - 2) by omega]
  refine (b3 (k - 2) (by omega) (by show k - 2 < h (h 1 4 + 11) w; omega)).symm.trans ?_
  show h 101 (6 * ((w * 4 + (k - 2)) / 4) + 2 + (w * 4 + (k - 2)) % 4) = _
  congr 1
  omega
end
