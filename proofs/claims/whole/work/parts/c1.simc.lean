/-! ===== the same told: lines, and all that is said of them, are the same ===== -/
section
variable {E D : DT}
theorem simD.symm (h : simD E D) : simD D E := by
  obtain ⟨a0, a1, a3, a4, a8, a9, a10, a13⟩ := h
  refine ⟨fun i x y => (a0 i x y).symm, fun s x y => ?_, fun s x y => (a3 s x y).symm, fun w x y => ?_, fun e x y => (a8 e x y).symm, fun o x y => (a9 o x y).symm, fun w x y => ?_, fun f x y => ?_⟩
  · rw [a0 0 (by decide) (by decide)] at y
    exact ⟨(a1 s x y).1.symm, (a1 s x y).2.symm⟩
  · rw [a0 1 (by decide) (by decide)] at y
    obtain ⟨b1, b2, b3, b4⟩ := a4 w x y
    exact ⟨fun e p q => (b1 e p q).symm, b2.symm, b3.symm, b4.symm⟩
  · rw [a0 2 (by decide) (by decide)] at y
    obtain ⟨b1, b2, b3⟩ := a10 w x y
    exact ⟨b1.symm, b2.symm, fun i p q => by rw [b2] at q; exact (b3 i p q).symm⟩
  · rw [a0 3 (by decide) (by decide)] at y
    obtain ⟨b1, b2⟩ := a13 f x y
    exact ⟨b1.symm, fun i p q => by rw [b1] at q; exact (b2 i p q).symm⟩
theorem simD.ok (h : simD E D) (ho : okD E) : okD D := by
  obtain ⟨a0, a1, a3, a4, a8, a9, a10, a13⟩ := h
  obtain ⟨o0, o1, o2, o3, o4, o5, o6, p1, p3, p4, p8, p80, p9, p10, p13⟩ := ho
  have z0 := a0 0 (by decide) (by decide)
  have z1 := a0 1 (by decide) (by decide)
  have z2 := a0 2 (by decide) (by decide)
  have z3 := a0 3 (by decide) (by decide)
  refine ⟨by rw [z0]; exact o0, by rw [z1]; exact o1, by rw [z2]; exact o2, by rw [z3]; exact o3, by rw [a0 4 (by decide) (by decide)]; exact o4, by rw [a0 5 (by decide) (by decide)]; exact o5, by rw [a0 6 (by decide) (by decide)]; exact o6, fun s x y => ?_, fun s x y => by rw [a3 s x y]; exact p3 s x y, fun w x y => ?_, fun e x y => by rw [a8 e x y]; exact p8 e x y, by rw [a8 0 (by decide) (by decide)]; exact p80, fun o x y => by rw [a9 o x y]; exact p9 o x y, fun w x y => ?_, fun f x y => ?_⟩
  · rw [z0] at y
    rw [(a1 s x y).1, (a1 s x y).2]; exact p1 s x y
  · rw [z1] at y
    obtain ⟨b1, b2, b3, b4⟩ := a4 w x y
    rw [b2, b3, b4]
    exact ⟨fun e p q => by rw [b1 e p q]; exact (p4 w x y).1 e p q, (p4 w x y).2⟩
  · rw [z2] at y
    obtain ⟨b1, b2, b3⟩ := a10 w x y
    rw [b1, b2]
    exact ⟨(p10 w x y).1, (p10 w x y).2.1, fun i p q => by rw [b3 i p q, z0]; exact (p10 w x y).2.2 i p q⟩
  · rw [z3] at y
    obtain ⟨b1, b2⟩ := a13 f x y
    rw [b1]
    exact ⟨(p13 f x y).1, fun i p q => by rw [b2 i p q]; exact (p13 f x y).2 i p q⟩
theorem simD.s (h : simD E D) {s : Int} (s0 : 0 ≤ s) (s1 : s < E 0 0) : D 1 s = E 1 s ∧ D 2 s = E 2 s := h.2.1 s s0 s1
theorem simD.w (h : simD E D) {w : Int} (w0 : 0 ≤ w) (w1 : w < E 0 1) : (∀ e, 0 ≤ e → e < 3 → D 4 (w * 3 + e) = E 4 (w * 3 + e)) ∧ D 5 w = E 5 w ∧ D 6 w = E 6 w ∧ D 7 w = E 7 w := h.2.2.2.1 w w0 w1
theorem simD.o (h : simD E D) {w : Int} (w0 : 0 ≤ w) (w1 : w < E 0 2) : D 10 w = E 10 w ∧ D 11 w = E 11 w ∧ ∀ i, 0 ≤ i → i < E 11 w → D 12 (w * 4 + i) = E 12 (w * 4 + i) := h.2.2.2.2.2.2.1 w w0 w1
theorem simD.f (h : simD E D) {f : Int} (f0 : 0 ≤ f) (f1 : f < E 0 3) : D 13 f = E 13 f ∧ ∀ i, 0 ≤ i → i < E 13 f → D 14 (f * 3 + i) = E 14 (f * 3 + i) := h.2.2.2.2.2.2.2 f f0 f1
theorem amp_s (h : simD E D) {ear air fog gone s d : Int} (e0 : 0 ≤ ear ∧ ear < 3) (s0 : 0 ≤ s) (s1 : s < E 0 0) : amp D ear air fog gone s d = amp E ear air fog gone s d := by
  unfold amp
  obtain ⟨q1, q2⟩ := h.s s0 s1
  rw [h.2.2.2.2.1 ear e0.1 e0.2, q1, h.c (i := 1) (by decide)]
  congr 1
  refine sg_cong (fun w hw => ?_)
  obtain ⟨b1, b2, b3, b4⟩ := h.w (w := w) (by omega) (by omega)
  unfold ampW mute
  rw [b3, q2, b4]
  by_cases c : (decide ((w : Int) = gone) || bt (E 6 w) (E 2 s).toNat) = true
  · rw [if_pos c, if_pos c]
  · rw [if_neg c, if_neg c]
    refine sg_cong (fun n hn => ?_)
    unfold ampN foggy
    rw [b1 ear e0.1 e0.2, q1, b2]
theorem kinds_s (h : simD E D) (k : Int) : kindsD D k = kindsD E k := by
  unfold kindsD
  rw [h.c (i := 2) (by decide)]
  refine sg_cong (fun w hw => ?_)
  show (if decide (D 10 w = k) = true then (1 : Int) else 0) = if decide (E 10 w = k) = true then 1 else 0
  rw [(h.o (w := w) (by omega) (by omega)).1]
theorem pr_cg {f g : Nat → Int} : ∀ {n : Nat}, (∀ i, i < n → f i = g i) → pr f n = pr g n
  | 0, _ => rfl
  | n + 1, e => by rw [pr, pr, pr_cg (n := n) (fun i hi => e i (by omega)), e n (by omega)]
theorem lines_s (h : simD E D) {f : Nat} (hf : (f : Int) < E 0 3) : linesD D f = linesD E f := by
  unfold linesD
  obtain ⟨b1, b2⟩ := h.f (f := f) (by omega) hf
  rw [b1]
  exact pr_cg (fun i hi => by rw [kinds_s h, b2 i (by omega) (by omega)])
theorem all_s (h : simD E D) : allD D = allD E := by
  unfold allD
  rw [h.c (i := 3) (by decide)]
  exact sg_cong (fun f hf => lines_s h (by omega))
theorem k14_s (h : simD E D) (ho : okD E) {f : Nat} (hf : (f : Int) < E 0 3) : D 14 ((f : Int) * 3) = E 14 ((f : Int) * 3) := by
  have L := (ho.2.2.2.2.2.2.2.2.2.2.2.2.2.2 f (by omega) hf).1
  have := (h.f (f := f) (by omega) hf).2 0 (by decide) (by omega)
  rw [Int.add_zero] at this
  exact this
theorem beg_s (h : simD E D) (ho : okD E) : begD D = begD E := by
  unfold begD
  rw [h.c (i := 3) (by decide)]
  refine sg_cong (fun f hf => ?_)
  unfold begF
  rw [lines_s h (by omega), k14_s h ho (by omega), kinds_s h]
theorem kp_s (h : simD E D) (k : Int) {n : Nat} (hn : (n : Int) ≤ E 0 2) : cnt (kp_ D k) n = cnt (kp_ E k) n := by
  refine sg_cong (fun w hw => ?_)
  show (if decide (D 10 w = k) = true then (1 : Int) else 0) = if decide (E 10 w = k) = true then 1 else 0
  rw [(h.o (w := w) (by omega) (by omega)).1]
theorem cK_s (h : simD E D) {f k : Int} (f0 : 0 ≤ f) (f1 : f < E 0 3) (k0 : 0 ≤ k) (k1 : k < E 13 f) : cK D f k = cK E f k := by
  unfold cK
  rw [kinds_s h, (h.f f0 f1).2 k k0 k1]
theorem rs_s (h : simD E D) {f i : Int} (f0 : 0 ≤ f) (f1 : f < E 0 3) : ∀ m : Nat, (m : Int) ≤ E 13 f → rsD D f i m = rsD E f i m
  | 0, _ => rfl
  | m + 1, hm => by
    rw [rsD, rsD, rs_s h f0 f1 m (by omega), (h.f f0 f1).1, cK_s h f0 f1 (k := E 13 f - 1 - m) (by omega) (by omega)]
theorem dig_s (h : simD E D) {f i k : Int} (f0 : 0 ≤ f) (f1 : f < E 0 3) (k0 : 0 ≤ k) (k1 : k < E 13 f) : digD D f i k = digD E f i k := by
  unfold digD
  rw [(h.f f0 f1).1, rs_s h f0 f1 _ (by omega), cK_s h f0 f1 k0 k1]
theorem lineW_s (h : simD E D) {f i : Int} {W : Int → Int} (f0 : 0 ≤ f) (f1 : f < E 0 3) (hl : lineW E f i W) : lineW D f i W := fun k k0 k1 => by
  obtain ⟨b1, b2⟩ := h.f f0 f1
  rw [b1] at k1
  obtain ⟨p1, p2, p3⟩ := hl k k0 k1
  rw [h.c (i := 2) (by decide), b2 k k0 k1, (h.o p1.1 p1.2).1]
  refine ⟨p1, p2, ?_⟩
  rw [kp_s h _ (by omega), dig_s h f0 f1 k0 k1]
  exact p3
theorem preW_s (h : simD E D) {W : Int → Int} {k : Nat} (hW : ∀ i : Nat, i < k → 0 ≤ W i ∧ W i < E 0 2) : preW D W k = preW E W k := sg_cong (fun i hi => (h.o (hW i hi).1 (hW i hi).2).2.1)
theorem isSay_s (h : simD E D) {W S : Int → Int} {L : Nat} (hW : ∀ i : Nat, i < L → 0 ≤ W i ∧ W i < E 0 2) (hs : isSay E W L S) : isSay D W L S := fun k hk j j0 j1 => by
  obtain ⟨c1, c2, c3⟩ := h.o (hW k hk).1 (hW k hk).2
  rw [c2] at j1
  rw [preW_s h (fun i hi => hW i (by omega)), c3 j j0 j1]
  exact hs k hk j j0 j1
theorem fitW_s (h : simD E D) {B : Int → Int} {w p : Int} (w0 : 0 ≤ w) (w1 : w < E 0 2) (hf : fitW E B w p) : fitW D B w p := fun i i0 i1 => by
  obtain ⟨c1, c2, c3⟩ := h.o w0 w1
  rw [c2] at i1
  rw [c3 i i0 i1]
  exact hf i i0 i1
theorem reach_s (h : simD E D) {B : Int → Int} {n f : Int} (f0 : 0 ≤ f) (f1 : f < E 0 3) : ∀ (k : Nat) (p : Int), (k : Int) ≤ E 13 f → reach E B n f k p → reach D B n f k p
  | 0, p, _, hr => hr
  | k + 1, p, hk, hr => by
    obtain ⟨w, q, ⟨w0, w1⟩, e, r, ft, ep, le⟩ := hr
    obtain ⟨c1, c2, c3⟩ := h.o w0 w1
    refine ⟨w, q, ⟨w0, by rw [h.c (i := 2) (by decide)]; exact w1⟩, ?_, reach_s h f0 f1 k q (by omega) r, fitW_s h w0 w1 ft, ?_, le⟩
    · rw [c1, (h.f f0 f1).2 k (by omega) (by omega)]; exact e
    · rw [c2]; exact ep
theorem isLineB_s (h : simD E D) (ho : okD E) {B : Int → Int} {n : Int} (hl : isLineB E B n) : isLineB D B n := by
  obtain ⟨f, ⟨f0, f1⟩, r⟩ := hl
  have L := (ho.2.2.2.2.2.2.2.2.2.2.2.2.2.2 f f0 f1).1
  refine ⟨f, ⟨f0, by rw [h.c (i := 3) (by decide)]; exact f1⟩, ?_⟩
  rw [(h.f f0 f1).1]
  exact reach_s h f0 f1 _ _ (by omega) r
theorem he_s (h : simD E D) (ho : okD E) {A B : Int → Int → Int} (hA : ∀ s d, 0 ≤ s → s < E 0 0 → B s d = A s d) (S : Int → Int) (n : Int) {t : Int} (t0 : 0 ≤ t) : heD D B S n t = heD E A S n t := by
  show hearF (lamT B S n) (D 0 0) (D 0 4) (D 0 5) (D 0 6) t = hearF (lamT A S n) (E 0 0) (E 0 4) (E 0 5) (E 0 6) t
  rw [h.c (i := 0) (by decide), h.c (i := 4) (by decide), h.c (i := 5) (by decide), h.c (i := 6) (by decide)]
  refine hearF_eq (HeardR.cong (fun t' s _ _ _ s0 s1 => ?_) t0 ho.2.2.2.2.2.1.1 (hearF_is _ _ _ _ _ _))
  exact sg_cong (fun k _ => by rw [hA s _ s0 s1])
theorem cH_cg {G H : Int → Int} (e : ∀ t, 0 ≤ t → G t = H t) (a : Int) (t : Nat) : cH G a t = cH H a t := by
  show sg (fun i : Nat => if decide (a ≤ (i : Int) ∧ ¬ G i = -1) = true then (1 : Int) else 0) t = sg (fun i : Nat => if decide (a ≤ (i : Int) ∧ ¬ H i = -1) = true then (1 : Int) else 0) t
  exact sg_cong (fun u _ => by rw [e u (by omega)])
theorem isRet_cg {G H B : Int → Int} {a n : Int} (e : ∀ t, 0 ≤ t → G t = H t) (h : isRet H a B n) : isRet G a B n := by
  obtain ⟨h1, h2⟩ := h
  refine ⟨by rw [cH_cg e]; exact h1, fun t t1 t2 t3 => ?_⟩
  rw [e t (by omega)] at t3 ⊢
  rw [cH_cg e]
  exact h2 t t1 t2 t3
theorem lineR_s (h : simD E D) (ho : okD E) {A A' : Int → Int → Int} (hA : ∀ s d, 0 ≤ s → s < E 0 0 → A' s d = A s d) {f i n : Int} {W S B : Int → Int} (f0 : 0 ≤ f) (f1 : f < E 0 3) (hl : lineR E A f i W S B n) : lineR D A' f i W S B n := by
  obtain ⟨l1, l2, l3⟩ := hl
  have hW : ∀ k : Nat, k < (E 13 f).toNat → 0 ≤ W k ∧ W k < E 0 2 := fun k hk => (l1 k (by omega) (by omega)).1
  refine ⟨lineW_s h f0 f1 l1, ?_, ?_⟩
  · rw [(h.f f0 f1).1]; exact isSay_s h hW l2
  · rw [(h.f f0 f1).1, preW_s h hW]
    exact isRet_cg (fun t t0 => he_s h ho hA S _ t0) l3
theorem Ans_s (h : simD E D) (ho : okD E) {A A' : Int → Int → Int} (hA : ∀ s d, 0 ≤ s → s < E 0 0 → A' s d = A s d) {f i : Int} (f0 : 0 ≤ f) (f1 : f < E 0 3) (hl : Ans E A f i) : Ans D A' f i := by
  obtain ⟨W, S, B, n, l, b⟩ := hl
  exact ⟨W, S, B, n, lineR_s h ho hA f0 f1 l, isLineB_s h ho b⟩
theorem Ech_s (h : simD E D) (ho : okD E) {A A' : Int → Int → Int} (hA : ∀ s d, 0 ≤ s → s < E 0 0 → A' s d = A s d) {f i : Int} (f0 : 0 ≤ f) (f1 : f < E 0 3) (hl : Ech E A f i) : Ech D A' f i := by
  obtain ⟨W, S, B, n, l, b, c⟩ := hl
  have L := (ho.2.2.2.2.2.2.2.2.2.2.2.2.2.2 f f0 f1).1
  have r := (l.1 (E 13 f - 1) (by omega) (by omega)).1
  refine ⟨W, S, B, n, lineR_s h ho hA f0 f1 l, ?_, ?_⟩
  · rw [(h.f f0 f1).1, (h.o r.1 r.2).2.1]; exact b
  · rw [(h.f f0 f1).1]; exact fitW_s h r.1 r.2 c
theorem ampA_s (h : simD E D) (ai fog gone : Int) : ∀ s d, 0 ≤ s → s < E 0 0 → ampA D ai fog gone s d = ampA E ai fog gone s d := fun s d s0 s1 => amp_s h (by decide) s0 s1
theorem AnsA_s (h : simD E D) (ho : okD E) {ai fog gone : Int} {f i : Int} (f0 : 0 ≤ f) (f1 : f < E 0 3) : Ans D (ampA D ai fog gone) f i ↔ Ans E (ampA E ai fog gone) f i :=
  ⟨Ans_s h.symm (h.ok ho) (ampA_s h.symm ai fog gone) f0 (by rw [h.c (i := 3) (by decide)]; exact f1), Ans_s h ho (ampA_s h ai fog gone) f0 f1⟩
theorem EchA_s (h : simD E D) (ho : okD E) {ai fog gone : Int} {f i : Int} (f0 : 0 ≤ f) (f1 : f < E 0 3) : Ech D (ampA D ai fog gone) f i ↔ Ech E (ampA E ai fog gone) f i :=
  ⟨Ech_s h.symm (h.ok ho) (ampA_s h.symm ai fog gone) f0 (by rw [h.c (i := 3) (by decide)]; exact f1), Ech_s h ho (ampA_s h ai fog gone) f0 f1⟩
/-! what is said of a predicate of lines -/
theorem befA_s (h : simD E D) {g j : Nat} : bef D (D 0 3).toNat 0 g j ↔ bef E (E 0 3).toNat 0 g j := by
  rw [bef_all, bef_all, h.c (i := 3) (by decide)]
  constructor
  · rintro ⟨a, b⟩; exact ⟨a, by rw [← lines_s h (by omega)]; exact b⟩
  · rintro ⟨a, b⟩; exact ⟨a, by rw [lines_s h (by omega)]; exact b⟩
theorem bef_f {E : DT} {g j : Nat} (hb : bef E (E 0 3).toNat 0 g j) : (g : Int) < E 0 3 := by
  rw [bef_all] at hb; omega
theorem psum_sm (h : simD E D) {F G : Nat → Nat → Int} (hF : ∀ g j : Nat, (g : Int) < E 0 3 → F g j = G g j) : psum D F (D 0 3).toNat 0 = psum E G (E 0 3).toNat 0 := by
  rw [h.c (i := 3) (by decide)]
  show sg (fun g => sg (F g) (linesD D g).toNat) (E 0 3).toNat + 0 = sg (fun g => sg (G g) (linesD E g).toNat) (E 0 3).toNat + 0
  congr 1
  refine sg_cong (fun g hg => ?_)
  rw [lines_s h (by omega)]
  exact sg_cong (fun j _ => hF g j (by omega))
theorem inC_cg {P Q : Int → Int → Prop} {g j : Nat} (e : P g j ↔ Q g j) : inC P g j = inC Q g j := by
  unfold inC
  rw [propext e]
theorem pre_s (h : simD E D) {f : Nat} (hf : (f : Int) ≤ E 0 3) : preN D f = preN E f := sg_cong (fun g hg => lines_s h (by omega))
theorem Len_s (h : simD E D) (ho : okD E) {f i n : Int} (f0 : 0 ≤ f) (f1 : f < E 0 3) (hl : LenR E f i n) : LenR D f i n := by
  obtain ⟨W, a, b⟩ := hl
  refine ⟨W, lineW_s h f0 f1 a, ?_⟩
  rw [(h.f f0 f1).1, preW_s h (fun k hk => (a k (by omega) (by omega)).1)]
  exact b
theorem plR_s (h : simD E D) (ho : okD E) {P Q : Int → Int → Prop} (e : ∀ g j : Nat, (g : Int) < E 0 3 → (P g j ↔ Q g j)) {N n : Int} (hp : plR E Q (E 0 3).toNat 0 N n) : plR D P (D 0 3).toNat 0 N n := by
  rcases hp with ⟨a, b, c⟩ | ⟨g, j, a, b, c, d, f⟩
  · exact Or.inl ⟨a, b, fun g j hb hp => c g j ((befA_s h).mp hb) ((e g j (bef_f ((befA_s h).mp hb))).mp hp)⟩
  · have g1 := bef_f a
    refine Or.inr ⟨g, j, (befA_s h).mpr a, (e g j g1).mpr b, by rw [pre_s h (by omega)]; exact c, Len_s h ho (by omega) g1 d, fun g' j' n' hb hp hl => ?_⟩
    have hb2 := (befA_s h).mp hb
    have g2 := bef_f hb2
    rw [pre_s h (by omega)]
    exact f g' j' n' hb2 ((e g' j' g2).mp hp) (Len_s h.symm (h.ok ho) (by omega) (by rw [h.c (i := 3) (by decide)]; exact g2) hl)
theorem spo_s (h : simD E D) (ho : okD E) {P Q : Int → Int → Prop} (e : ∀ g j : Nat, (g : Int) < E 0 3 → (P g j ↔ Q g j)) : spoD D P = spoD E Q := by
  unfold spoD
  rw [h.c (i := 3) (by decide)]
  refine sg_cong (fun f hf => ?_)
  have f1 : (f : Int) < E 0 3 := by omega
  have eo : obN D f = obN E f := by unfold obN; rw [lines_s h f1, k14_s h ho f1, kinds_s h]
  have ew : fwN D f = fwN E f := by unfold fwN; rw [k14_s h ho f1, kinds_s h]
  have eb : spB D P f = spB E Q f := by
    funext d
    unfold spB
    rw [eo]
    congr 1
    exact propext ⟨fun z j a b q => z j a b ((e f j f1).mpr q), fun z j a b q => z j a b ((e f j f1).mp q)⟩
  unfold spo
  rw [eo, ew, eb]
theorem linesR_s (h : simD E D) (ho : okD E) {ai k x : Int} (hr : linesR E ai k x) : linesR D ai k x := by
  have eA : ∀ g j : Nat, (g : Int) < E 0 3 → (Ans D (ampA D ai 0 (-1)) g j ↔ Ans E (ampA E ai 0 (-1)) g j) := fun g j hg => AnsA_s h ho (by omega) hg
  have eE : ∀ g j : Nat, (g : Int) < E 0 3 → (Ech D (ampA D ai 0 (-1)) g j ↔ Ech E (ampA E ai 0 (-1)) g j) := fun g j hg => EchA_s h ho (by omega) hg
  rcases hr with ⟨a, b⟩ | ⟨a, b⟩ | ⟨a, N, b⟩ | ⟨a, b⟩ | ⟨a, b⟩
  · exact Or.inl ⟨a, by rw [b]; exact (psum_sm h (fun g j hg => inC_cg (eA g j hg))).symm⟩
  · exact Or.inr (Or.inl ⟨a, by rw [b]; exact (psum_sm h (fun g j hg => inC_cg (eE g j hg))).symm⟩)
  · exact Or.inr (Or.inr (Or.inl ⟨a, N, plR_s h ho eA b⟩))
  · exact Or.inr (Or.inr (Or.inr (Or.inl ⟨a, by rw [b]; exact (spo_s h ho eA).symm⟩)))
  · exact Or.inr (Or.inr (Or.inr (Or.inr ⟨a, by rw [b]; exact (beg_s h ho).symm⟩)))
theorem AnsN_s (h : simD E D) {P Q : Int → Int → Prop} (e : ∀ g j : Nat, (g : Int) < E 0 3 → (P g j ↔ Q g j)) {M : Int} : AnsN D P M ↔ AnsN E Q M := by
  constructor
  · rintro ⟨g, j, a, b, c⟩
    have a2 := (befA_s h).mp a
    have g1 := bef_f a2
    exact ⟨g, j, a2, (e g j g1).mp b, by rw [← pre_s h (by omega)]; exact c⟩
  · rintro ⟨g, j, a, b, c⟩
    have g1 := bef_f a
    exact ⟨g, j, (befA_s h).mpr a, (e g j g1).mpr b, by rw [pre_s h (by omega)]; exact c⟩
theorem cA_s (h : simD E D) {P Q : Int → Int → Prop} (e : ∀ g j : Nat, (g : Int) < E 0 3 → (P g j ↔ Q g j)) (n : Nat) : cA D P n = cA E Q n := by
  unfold cA
  congr 1
  funext M
  rw [propext (AnsN_s h e)]
theorem ithR_s (h : simD E D) (ho : okD E) {P Q : Int → Int → Prop} (e : ∀ g j : Nat, (g : Int) < E 0 3 → (P g j ↔ Q g j)) {i N : Int} (hi : ithR E Q i N) : ithR D P i N := by
  rcases hi with ⟨a, n, b⟩ | ⟨a, b, c, d⟩ | ⟨a, b⟩
  · exact Or.inl ⟨a, n, plR_s h ho e b⟩
  · exact Or.inr (Or.inl ⟨a, b, (AnsN_s h e).mpr c, by rw [cA_s h e]; exact d⟩)
  · exact Or.inr (Or.inr ⟨a, by rw [cA_s h e, all_s h]; exact b⟩)
theorem partR_s (h : simD E D) {g j k x : Int} (f0 : 0 ≤ g) (f1 : g < E 0 3) (hp : partR E g j k x) : partR D g j k x := by
  unfold partR at hp ⊢
  rw [(h.f f0 f1).1]
  rcases hp with a | ⟨a, W, b, c⟩ | a
  · exact Or.inl a
  · exact Or.inr (Or.inl ⟨a, W, lineW_s h f0 f1 b, c⟩)
  · exact Or.inr (Or.inr a)
theorem lineOk_s (h : simD E D) (ho : okD E) {ai i : Int} (hr : lineOk E ai i) : lineOk D ai i := by
  obtain ⟨g, j, a, b⟩ := hr
  have g1 := bef_f a
  refine ⟨g, j, (befA_s h).mpr a, ?_⟩
  rw [pre_s h (by omega)]
  exact ithR_s h ho (fun g j hg => AnsA_s h ho (by omega) hg) b
theorem lineRes_s (h : simD E D) (ho : okD E) {ai i k x : Int} (hr : lineRes E ai i k x) : lineRes D ai i k x := by
  obtain ⟨g, j, a, b, c⟩ := hr
  have g1 := bef_f a
  refine ⟨g, j, (befA_s h).mpr a, ?_, partR_s h (by omega) g1 c⟩
  rw [pre_s h (by omega)]
  exact ithR_s h ho (fun g j hg => AnsA_s h ho (by omega) hg) b
theorem stillR_s (h : simD E D) (ho : okD E) {ai fog gone x : Int} (hr : stillR E ai fog gone x) : stillR D ai fog gone x := by
  unfold stillR at hr ⊢
  rw [hr]
  refine (psum_sm h (fun g j hg => inC_cg ?_)).symm
  exact ⟨fun ⟨p, q⟩ => ⟨(AnsA_s h ho (by omega) hg).mp p, (AnsA_s h ho (by omega) hg).mp q⟩, fun ⟨p, q⟩ => ⟨(AnsA_s h ho (by omega) hg).mpr p, (AnsA_s h ho (by omega) hg).mpr q⟩⟩
theorem ansFog_s (h : simD E D) (ho : okD E) {ai fog : Int} : ansFog D ai fog ↔ ansFog E ai fog := by
  constructor
  · rintro ⟨g, j, a, b, c⟩
    have a2 := (befA_s h).mp a
    have g1 := bef_f a2
    exact ⟨g, j, a2, (AnsA_s h ho (by omega) g1).mp b, (AnsA_s h ho (by omega) g1).mp c⟩
  · rintro ⟨g, j, a, b, c⟩
    have g1 := bef_f a
    exact ⟨g, j, (befA_s h).mpr a, (AnsA_s h ho (by omega) g1).mpr b, (AnsA_s h ho (by omega) g1).mpr c⟩
theorem lastsR_s (h : simD E D) (ho : okD E) {ai x : Int} (hr : lastsR E ai x) : lastsR D ai x := by
  rcases hr with ⟨a, b⟩ | ⟨a, b, c⟩
  · exact Or.inl ⟨a, fun z => b ((ansFog_s h ho).mp z)⟩
  · exact Or.inr ⟨a, (ansFog_s h ho (fog := x)).mpr b, fun fog f0 f1 z => c fog f0 f1 ((ansFog_s h ho (fog := fog)).mp z)⟩
end
theorem round_row {A : Int → Int → Int} {row sow : Int → Int} {R nS least : Int} {SW : Int → Int} {k x : Int} (er : ∀ i, 0 ≤ i → i < R → row i = sow i) (h1 : roundR A row R nS least SW k x) : roundR A sow R nS least SW k x := by
  have e : ∀ n : Int, clashN (lamR A row R n) nS least SW n.toNat = clashN (lamR A sow R n) nS least SW n.toNat := fun n => by
    refine clashN_cong (fun t s t0 t1 s0 s1 => ?_) (fun _ _ _ => rfl)
    refine sg_cong (fun d _ => ?_)
    have hm := Int.emod_nonneg (t - d) (b := n) (by omega)
    by_cases c : (t - d) % n < R
    · rw [er _ hm c]
    · rw [if_neg (by rw [decide_eq_false (fun z => c z.1)]; decide), if_neg (by rw [decide_eq_false (fun z => c z.1)]; decide)]
  rcases h1 with ⟨a, b⟩ | ⟨a, b⟩ | ⟨a, b⟩
  · exact Or.inl ⟨a, by rw [b, e]⟩
  · refine Or.inr (Or.inl ⟨a, ?_⟩)
    have : (fun y => clashN (lamR A row R (R + y)) nS least SW (R + y).toNat) = (fun y => clashN (lamR A sow R (R + y)) nS least SW (R + y).toNat) := funext (fun y => e (R + y))
    rw [← this]; exact b
  · exact Or.inr (Or.inr ⟨a, b⟩)
theorem hdA_cg {L T L' T' : Int → Int} {nS l w m y s t : Int} (hw : 0 ≤ w) (t0 : 0 ≤ t) (eL : ∀ s, 0 ≤ s → s < nS → L s = L' s) (eT : ∀ s, 0 ≤ s → s < nS → T s = T' s) (h : hdA L T nS l w m y s t) : hdA L' T' nS l w m y s t := by
  have r : 0 ≤ s ∧ s < nS := h.1.1
  refine heardAs_cong (fun t' s' _ _ _ _ _ => ?_) t0 hw h
  unfold lamA ampY
  rw [eL s r.1 r.2, eT s r.1 r.2]
theorem eqA_cg {L T L' T' : Int → Int} {nS l w m : Int} (hw : 0 ≤ w) (eL : ∀ s, 0 ≤ s → s < nS → L s = L' s) (eT : ∀ s, 0 ≤ s → s < nS → T s = T' s) : eqA L T nS l w m = eqA L' T' nS l w m := by
  funext s y q
  refine propext ⟨fun h t a b => ?_, fun h t a b => ?_⟩
  · exact ⟨fun z => hdA_cg hw a eL eT ((h t a b).mp (hdA_cg hw a (fun s p q => (eL s p q).symm) (fun s p q => (eT s p q).symm) z)), fun z => hdA_cg hw a eL eT ((h t a b).mpr (hdA_cg hw a (fun s p q => (eL s p q).symm) (fun s p q => (eT s p q).symm) z))⟩
  · exact ⟨fun z => hdA_cg hw a (fun s p q => (eL s p q).symm) (fun s p q => (eT s p q).symm) ((h t a b).mp (hdA_cg hw a eL eT z)), fun z => hdA_cg hw a (fun s p q => (eL s p q).symm) (fun s p q => (eT s p q).symm) ((h t a b).mpr (hdA_cg hw a eL eT z))⟩
theorem toldAs_cg {Λ M : Int → Int → Int} {nS l w m : Int} {tl tm : Int → Int} (hw : 0 ≤ w) (e : ∀ t s, 0 ≤ t → 0 ≤ s → s < nS → Λ t s = M t s) (et : ∀ t, 0 ≤ t → t < 60 → tl t = tm t) (h : toldAs Λ nS l w m tl) : toldAs M nS l w m tm := fun t a b => by
  rw [← et t a b]
  exact HeardR.cong (fun t' s p _ _ q r => e t' s p q r) a hw (h t a b)
