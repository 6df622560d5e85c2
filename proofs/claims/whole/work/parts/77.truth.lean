/-! ===== which were said truly: words ===== -/
theorem amp_neg {D : DT} {ear air fog gone s d : Int} (hd : okD D) (he : 0 ≤ ear ∧ ear < 3) (d0 : d < 0) : amp D ear air fog gone s d = 0 := by
  have st := hd.2.2.2.2.2.2.2.2.2.2.1 ear he.1 he.2
  unfold amp
  rw [if_neg (by omega), sg_zero (fun w hw => ?_)]
  · rfl
  unfold ampW
  split
  · rfl
  · refine sg_zero (fun n _ => ?_)
    unfold ampN
    have := (hd.2.2.2.2.2.2.2.2.2.1 (w : Int) (by omega) (by omega)).1 ear he.1 he.2
    have := mul_rng (a := (n : Int) + 1) (b := D 4 ((w : Int) * 3 + ear)) (A := (n : Int) + 1) (B := 40) (by omega) (by omega) (by omega) this.2
    rw [if_neg (by omega)]
theorem cnt_mono {p : Nat → Bool} {a : Nat} : ∀ {b : Nat}, a ≤ b → cnt p a ≤ cnt p b
  | 0, h => by rw [show a = 0 by omega]; exact Int.le_refl _
  | b + 1, h => by
    by_cases e : a = b + 1
    · rw [e]; exact Int.le_refl _
    · have := cnt_mono (p := p) (a := a) (b := b) (by omega)
      have e2 : cnt p (b + 1) = cnt p b + if p b = true then 1 else 0 := rfl
      rw [e2]
      split <;> omega
theorem cnt_lt {p : Nat → Bool} {a b : Nat} (h : a < b) (hp : p a = true) : cnt p a < cnt p b := by
  have := cnt_mono (p := p) (a := a + 1) (b := b) (by omega)
  have e2 : cnt p (a + 1) = cnt p a + if p a = true then 1 else 0 := rfl
  rw [e2, if_pos hp] at this
  omega
def tb (tl : Int → Int) : Nat → Bool := fun u => decide (¬ tl u = -1)
def spotR (tl P : Int → Int) (n : Nat) : Prop := (n : Int) = min 14 (cnt (tb tl) 60) ∧ ∀ k : Nat, k < n → (0 ≤ P k ∧ P k < 60) ∧ tb tl (P k).toNat = true ∧ cnt (tb tl) (P k).toNat = k
theorem spotR.lt {tl P : Int → Int} {n : Nat} (h : spotR tl P n) {a b : Nat} (ha : a < b) (hb : b < n) : P a < P b := by
  have p := h.2 a (by omega)
  have q := h.2 b hb
  by_cases c : P a < P b
  · exact c
  · have := cnt_mono (p := tb tl) (a := (P b).toNat) (b := (P a).toNat) (by omega)
    omega
theorem spotR.one {tl P Q : Int → Int} {n m : Nat} (h1 : spotR tl P n) (h2 : spotR tl Q m) : n = m ∧ ∀ k : Nat, k < n → P k = Q k := by
  have e : n = m := by have := h1.1; have := h2.1; omega
  refine ⟨e, fun k hk => ?_⟩
  have p := h1.2 k hk
  have q := h2.2 k (by omega)
  rcases Nat.lt_trichotomy (P k).toNat (Q k).toNat with c | c | c
  · have := cnt_lt c p.2.1; omega
  · omega
  · have := cnt_lt c q.2.1; omega
def lamX (A : Int → Int → Int) (tl P : Int → Int) (n : Nat) (x : Int) (t s : Int) : Int := sg (fun k : Nat => if bt x k = true ∧ tl (P k) = s then A s (t - P k) else 0) n
def OKx (A : Int → Int → Int) (tl P : Int → Int) (n : Nat) (nS l w m x : Int) : Prop := ∀ t, 0 ≤ t → t < 60 → HeardR (lamX A tl P n x) nS l w m t (tl t)
/-- the answers over the sets S -/
def ansR (S : Int → Prop) (m f b : Int) : Prop := m = cnt (fun y => cl (S y)) 16384 ∧ ((f = -1 ∧ b = -1 ∧ ∀ y, 0 ≤ y → y < 16384 → ¬ S y) ∨ ((0 ≤ b ∧ b < 16384) ∧ S b ∧ f = pop16 b ∧ ∀ y, 0 ≤ y → y < 16384 → S y → pop16 b < pop16 y ∨ (pop16 b = pop16 y ∧ b ≤ y)))
theorem ansR.cong {S R : Int → Prop} {m f b : Int} (e : ∀ y, 0 ≤ y → y < 16384 → (S y ↔ R y)) (h : ansR S m f b) : ansR R m f b := by
  obtain ⟨h1, h2⟩ := h
  refine ⟨?_, ?_⟩
  · rw [h1]
    refine cnt_cong (fun y hy => ?_)
    have := e y (by omega) (by omega)
    by_cases c : S y
    · rw [cl_pos c, cl_pos (this.mp c)]
    · rw [cl_neg c, cl_neg (fun z => c (this.mpr z))]
  · rcases h2 with ⟨a, c, d⟩ | ⟨a, c, d, g⟩
    · exact Or.inl ⟨a, c, fun y p q z => d y p q ((e y p q).mpr z)⟩
    · exact Or.inr ⟨a, (e b a.1 a.2).mp c, d, fun y p q z => g y p q ((e y p q).mpr z)⟩
theorem ansR.one {S : Int → Prop} {m f b m' f' b' : Int} (h1 : ansR S m f b) (h2 : ansR S m' f' b') : m = m' ∧ f = f' ∧ b = b' := by
  obtain ⟨a1, a2⟩ := h1
  obtain ⟨c1, c2⟩ := h2
  refine ⟨by rw [a1, c1], ?_⟩
  rcases a2 with ⟨p1, p2, p3⟩ | ⟨p1, p2, p3, p4⟩ <;> rcases c2 with ⟨q1, q2, q3⟩ | ⟨q1, q2, q3, q4⟩
  · omega
  · exact absurd q2 (p3 _ q1.1 q1.2)
  · exact absurd p2 (q3 _ p1.1 p1.2)
  · have u := p4 b' q1.1 q1.2 q2
    have v := q4 b p1.1 p1.2 p2
    have e : b = b' := by omega
    rw [e] at p3
    omega
theorem cnt_pos {p : Nat → Bool} {n y : Nat} (hy : y < n) (hp : p y = true) : 0 < cnt p n := by
  have := cnt_lt hy hp
  have := cnt_rng p y
  omega
theorem cnt_or1 {S : Int → Prop} {y : Int} (y0 : 0 ≤ y) (y1 : y < 16384) (hn : ¬ S y) : cnt (fun z => cl (S z ∨ (z : Int) = y)) 16384 = cnt (fun z => cl (S z)) 16384 + 1 := by
  have h1 : (1 : Int) = sg (fun z => if z = y.toNat then 1 else 0) 16384 := by rw [sg_one, if_pos (by omega)]
  rw [h1]
  unfold cnt
  rw [← sg_add]
  refine sg_cong (fun z _ => ?_)
  by_cases e : (z : Int) = y
  · rw [if_pos (c := z = y.toNat) (by omega)]
    simp only [e]
    rw [cl_pos (Or.inr trivial), cl_neg hn]
    rfl
  · rw [if_neg (c := z = y.toNat) (by omega)]
    by_cases c : S z
    · rw [if_pos (cl_pos (Or.inl c)), if_pos (cl_pos c)]; rfl
    · have q : cl (S z ∨ (z : Int) = y) = false := cl_neg (fun w => w.elim c e)
      have q' : cl (S z) = false := cl_neg c
      rw [if_neg (by show ¬ cl (S z ∨ (z : Int) = y) = true; rw [q]; decide), if_neg (by show ¬ cl (S z) = true; rw [q']; decide)]; rfl
theorem c_take {fr : Nat} {y : Int} {S : Int → Prop} {h : AH} (hf : 1 ≤ fr) (y0 : 0 ≤ y) (y1 : y < 16384) (hn : ¬ S y) (ha : ansR S (h 89 0) (h 89 1) (h 89 2)) : Sp mX9_take true fr 0 0 [zR 88, zI y] 137 h (rV (fun h' => (∀ c, c ≠ 89 → h' c = h c) ∧ ansR (fun z => S z ∨ z = y) (h' 89 0) (h' 89 1) (h' 89 2))) := by
  refine Sp.mk yX9_take_ok rfl rfl ?_
  obtain ⟨a1, a2⟩ := ha
  have m := cnt_rng (fun y => cl (S y)) 16384
  have my : m16 y := ⟨y0, by omega⟩
  have py := pop16_rng y
  have c1 := cnt_or1 y0 y1 hn
  refine bX9_take_0 (hS := c_bits y0 (by omega)) (kk := ?_)
  rintro x h1 ⟨e1, hx⟩
  rw [e1]; clear e1 h1
  rw [pop_16 my] at hx
  have pb := pop16_rng (h 89 2)
  have take : (∀ z, 0 ≤ z → z < 16384 → S z → pop16 y < pop16 z ∨ (pop16 y = pop16 z ∧ y ≤ z)) → Wp mX9_take (kR fr 0 0) (rV (fun h' => (∀ c, c ≠ 89 → h' c = h c) ∧ ansR (fun z => S z ∨ z = y) (h' 89 0) (h' 89 1) (h' 89 2))) (0, 0) 44 [zR 88, zI y, zI x] [] 137 h := fun hb => by
    refine bX9_take_44 (kk := bX9_take_58 (hq := ⟨rfl, rfl, fun c hc => by rw [up_n hc, up_n hc, up_n hc], ?_, Or.inr ⟨⟨y0, y1⟩, Or.inr rfl, hx, fun z p q w => ?_⟩⟩))
    · show h 89 0 + 1 = _
      rw [a1]; exact c1.symm
    · rcases w with w | w
      · exact hb z p q w
      · exact Or.inr ⟨by rw [w]; rfl, by rw [w]; exact Int.le_refl _⟩
  have keep : ((0 ≤ h 89 2 ∧ h 89 2 < 16384) ∧ S (h 89 2) ∧ h 89 1 = pop16 (h 89 2) ∧ ∀ y, 0 ≤ y → y < 16384 → S y → pop16 (h 89 2) < pop16 y ∨ (pop16 (h 89 2) = pop16 y ∧ h 89 2 ≤ y)) → (pop16 (h 89 2) < pop16 y ∨ (pop16 (h 89 2) = pop16 y ∧ h 89 2 ≤ y)) → Wp mX9_take (kR fr 0 0) (rV (fun h' => (∀ c, c ≠ 89 → h' c = h c) ∧ ansR (fun z => S z ∨ z = y) (h' 89 0) (h' 89 1) (h' 89 2))) (0, 0) 58 [zR 88, zI y, zI x] [] 137 h := fun hb hl => by
    refine bX9_take_58 (hq := ⟨rfl, rfl, fun c hc => up_n hc, ?_, Or.inr ⟨hb.1, Or.inl hb.2.1, hb.2.2.1, fun z p q w => ?_⟩⟩)
    · show h 89 0 + 1 = _
      rw [a1]; exact c1.symm
    · rcases w with w | w
      · exact hb.2.2.2 z p q w
      · rw [w]; exact hl
  refine bX9_take_4 (r1 := by rw [a1]; omega) (kt := fun q => ?_) (kf := fun q => ?_)
  · refine take (fun z p r w => ?_)
    have := cnt_pos (p := fun y : Nat => cl (S y)) (n := 16384) (y := z.toNat) (by omega) (by rw [show ((z.toNat : Nat) : Int) = z by omega]; exact cl_pos w)
    omega
  · rcases a2 with ⟨p1, p2, p3⟩ | hb
    · exfalso
      apply q
      rw [a1]
      exact sg_zero (fun i hi => by have := cl_neg (p3 i (by omega) (by omega)); simp only [this]; rfl)
    · have hb' := hb
      obtain ⟨q1, q2, q3, q4⟩ := hb
      refine bX9_take_14 (r2 := by omega) (kt := fun w => take (fun z p r s => by have := q4 z p r s; omega)) (kf := fun w => ?_)
      refine bX9_take_24 (r2 := by omega) (kt := fun w2 => keep hb' (by omega)) (kf := fun w2 => ?_)
      exact bX9_take_34 (r2 := by omega) (kt := fun w3 => keep hb' (by omega)) (kf := fun w3 => take (fun z p r s => by have := q4 z p r s; omega))
/-! ===== the class: isHeardAsTold ===== -/
/-- the ticks ahead of t stand measured by Λ -/
def bstL (Λ : Int → Int → Int) (nS : Int) (h : AH) (t : Int) : Prop := ∀ t', 0 ≤ t' → t' < t → (0 ≤ h 52 t' ∧ h 52 t' ≤ 1000000) ∧ bestOf Λ nS t' (h 52 t') (h 53 t')
theorem bestOf_cong {Λ M : Int → Int → Int} {nS t m b : Int} (e : ∀ s, 0 ≤ s → s < nS → Λ t s = M t s) (h : bestOf Λ nS t m b) : bestOf M nS t m b := by
  rcases h with ⟨a, b, c⟩ | ⟨a, b, c⟩
  · exact Or.inl ⟨a, b, fun s p q => by rw [← e s p q]; exact c s p q⟩
  · have r := c.1
    refine Or.inr ⟨a, by rw [← e _ r.1 r.2]; exact b, r, fun s p q => ?_, fun s p q => ?_⟩
    · rw [← e s p q, ← e _ r.1 r.2]; exact c.2.1 s p q
    · rw [← e s p (by omega), ← e _ r.1 r.2]; exact c.2.2 s p q
abbrev kp5 (h h' : AH) : Prop := ∀ c, c ≠ 51 → c ≠ 52 → c ≠ 53 → c ≠ 54 → h' c = h c
theorem c_isHeardAsTold {fr : Nat} {g ai from_ to last : Int} {Λ : Int → Int → Int} {h : AH} (hf : 3 ≤ fr) (hg : isG g) (f5 : h 88 5 = g) (f6 : h 88 6 = 34) (f7 : h 88 7 = 51) (f8 : h 88 8 = 47) (hd : okD (dC h g)) (hv : valid h 47 g 0 ai 0 (-1)) (hai : 0 ≤ ai ∧ ai ≤ 100) (hz : sumZ h) (tl : ∀ t, 0 ≤ t → t < 60 → -1 ≤ h 36 t ∧ h 36 t < 8)
    (hla : -1 ≤ last ∧ last < 60) (hmk : ∀ u, 0 ≤ u → u ≤ last → (0 ≤ h 90 u ∧ h 90 u < 256) ∧ ∀ j : Nat, bt (h 90 u) j = true → (j : Int) < h g 0) (hft : 0 ≤ from_ ∧ from_ ≤ to ∧ to ≤ 60)
    (hΛ : ∀ t s, 0 ≤ s → s < h g 0 → lamU (fun u => h 90 u) (fun s d => amp (dC h g) 0 ai 0 (-1) s d) (last + 1).toNat t s = Λ t s) (hb : bstL Λ (h g 0) h from_) :
    Sp mX9_isHeardAsTold true fr 0 0 [zR 88, zI from_, zI to, zI last] 137 h (rI (fun x h' => (kp5 h h' ∧ sumZ h' ∧ ∀ t', 0 ≤ t' → t' < from_ → h' 52 t' = h 52 t' ∧ h' 53 t' = h 53 t') ∧ ((x = 1 ∧ bstL Λ (h g 0) h' to ∧ ∀ t, from_ ≤ t → t < to → HeardR Λ (h g 0) (h g 4) (h g 5) (h g 6) t (h 36 t)) ∨ (x = 0 ∧ ∃ t, from_ ≤ t ∧ t < to ∧ ¬ HeardR Λ (h g 0) (h g 4) (h g 5) (h g 6) t (h 36 t))))) := by
  refine Sp.mk yX9_isHeardAsTold_ok rfl rfl ?_
  have d5 := hd.2.2.2.2.2.1
  have d4 := hd.2.2.2.2.1
  have d6 := hd.2.2.2.2.2.2.1
  rw [dC0] at d5 d4 d6
  have gs : g < 47 ∨ (54 < g ∧ g < 88) := by unfold isG at hg; omega
  have hrng := valid_rng hv hd (by decide) (by decide) hai.1 hai.2
  obtain ⟨r1, r2, r3, r4, ⟨i3, i4, i5, i6⟩, r6, r7⟩ := ready2 (h1 := h) (g := g) (o := 47) (a := 90) (last := last) (N := 60) hg (Or.inl rfl) hv.1 hrng hd e90 (by decide) hla hmk hz
  refine bX9_isHeardAsTold_0 (c1 := by rw [f7]; exact e51) (hS := by rw [f7, f5, f8]; exact c_attend) (kk := ?_)
  rintro h2 rfl
  revert r1 r2 r3 r4 i3 i4 i5 i6 r6 r7
  generalize up (up (up (up (up (up h 51 3 g) 51 4 47) 51 5 90) 51 6 last) 51 7 0) 51 8 0 = h2
  intro r1 r2 r3 r4 i3 i4 i5 i6 r6 r7
  have hL : ∀ t s, 0 ≤ s → s < h g 0 → lamH h2 t s = Λ t s := fun t s a b => by
    have d0 := hd.1
    rw [dC0] at d0
    rw [r7, lamU_C hla.1 hv a b (by omega), hΛ t s a b]
  have eg2 : h2 g = h g := r4 g (by omega)
  have a5 : h2 51 5 < 51 ∨ 54 < h2 51 5 := by rw [i5]; decide
  refine bX9_isHeardAsTold_20 (kk := ?_)
  suffices K : ∀ (d : Nat) (t : Int) (h3 : AH) (x1 x3 : AV), from_ ≤ t → t + d = to → same5 h2 h3 → ptr h3 t → sumZ h3 → (∀ t', 0 ≤ t' → t' < from_ → h3 52 t' = h 52 t' ∧ h3 53 t' = h 53 t') → bstL Λ (h g 0) h3 t → (∀ u, from_ ≤ u → u < t → HeardR Λ (h g 0) (h g 4) (h g 5) (h g 6) u (h 36 u)) → Wp mX9_isHeardAsTold (kR fr 0 0) (rI (fun x h' => (kp5 h h' ∧ sumZ h' ∧ ∀ t', 0 ≤ t' → t' < from_ → h' 52 t' = h 52 t' ∧ h' 53 t' = h 53 t') ∧ ((x = 1 ∧ bstL Λ (h g 0) h' to ∧ ∀ t, from_ ≤ t → t < to → HeardR Λ (h g 0) (h g 4) (h g 5) (h g 6) t (h 36 t)) ∨ (x = 0 ∧ ∃ t, from_ ≤ t ∧ t < to ∧ ¬ HeardR Λ (h g 0) (h g 4) (h g 5) (h g 6) t (h 36 t))))) (0, 0) 23 [zR 88, x1, zI to, x3, zI t] [] 137 h3 by
    refine K (to - from_).toNat from_ h2 _ _ (Int.le_refl _) (by omega) ⟨fun _ _ _ _ _ => rfl, fun _ _ _ => rfl⟩ (r2.later hft.1) r3 (fun t' _ _ => by rw [r4 52 (by decide), r4 53 (by decide)]; exact ⟨rfl, rfl⟩) (fun t' a b => by rw [r4 52 (by decide), r4 53 (by decide)]; exact hb t' a b) (fun u a b => by omega)
  intro d
  induction d with
  | zero =>
    intro t h3 x1 x3 ft htd s5 p3 z3 old b3 told
    refine bX9_isHeardAsTold_23 (kt := fun _ => ?_) (kf := fun q => by omega)
    refine bX9_isHeardAsTold_68 (hq := ⟨_, rfl, rfl, ⟨fun c c1 c2 c3 c4 => by rw [s5.1 c c1 c2 c3 c4, r4 c c1], z3, old⟩, Or.inl ⟨rfl, ?_, ?_⟩⟩)
    · rw [show to = t by omega]; exact b3
    · intro u a b; exact told u a (by omega)
  | succ d ih =>
    intro t h3 x1 x3 ft htd s5 p3 z3 old b3 told
    have k3 : ∀ c, c ≠ 51 → c ≠ 52 → c ≠ 53 → c ≠ 54 → h3 c = h c := fun c c1 c2 c3 c4 => by rw [s5.1 c c1 c2 c3 c4, r4 c c1]
    have e88 : h3 88 = h 88 := k3 88 (by decide) (by decide) (by decide) (by decide)
    obtain ⟨at3, l3, g3⟩ := s5.lam r1 a5
    have e3 : h3 51 3 = g := by rw [s5.2 3 (by decide) (by decide), i3]
    have e5 : h3 51 5 = 90 := by rw [s5.2 5 (by decide) (by decide), i5]
    refine bX9_isHeardAsTold_23 (kt := fun q => by omega) (kf := fun _ => ?_)
    refine bX9_isHeardAsTold_29 (c1 := by rw [e88, f7]; exact e51) (hS := by rw [e88, f7]; exact c_measure (by omega) at3 (by rw [e5]; decide) (by omega) p3 z3) (kk := ?_)
    intro h4 m4
    have s54 := s5.tr m4.same
    have k4 : ∀ c, c ≠ 51 → c ≠ 52 → c ≠ 53 → c ≠ 54 → h4 c = h c := fun c c1 c2 c3 c4 => by rw [s54.1 c c1 c2 c3 c4, r4 c c1]
    have e884 : h4 88 = h 88 := k4 88 (by decide) (by decide) (by decide) (by decide)
    have e34 : h4 51 3 = g := by rw [s54.2 3 (by decide) (by decide), i3]
    have eg4 : h4 g = h g := k4 g (by omega) (by omega) (by omega) (by omega)
    have b4 : bstL Λ (h g 0) h4 (t + 1) := fun t' a b => by
      by_cases e : t' = t
      · rw [e]
        have q := m4.2.2.2.2.2
        rw [l3, e3, k3 g (by omega) (by omega) (by omega) (by omega)] at q
        exact ⟨q.1, bestOf_cong (fun s p r => hL t s p r) q.2⟩
      · have := m4.2.2.1 t' e
        rw [this.1, this.2]
        exact b3 t' a (by omega)
    have old4 : ∀ t', 0 ≤ t' → t' < from_ → h4 52 t' = h 52 t' ∧ h4 53 t' = h 53 t' := fun t' a b => by
      have := m4.2.2.1 t' (by omega)
      rw [this.1, this.2]; exact old t' a b
    refine bX9_isHeardAsTold_38 (c1 := by rw [e884, f7]; exact e51) (hS := by rw [e884, f7]; exact c_hears (Λ := Λ) (by omega) (by rw [e34]; exact hg) (by omega) (by rw [e34, eg4]; exact d4) (by rw [e34, eg4]; exact d5) (by rw [e34, eg4]; exact d6) (by rw [e34, eg4]; exact fun t' p q r => b4 t' p (by omega))) (kk := ?_)
    rintro x h5 ⟨rfl, hx⟩
    rw [e34, eg4] at hx
    have e36 : h5 (34 + 2) = h 36 := k4 36 (by decide) (by decide) (by decide) (by decide)
    have ht36 := tl t (by omega) (by omega)
    have hrg := hx.range
    have d0 := hd.1
    rw [dC0] at d0
    refine bX9_isHeardAsTold_47 (c1 := by rw [e884, f6]; exact Jvm.Pilot.CEchoGorgeLaw_law_r6771_a85480.e34) (r2 := by omega) (r3 := by rw [e884, f6, e36]; omega) (kt := fun q => ?_) (kf := fun q => ?_)
    · rw [e884, f6, e36] at q
      refine bX9_isHeardAsTold_62 (kk := ih (t + 1) h5 _ _ (by omega) (by omega) s54 (m4.2.2.2.2.1.later (by omega)) m4.2.2.2.1 old4 b4 (fun u a b => ?_))
      by_cases e : u = t
      · rw [e, ← q]; exact hx
      · exact told u a (by omega)
    · rw [e884, f6, e36] at q
      refine bX9_isHeardAsTold_60 (hq := ⟨_, rfl, rfl, ⟨k4, m4.2.2.2.1, old4⟩, Or.inr ⟨rfl, t, ft, by omega, fun z => q (hx.one z)⟩⟩)
