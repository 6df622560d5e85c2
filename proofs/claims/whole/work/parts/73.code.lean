/-! ===== the class: which gaps fall together; code ===== -/
/-- a sound clapped twice -/
def lamG (A : Int → Int → Int) (s g : Int) : Int → Int → Int := fun t s' => if s' = s then A s t + A s (t - (g + 2)) else 0
def togB (H : Int → Int → Prop) (k : Int) (a j : Nat) : Prop := (j < 16 ∧ ¬ a = j) ∧ (((a : Int) < k ∧ H a j) ∨ ((j : Int) < k ∧ H j a))
def togP (H : Int → Int → Prop) (k : Int) (T : Int → Int) : Prop := ∀ a : Nat, a < 16 → m16 (T a) ∧ ∀ j : Nat, bt (T a) j = true ↔ togB H k a j
def togQ (H : Int → Int → Prop) (k m : Int) (T : Int → Int) : Prop := ∀ a : Nat, a < 16 → m16 (T a) ∧ ∀ j : Nat, bt (T a) j = true ↔ (togB H k a j ∨ ((j < 16 ∧ ¬ a = j) ∧ (((a : Int) = k ∧ H a j) ∨ ((j : Int) = k ∧ (a : Int) < m ∧ H j a))))
theorem togQ.next {H : Int → Int → Prop} {k m : Int} {T : Int → Int} (hm : 16 ≤ m) (h : togQ H k m T) : togP H (k + 1) T := by
  intro a ha
  refine ⟨(h a ha).1, fun j => ((h a ha).2 j).trans ?_⟩
  unfold togB
  constructor
  · rintro (⟨x, ⟨y, z⟩ | ⟨y, z⟩⟩ | ⟨x, ⟨y, z⟩ | ⟨y, -, z⟩⟩)
    · exact ⟨x, Or.inl ⟨by omega, z⟩⟩
    · exact ⟨x, Or.inr ⟨by omega, z⟩⟩
    · exact ⟨x, Or.inl ⟨by omega, z⟩⟩
    · exact ⟨x, Or.inr ⟨by omega, z⟩⟩
  · rintro ⟨x, ⟨y, z⟩ | ⟨y, z⟩⟩
    · by_cases e : (a : Int) = k
      · exact Or.inr ⟨x, Or.inl ⟨e, z⟩⟩
      · exact Or.inl ⟨x, Or.inl ⟨by omega, z⟩⟩
    · by_cases e : (j : Int) = k
      · exact Or.inr ⟨x, Or.inr ⟨e, by omega, z⟩⟩
      · exact Or.inl ⟨x, Or.inr ⟨by omega, z⟩⟩
theorem togP.sym {H : Int → Int → Prop} {T : Int → Int} (h : togP H 16 T) : symT T := by
  refine ⟨fun a ha => (h a ha).1, fun a b ha hb => ⟨?_, ?_⟩⟩
  · have p := (h a ha).2 b
    have q := (h b hb).2 a
    have pq : bt (T a) b = true ↔ bt (T b) a = true := by
      rw [p, q]
      unfold togB
      constructor
      · rintro ⟨⟨x, y⟩, z | z⟩
        · exact ⟨⟨ha, fun e => y e.symm⟩, Or.inr z⟩
        · exact ⟨⟨ha, fun e => y e.symm⟩, Or.inl z⟩
      · rintro ⟨⟨x, y⟩, z | z⟩
        · exact ⟨⟨hb, fun e => y e.symm⟩, Or.inr z⟩
        · exact ⟨⟨hb, fun e => y e.symm⟩, Or.inl z⟩
    cases e1 : bt (T a) b <;> cases e2 : bt (T b) a <;> simp_all
  · cases e : bt (T a) a with
    | false => rfl
    | true => exact absurd rfl (((h a ha).2 a).mp e).1.2
theorem togP.one {H G : Int → Int → Prop} {T U : Int → Int} (e : ∀ a j : Nat, a < 16 → j < 16 → (H a j ↔ G a j)) (h1 : togP H 16 T) (h2 : togP G 16 U) : ∀ a : Nat, a < 16 → T a = U a := by
  intro a ha
  refine bt_ext (h1 a ha).1.1 (h2 a ha).1.1 (fun j => ?_)
  have p := (h1 a ha).2 j
  have q := (h2 a ha).2 j
  have pq : bt (T a) j = true ↔ bt (U a) j = true := by
    rw [p, q]
    unfold togB
    constructor
    · rintro ⟨x, ⟨y, z⟩ | ⟨y, z⟩⟩
      · exact ⟨x, Or.inl ⟨y, (e a j ha x.1).mp z⟩⟩
      · exact ⟨x, Or.inr ⟨y, (e j a x.1 ha).mp z⟩⟩
    · rintro ⟨x, ⟨y, z⟩ | ⟨y, z⟩⟩
      · exact ⟨x, Or.inl ⟨y, (e a j ha x.1).mpr z⟩⟩
      · exact ⟨x, Or.inr ⟨y, (e j a x.1 ha).mpr z⟩⟩
  cases e1 : bt (T a) j <;> cases e2 : bt (U a) j <;> simp_all
theorem lamU_G {M : Int → Int} {A : Int → Int → Int} {s g t s' : Int} (s0 : 0 ≤ s) (s1 : s < 16) (s0' : 0 ≤ s') (g0 : 0 ≤ g) (hM : ∀ u, 0 ≤ u → u ≤ g + 2 → M u = if u = 0 ∨ u = g + 2 then 1 * 2 ^ s.toNat else 0) : lamU M A (g + 2 + 1).toNat t s' = lamG A s g t s' := by
  obtain ⟨-, o2⟩ := one16 s0 s1
  unfold lamU lamG
  by_cases e : s' = s
  · rw [if_pos e, e]
    rw [sg_cong (g := fun u : Nat => (if u = 0 then A s t else 0) + (if u = (g + 2).toNat then A s (t - (g + 2)) else 0)) (fun u hu => ?_), sg_add, sg_one, sg_one, if_pos (by omega), if_pos (by omega)]
    rw [hM u (by omega) (by omega)]
    by_cases c : (u : Int) = 0
    · rw [if_pos (c := (u : Int) = 0 ∨ (u : Int) = g + 2) (Or.inl c), o2, decide_eq_true rfl, if_pos rfl, if_pos (c := u = 0) (by omega), if_neg (c := u = (g + 2).toNat) (by omega), c, Int.sub_zero, Int.add_zero]
    · by_cases c2 : (u : Int) = g + 2
      · rw [if_pos (c := (u : Int) = 0 ∨ (u : Int) = g + 2) (Or.inr c2), o2, decide_eq_true rfl, if_pos rfl, if_neg (c := u = 0) (by omega), if_pos (c := u = (g + 2).toNat) (by omega), c2, Int.zero_add]
      · rw [if_neg (c := (u : Int) = 0 ∨ (u : Int) = g + 2) (by omega), bt_zero, if_neg (c := u = 0) (by omega), if_neg (c := u = (g + 2).toNat) (by omega)]
        rfl
  · rw [if_neg e]
    refine sg_zero (fun u hu => ?_)
    rw [hM u (by omega) (by omega)]
    split
    · rw [o2, decide_eq_false (by omega)]; rfl
    · rw [bt_zero]; rfl
theorem Hd_cong {Λ M : Int → Int → Int} {nS least win mar t : Int} (hc : ∀ t' s, 0 ≤ s → s < nS → Λ t' s = M t' s) (ht : 0 ≤ t) (hw : 0 ≤ win) : Hd Λ nS least win mar t ↔ Hd M nS least win mar t :=
  ⟨fun ⟨b, z⟩ => ⟨b, heardAs_cong (fun t' s _ _ _ p q => hc t' s p q) ht hw z⟩, fun ⟨b, z⟩ => ⟨b, heardAs_cong (fun t' s _ _ _ p q => (hc t' s p q).symm) ht hw z⟩⟩
/-- gap a sounds at gap j -/
def gapH (A : Int → Int → Int) (nS least win mar s : Int) : Int → Int → Prop := fun a j => Hd (lamG A s a) nS least win mar (j + 2)
abbrev kpC (h h' : AH) : Prop := (∀ c, c ≠ 51 → c ≠ 52 → c ≠ 53 → c ≠ 54 → c ≠ 96 → c ≠ 97 → h' c = h c)
theorem c_compare {fr : Nat} {g s ai : Int} {h : AH} (hf : 4 ≤ fr) (hg : isG g) (hd : okD (dC h g)) (hv : valid h 47 g 0 ai 0 (-1)) (hai : 0 ≤ ai ∧ ai ≤ 100) (hz : sumZ h) (s0 : 0 ≤ s) (s1 : s < h g 0) :
    Sp mX1_compare true fr 0 0 [zR 95, zR g, zR 51, zR 47, zI s] 137 h (rV (fun h' => (kpC h h' ∧ sumZ h') ∧ togP (gapH (fun s d => amp (dC h g) 0 ai 0 (-1) s d) (h g 0) (h g 4) (h g 5) (h g 6) s) 16 (fun a => h' 96 a))) := by
  refine Sp.mk yX1_compare_ok rfl rfl ?_
  have d0 := hd.1
  have d5 := hd.2.2.2.2.2.1
  rw [dC0] at d0 d5
  have gs : ∀ k, 0 ≤ k → k ≤ 14 → g + k < 47 ∨ (54 < g + k ∧ g + k < 90) := fun k a b => by unfold isG at hg; omega
  have g00 := gs 0 (by decide) (by decide)
  rw [Int.add_zero] at g00
  generalize hH : gapH (fun s d => amp (dC h g) 0 ai 0 (-1) s d) (h g 0) (h g 4) (h g 5) (h g 6) s = H
  have s8 : s < 8 := by omega
  have hrng := valid_rng hv hd (by decide) (by decide) hai.1 hai.2
  refine bX1_compare_0 (hS := c_fill e96) (kk := ?_)
  rintro h1 rfl
  refine bX1_compare_8 (hS := c_fill e97) (kk := ?_)
  rintro h1 rfl
  refine bX1_compare_16 (kk := ?_)
  suffices K : ∀ (d k : Nat) (h1 : AH) (x6 x7 x8 : AV), k + d = 16 → kpC h h1 → sumZ h1 → (∀ u, 0 ≤ u → u < 18 → h1 97 u = if u = 0 then 1 * 2 ^ s.toNat else 0) → togP H k (fun a => h1 96 a) → Wp mX1_compare (kR fr 0 0) (rV (fun h' => (kpC h h' ∧ sumZ h') ∧ togP H 16 (fun a => h' 96 a))) (0, 0) 29 [zR 95, zR g, zR 51, zR 47, zI s, zI k, x6, x7, x8] [] 137 h1 by
    refine K 16 0 _ _ _ _ (by omega) (fun c _ _ _ _ c6 c7 => ?_) (fun j a b => ?_) (fun u a b => ?_) (fun a ha => ?_)
    · rw [up_n c7]; unfold fil; rw [if_neg c7, if_neg c6]
    · rw [up_n (by decide)]; unfold fil; rw [if_neg (by decide), if_neg (by decide)]; exact hz j a b
    · by_cases e : u = 0
      · rw [if_pos e, e, up_ci]
      · rw [if_neg e, up_cn e]; unfold fil; rw [if_pos rfl, if_pos (by omega)]
    · have e0 : up (fil (fil h 96 0 16) 97 0 18) 97 0 (1 * 2 ^ s.toNat) 96 a = 0 := by
        rw [up_n (by decide)]; unfold fil; rw [if_neg (by decide), if_pos rfl, if_pos (by omega)]
      show m16 (up (fil (fil h 96 0 16) 97 0 18) 97 0 (1 * 2 ^ s.toNat) 96 a) ∧ ∀ j : Nat, bt (up (fil (fil h 96 0 16) 97 0 18) 97 0 (1 * 2 ^ s.toNat) 96 a) j = true ↔ togB H 0 a j
      rw [e0]
      refine ⟨by constructor <;> decide, fun j => ⟨fun z => (by rw [bt_zero] at z; cases z), fun z => ?_⟩⟩
      rcases z.2 with w | w <;> omega
  intro d
  induction d with
  | zero =>
    intro k h1 x6 x7 x8 hk kp hz1 h97 ht
    refine bX1_compare_29 (kt := fun _ => ?_) (kf := fun q => by omega)
    refine bX1_compare_141 (hq := ⟨rfl, rfl, ⟨kp, hz1⟩, ?_⟩)
    rw [show (16 : Int) = k by omega]
    exact ht
  | succ d ih =>
    intro k h1 x6 x7 x8 hk kp hz1 h97 ht
    refine bX1_compare_29 (kt := fun q => by omega) (kf := fun _ => ?_)
    refine bX1_compare_36 (hS := c_attend) (kk := ?_)
    rintro h2 rfl
    -- what is attended to
    obtain ⟨o1, o2⟩ := one16 s0 (show s < 16 by omega)
    have o256 : (0 : Int) ≤ 1 * 2 ^ s.toNat ∧ (1 : Int) * 2 ^ s.toNat < 256 := by
      have hp : 2 ^ s.toNat < 2 ^ 8 := Nat.pow_lt_pow_right (by decide) (by omega)
      rw [Int.one_mul, pow_nat]
      generalize (2 ^ s.toNat : Nat) = P at hp ⊢
      omega
    generalize hh2 : up h1 97 ((k : Int) + 2) (1 * 2 ^ s.toNat) = h2
    have k2 : kpC h h2 := fun c c1 c2 c3 c4 c5 c6 => by rw [← hh2, up_n c6, kp c c1 c2 c3 c4 c5 c6]
    have eD : ∀ k, 0 ≤ k → k ≤ 14 → dC h2 g k = dC h g k := fun k a b => by have := gs k a b; exact k2 (g + k) (by omega) (by omega) (by omega) (by omega) (by omega) (by omega)
    have eg : h2 g = h g := k2 g (by omega) (by omega) (by omega) (by omega) (by omega) (by omega)
    have e47 : h2 47 = h 47 := k2 _ (by decide) (by decide) (by decide) (by decide) (by decide) (by decide)
    have e48 : h2 (47 + 1) = h (47 + 1) := k2 _ (by decide) (by decide) (by decide) (by decide) (by decide) (by decide)
    have e49 : h2 (47 + 2) = h (47 + 2) := k2 _ (by decide) (by decide) (by decide) (by decide) (by decide) (by decide)
    have a97 : ∀ u, 0 ≤ u → u ≤ (k : Int) + 2 → h2 97 u = if u = 0 ∨ u = (k : Int) + 2 then 1 * 2 ^ s.toNat else 0 := fun u a b => by
      rw [← hh2]
      by_cases e : u = (k : Int) + 2
      · rw [if_pos (Or.inr e), e, up_ci]
      · rw [up_cn e, h97 u a (by omega)]
        by_cases e2 : u = 0
        · rw [if_pos e2, if_pos (Or.inl e2)]
        · rw [if_neg e2, if_neg (by omega)]
    have hv2 : valid h2 47 g 0 ai 0 (-1) := ⟨ways_same (by rw [e47]) e48 hv.1, fun d s a b => by
      rw [tab_same (by rw [e47]) e48 e49, hv.2 d s a b, amp_cong eD, eg]⟩
    obtain ⟨r1, r2, r3, r4, ⟨f3, f4, f5, f6⟩, r6, r7⟩ := ready2 (h1 := h2) (g := g) (o := 47) (a := 97) (last := (k : Int) + 2) (N := 18) hg (Or.inl rfl) hv2.1 (by rw [e47, e49]; exact hrng) (okD_cong eD hd) e97 (by decide) (by omega) (fun u a b => by
      rw [a97 u a b, eg]
      split
      · refine ⟨o256, fun j z => ?_⟩
        rw [o2, decide_eq_true_eq] at z
        omega
      · exact ⟨by decide, fun j z => (by rw [bt_zero] at z; cases z)⟩) (fun j a b => by rw [← hh2, up_n (by decide)]; exact hz1 j a b)
    revert r1 r2 r3 r4 f3 f4 f5 f6 r6 r7
    generalize up (up (up (up (up (up h2 51 3 g) 51 4 47) 51 5 97) 51 6 ((k : Int) + 2)) 51 7 0) 51 8 0 = h3
    intro r1 r2 r3 r4 f3 f4 f5 f6 r6 r7
    refine bX1_compare_65 (hS := c_heardGaps (by omega) r1 (by rw [f5]; decide) r6 r2 r3) (kk := ?_)
    rintro x h4 ⟨⟨s5, z4⟩, mx, bx⟩
    rw [f3, r4 g (by omega), eg] at bx
    have bx : ∀ j : Nat, bt x j = true ↔ ((j : Int) < 16 ∧ H k j) := fun j => by
      rw [bx, ← hH]
      unfold gapH
      rw [Hd_cong (M := lamG (fun s d => amp (dC h g) 0 ai 0 (-1) s d) s k) (fun t s' a b => ?_) (by omega) d5.1]
      rw [r7, lamU_C (by omega) hv2 a (by rw [eg]; exact b) (by omega), lamU_G s0 (by omega) a (by omega) a97]
      unfold lamG
      simp only [amp_cong eD]
    have e96 : h4 96 = h1 96 := by rw [s5.1 96 (by decide) (by decide) (by decide) (by decide), r4 96 (by decide), ← hh2, up_n (by decide)]
    have e97' : h4 97 = h2 97 := by rw [s5.1 97 (by decide) (by decide) (by decide) (by decide), r4 97 (by decide)]
    obtain ⟨p1, p2⟩ := one16 (s := (k : Int)) (by omega) (by omega)
    obtain ⟨n1, n2⟩ := andNot16 mx p1
    have n3 : ∀ j : Nat, bt (bAnd x (bXor (1 * 2 ^ (k : Int).toNat) (-1))) j = true ↔ ((j < 16 ∧ ¬ k = j) ∧ H k j) := fun j => by
      rw [n2, Bool.and_eq_true, Bool.not_eq_true', p2, bx, decide_eq_false_iff_not, Int.toNat_natCast]
      constructor
      · rintro ⟨⟨a, b⟩, c⟩; exact ⟨⟨by omega, by omega⟩, b⟩
      · rintro ⟨⟨a, b⟩, c⟩; exact ⟨⟨by omega, c⟩, by omega⟩
    refine bX1_compare_70 (kk := ?_)
    generalize bAnd x (bXor (1 * 2 ^ (k : Int).toNat) (-1)) = y at n1 n3 ⊢
    clear n2
    have tk := ht k (by omega)
    obtain ⟨w1, w2⟩ := or16 (show m16 (h1 96 k) from tk.1) n1
    have kp4 : kpC h (up (up h4 97 ((k : Int) + 2) 0) 96 k (bOr (up h4 97 ((k : Int) + 2) 0 96 k) y)) := fun c c1 c2 c3 c4 c5 c6 => by
      rw [up_n c5, up_n c6, s5.1 c c1 c2 c3 c4, r4 c c1, k2 c c1 c2 c3 c4 c5 c6]
    suffices L : ∀ (dm m : Nat) (h5 : AH) (x6 : AV), m + dm = 16 → kpC h h5 → sumZ h5 → (∀ u, 0 ≤ u → u < 18 → h5 97 u = if u = 0 then 1 * 2 ^ s.toNat else 0) → togQ H k m (fun a => h5 96 a) → Wp mX1_compare (kR fr 0 0) (rV (fun h' => (kpC h h' ∧ sumZ h') ∧ togP H 16 (fun a => h' 96 a))) (0, 0) 102 [zR 95, zR g, zR 51, zR 47, zI s, zI k, x6, zI y, zI m] [] 137 h5 by
      refine L 16 0 _ _ (by omega) kp4 (fun j a b => ?_) (fun u a b => ?_) (fun a ha => ?_)
      · rw [up_n (by decide), up_n (by decide)]; exact z4 j a b
      · rw [up_n (by decide)]
        by_cases e : u = (k : Int) + 2
        · rw [e, up_ci, if_neg (by omega)]
        · rw [up_cn e, e97', ← hh2, up_cn e]; exact h97 u a b
      · have ta := ht a ha
        dsimp only at ta ⊢
        rw [show h4 96 (k : Int) = h1 96 k by rw [e96]]
        by_cases e : (a : Int) = k
        · rw [e, up_ci]
          refine ⟨w1, fun j => ?_⟩
          rw [w2, Bool.or_eq_true, n3, (show bt (h1 96 k) j = true ↔ togB H k k j from tk.2 j)]
          rw [show a = k by omega]
          constructor
          · rintro (z | ⟨z1, z2⟩)
            · exact Or.inl z
            · exact Or.inr ⟨z1, Or.inl ⟨rfl, z2⟩⟩
          · rintro (z | ⟨z1, ⟨z2, z3⟩ | ⟨z2, z3, z4⟩⟩)
            · exact Or.inl z
            · exact Or.inr ⟨z1, z3⟩
            · omega
        · rw [up_cn e, up_n (by decide), e96]
          refine ⟨ta.1, fun j => ?_⟩
          rw [ta.2 j]
          constructor
          · exact fun z => Or.inl z
          · rintro (z | ⟨z1, ⟨z2, z3⟩ | ⟨z2, z3, z4⟩⟩)
            · exact z
            · exact absurd z2 e
            · omega
    intro dm
    induction dm with
    | zero =>
      intro m h5 x6 hm k5 z5 a5 t5
      refine bX1_compare_102 (kt := fun _ => ?_) (kf := fun q => by omega)
      exact bX1_compare_135 (kk := ih (k + 1) h5 _ _ _ (by omega) k5 z5 a5 (by have := t5.next (by omega); exact this))
    | succ dm ihm =>
      intro m h5 x6 hm k5 z5 a5 t5
      refine bX1_compare_102 (kt := fun q => by omega) (kf := fun _ => ?_)
      have el := bit_look (x := y) (s := (m : Int)) n1.1 (by omega)
      have y1 := n1.2
      have y0 := n1.1
      have tm := t5 m (by omega)
      refine bX1_compare_109 (r3 := by omega) (kk := ihm (m + 1) _ _ (by omega) (fun c c1 c2 c3 c4 c5 c6 => by rw [up_n c5, k5 c c1 c2 c3 c4 c5 c6]) (fun j a b => by rw [up_n (by decide)]; exact z5 j a b) (fun u a b => by rw [up_n (by decide)]; exact a5 u a b) (fun a ha => ?_))
      rw [el]
      have ta := t5 a ha
      dsimp only at ta tm ⊢
      have nb := n3 m
      by_cases e : (a : Int) = m
      · have e' : a = m := by omega
        rw [e', up_ci]
        by_cases hb : bt y (m : Int).toNat = true
        · rw [if_pos hb]
          rw [Int.toNat_natCast] at hb
          obtain ⟨v1, v2⟩ := or16 tm.1 p1
          refine ⟨v1, fun j => ?_⟩
          rw [v2, Bool.or_eq_true, tm.2 j, p2, decide_eq_true_eq, Int.toNat_natCast]
          have hb' := nb.mp hb
          constructor
          · rintro ((z | ⟨z1, ⟨z2, z3⟩ | ⟨z2, z3, z4⟩⟩) | z)
            · exact Or.inl z
            · exact Or.inr ⟨z1, Or.inl ⟨z2, z3⟩⟩
            · omega
            · rw [z]; exact Or.inr ⟨⟨by omega, by omega⟩, Or.inr ⟨rfl, by omega, hb'.2⟩⟩
          · rintro (z | ⟨z1, ⟨z2, z3⟩ | ⟨z2, z3, z4⟩⟩)
            · exact Or.inl (Or.inl z)
            · exact Or.inl (Or.inr ⟨z1, Or.inl ⟨z2, z3⟩⟩)
            · exact Or.inr (by omega)
        · rw [if_neg hb, Int.zero_mul]
          rw [Int.toNat_natCast] at hb
          obtain ⟨v1, v2⟩ := or16 tm.1 (show m16 0 by constructor <;> decide)
          refine ⟨v1, fun j => ?_⟩
          rw [v2, bt_zero, Bool.or_false, tm.2 j]
          constructor
          · rintro (z | ⟨z1, ⟨z2, z3⟩ | ⟨z2, z3, z4⟩⟩)
            · exact Or.inl z
            · exact Or.inr ⟨z1, Or.inl ⟨z2, z3⟩⟩
            · omega
          · rintro (z | ⟨z1, ⟨z2, z3⟩ | ⟨z2, z3, z4⟩⟩)
            · exact Or.inl z
            · exact Or.inr ⟨z1, Or.inl ⟨z2, z3⟩⟩
            · exact absurd (nb.mpr ⟨⟨by omega, by omega⟩, by rw [← z2]; exact z4⟩) hb
      · rw [up_cn e]
        refine ⟨ta.1, fun j => ?_⟩
        rw [ta.2 j]
        constructor
        · rintro (z | ⟨z1, ⟨z2, z3⟩ | ⟨z2, z3, z4⟩⟩)
          · exact Or.inl z
          · exact Or.inr ⟨z1, Or.inl ⟨z2, z3⟩⟩
          · exact Or.inr ⟨z1, Or.inr ⟨z2, by omega, z4⟩⟩
        · rintro (z | ⟨z1, ⟨z2, z3⟩ | ⟨z2, z3, z4⟩⟩)
          · exact Or.inl z
          · exact Or.inr ⟨z1, Or.inl ⟨z2, z3⟩⟩
          · exact Or.inr ⟨z1, Or.inr ⟨z2, by omega, z4⟩⟩
