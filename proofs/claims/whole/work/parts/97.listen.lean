/-! ===== what returns of a line; the class's listen ===== -/
theorem hear_ex (Λ : Int → Int → Int) (nS l w m t : Int) : ∃ r, HeardR Λ nS l w m t r := by
  by_cases c : ∃ b, heardAs Λ nS l w m t b
  · obtain ⟨b, hb⟩ := c; exact ⟨b, Or.inl hb⟩
  · exact ⟨-1, Or.inr ⟨rfl, fun b hb => c ⟨b, hb⟩⟩⟩
noncomputable def hearF (Λ : Int → Int → Int) (nS l w m t : Int) : Int := Classical.choose (hear_ex Λ nS l w m t)
theorem hearF_is (Λ : Int → Int → Int) (nS l w m t : Int) : HeardR Λ nS l w m t (hearF Λ nS l w m t) := Classical.choose_spec (hear_ex Λ nS l w m t)
theorem hearF_eq {Λ : Int → Int → Int} {nS l w m t x : Int} (h : HeardR Λ nS l w m t x) : x = hearF Λ nS l w m t := h.one (hearF_is _ _ _ _ _ _)
theorem hearF_none {Λ : Int → Int → Int} {nS l w m t : Int} (hl : 1 ≤ l) (h : ∀ s, 0 ≤ s → s < nS → Λ t s = 0) : hearF Λ nS l w m t = -1 := by
  rcases hearF_is Λ nS l w m t with z | ⟨z, -⟩
  · have := h _ z.1.1.1 z.1.1.2
    have := z.2.1
    omega
  · exact z
def cH (H : Int → Int) (a : Int) (t : Nat) : Int := cnt (fun u => decide (a ≤ (u : Int) ∧ ¬ H u = -1)) t
theorem cH_s (H : Int → Int) (a : Int) (t : Nat) : cH H a (t + 1) = cH H a t + if (a ≤ (t : Int) ∧ ¬ H t = -1) then 1 else 0 := by
  show cnt _ t + (if decide (a ≤ (t : Int) ∧ ¬ H t = -1) = true then 1 else 0) = _
  by_cases c : a ≤ (t : Int) ∧ ¬ H t = -1
  · rw [if_pos c, if_pos (decide_eq_true c)]; rfl
  · rw [if_neg c, if_neg (by rw [decide_eq_false c]; decide)]; rfl
theorem cH_mono (H : Int → Int) (a : Int) {s t : Nat} (h : s ≤ t) : cH H a s ≤ cH H a t := cnt_mono h
theorem cH_tail {H : Int → Int} {a : Int} {s t : Nat} (h : s ≤ t) (hn : ∀ u : Nat, s ≤ u → u < t → H u = -1) : cH H a t = cH H a s := sg_tail h (fun i p q => by
  rw [if_neg]
  show ¬ decide (a ≤ (i : Int) ∧ ¬ H i = -1) = true
  rw [decide_eq_false (fun z => z.2 (hn i p q))]
  decide)
/-- B, n is the return: what H hears from tick a to tick 159 -/
def isRet (H : Int → Int) (a : Int) (B : Int → Int) (n : Int) : Prop := n = cH H a 160 ∧ ∀ t : Nat, t < 160 → a ≤ t → ¬ H t = -1 → B (cH H a t) = H t
theorem cH_hit {H : Int → Int} {a : Int} : ∀ {t : Nat} {i : Int}, 0 ≤ i → i < cH H a t → ∃ u : Nat, u < t ∧ a ≤ u ∧ ¬ H u = -1 ∧ cH H a u = i
  | 0, i, i0, i1 => by have : cH H a 0 = 0 := rfl; omega
  | t + 1, i, i0, i1 => by
    rw [cH_s] at i1
    by_cases c : i < cH H a t
    · obtain ⟨u, p, q⟩ := cH_hit i0 c
      exact ⟨u, by omega, q⟩
    · by_cases d : a ≤ (t : Int) ∧ ¬ H t = -1
      · rw [if_pos d] at i1
        exact ⟨t, by omega, d.1, d.2, by omega⟩
      · rw [if_neg d] at i1; omega
theorem isRet.one {H : Int → Int} {a n m : Int} {B C : Int → Int} (h1 : isRet H a B n) (h2 : isRet H a C m) : n = m ∧ ∀ i, 0 ≤ i → i < n → B i = C i := by
  refine ⟨by rw [h1.1, h2.1], fun i p q => ?_⟩
  rw [h1.1] at q
  obtain ⟨u, a1, a2, a3, a4⟩ := cH_hit p q
  rw [← a4, h1.2 u a1 a2 a3, h2.2 u a1 a2 a3]
theorem isRet.cong {H G : Int → Int} {a n : Int} {B : Int → Int} (e : ∀ t : Nat, t < 160 → a ≤ t → H t = G t) (h : isRet H a B n) : isRet G a B n := by
  have c : ∀ t : Nat, t ≤ 160 → cH H a t = cH G a t := fun t ht => cnt_cong (fun u hu => by
    by_cases z : a ≤ (u : Int)
    · rw [e u (by omega) z]
    · rw [decide_eq_false (fun w => z w.1), decide_eq_false (fun w => z w.1)])
  exact ⟨by rw [h.1, c 160 (by omega)], fun t a1 a2 a3 => by rw [← c t (by omega), h.2 t a1 a2 (by rw [e t a1 a2]; exact a3), e t a1 a2]⟩
abbrev lamT (A : Int → Int → Int) (S : Int → Int) (n : Int) : Int → Int → Int := lamL A (fun k => S k) (fun k => (k : Int)) n.toNat
theorem lamU_T {M S : Int → Int} {A : Int → Int → Int} {n t s : Int} (n0 : 0 ≤ n) (s0 : 0 ≤ s) (hM : ∀ u, 0 ≤ u → u < n → M u = 1 * 2 ^ (S u).toNat ∧ 0 ≤ S u ∧ S u < 8) : lamU M A n.toNat t s = lamT A S n t s := by
  refine sg_cong (fun u hu => ?_)
  obtain ⟨e, a, b⟩ := hM u (by omega) (by omega)
  rw [e, (one16 a (by omega)).2]
  by_cases c : s = S u
  · rw [if_pos c, if_pos (by rw [c]; exact decide_eq_true rfl)]
  · rw [if_neg c, if_neg (by rw [decide_eq_false (by omega)]; decide)]
theorem amp_far {h : AH} {o g ear air fog gone s d : Int} (hv : valid h o g ear air fog gone) (s0 : 0 ≤ s) (s1 : s < h g 0) (s8 : s < 8) (hd : ∀ i, 0 ≤ i → i < h o 2 → h (o + 1) i < d) : amp (dC h g) ear air fog gone s d = 0 := by
  have e := hv.2 d s s0 s8
  rw [if_pos s1] at e
  rw [← e]
  refine sg_zero (fun i hi => ?_)
  rw [if_neg]
  have := hd i (by omega) (by omega)
  omega
theorem att_keep {h h' : AH} {N : Nat} (ha : att h N) (e51 : ∀ j, j ≠ 7 → j ≠ 8 → h' 51 j = h 51 j) (eg : h' (h 51 3) = h (h 51 3)) (e0 : h' (h 51 4) = h (h 51 4)) (e1 : h' (h 51 4 + 1) = h (h 51 4 + 1)) (e2 : h' (h 51 4 + 2) = h (h 51 4 + 2)) (ea : h' (h 51 5) = h (h 51 5)) : att h' N ∧ lamH h' = lamH h := by
  have f3 := e51 3 (by decide) (by decide)
  have f4 := e51 4 (by decide) (by decide)
  have f5 := e51 5 (by decide) (by decide)
  have f6 := e51 6 (by decide) (by decide)
  obtain ⟨a1, a2, a3, a4, a5, a6, a7, a8⟩ := ha
  refine ⟨?_, ?_⟩
  · unfold att
    rw [f3, f4, f5, f6, eg, e0, e2, ea]
    exact ⟨a1, a2, a3, a4, ways_same (by rw [e0]) e1 a5, a6, a7, a8⟩
  · funext t s
    unfold lamH lamC
    rw [f4, f5, f6, e0, e1, e2, ea]
/-- the heap, but for hearing and the verses' own -/
def kpV (h h' : AH) : Prop := (∀ c, c ≠ 51 → c ≠ 52 → c ≠ 53 → c ≠ 54 → c ≠ 55 → c ≠ 78 → h' c = h c) ∧ ∀ j, j ≠ 14 → h' 55 j = h 55 j
theorem c_listenV {fr : Nat} {ai fog gone : Int} {S : Int → Int} {h : AH} (hf : 3 ≤ fr) (hg : isG (h 55 0)) (hd : okD (dV h)) (hv : valid h 47 (h 55 0) 0 ai fog gone) (hfog : 0 ≤ fog ∧ fog ≤ 100) (hai : 0 ≤ ai ∧ ai ≤ 100) (hz : sumZ h) (hn : 1 ≤ h 55 12 ∧ h 55 12 ≤ 12) (hS : ∀ u, 0 ≤ u → u < h 55 12 → h 77 u = 1 * 2 ^ (S u).toNat ∧ 0 ≤ S u ∧ S u < h (h 55 0) 0) (h4 : 0 ≤ h 55 4 ∧ h 55 4 ≤ 12) (r78 : ∀ i, 0 ≤ i → i < 12 → 0 ≤ h 78 i ∧ h 78 i < 8) :
    Sp mX10_listen true fr 0 0 [zR 55, zR 51, zR 47] 137 h (rI (fun x h' => (kpV h h' ∧ sumZ h' ∧ ∀ i, 0 ≤ i → i < 12 → 0 ≤ h' 78 i ∧ h' 78 i < 8) ∧ ((x = 1 ∧ (0 ≤ h' 55 14 ∧ h' 55 14 ≤ h 55 4) ∧ isRet (hearF (lamT (fun s d => amp (dV h) 0 ai fog gone s d) S (h 55 12)) (h (h 55 0) 0) (h (h 55 0) 4) (h (h 55 0) 5) (h (h 55 0) 6)) (h 55 12) (h' 78) (h' 55 14)) ∨ (x = 0 ∧ h 55 4 < cH (hearF (lamT (fun s d => amp (dV h) 0 ai fog gone s d) S (h 55 12)) (h (h 55 0) 0) (h (h 55 0) 4) (h (h 55 0) 5) (h (h 55 0) 6)) (h 55 12) 160)))) := by
  refine Sp.mk yX10_listen_ok rfl rfl ?_
  have d0 := hd.1
  have d4 := hd.2.2.2.2.1
  have d5 := hd.2.2.2.2.2.1
  rw [dV0] at d0 d4 d5
  have gs : h 55 0 < 47 ∨ (55 < h 55 0 ∧ h 55 0 < 76) := by unfold isG at hg; omega
  have gsk : ∀ k, 0 ≤ k → k ≤ 14 → (h 55 0 + k < 47 ∨ (55 < h 55 0 + k ∧ h 55 0 + k < 76)) := by unfold isG at hg; exact fun k a b => by omega
  generalize hH : hearF (lamT (fun s d => amp (dV h) 0 ai fog gone s d) S (h 55 12)) (h (h 55 0) 0) (h (h 55 0) 4) (h (h 55 0) 5) (h (h 55 0) 6) = H
  generalize hQ : (rI (fun x h' => (kpV h h' ∧ sumZ h' ∧ ∀ i, 0 ≤ i → i < 12 → 0 ≤ h' 78 i ∧ h' 78 i < 8) ∧ ((x = 1 ∧ (0 ≤ h' 55 14 ∧ h' 55 14 ≤ h 55 4) ∧ isRet H (h 55 12) (h' 78) (h' 55 14)) ∨ (x = 0 ∧ h 55 4 < cH H (h 55 12) 160)))) = Q
  -- the heap that is attended from
  generalize hh0 : up h 55 14 0 = h0
  have k0 : ∀ c, c ≠ 55 → h0 c = h c := fun c hc => by rw [← hh0, up_n hc]
  have f0 : ∀ j, j ≠ 14 → h0 55 j = h 55 j := fun j hj => by rw [← hh0, up_cn hj]
  have n0 : h0 55 14 = 0 := by rw [← hh0, up_ci]
  have eDk : ∀ k, 0 ≤ k → k ≤ 14 → dC h0 (h 55 0) k = dC h (h 55 0) k := fun k a b => by have := gsk k a b; exact k0 (h 55 0 + k) (by omega)
  have eg : h0 (h 55 0) = h (h 55 0) := k0 _ (by omega)
  have hd0 : okD (dC h0 (h 55 0)) := okD_cong eDk hd
  have hv0 : valid h0 47 (h 55 0) 0 ai fog gone := ⟨ways_same (by rw [k0 47 (by decide)]) (k0 (47 + 1) (by decide)) hv.1, fun d s a b => by rw [tab_same (by rw [k0 47 (by decide)]) (k0 (47 + 1) (by decide)) (k0 (47 + 2) (by decide)), hv.2 d s a b, amp_cong eDk, eg]⟩
  have hrng := valid_rng hv0 hd0 hfog.1 hfog.2 hai.1 hai.2
  have hS8 : ∀ u, 0 ≤ u → u < h 55 12 → h0 77 u = 1 * 2 ^ (S u).toNat ∧ 0 ≤ S u ∧ S u < 8 := fun u a b => by
    rw [k0 77 (by decide)]
    have := hS u a b
    exact ⟨this.1, this.2.1, by omega⟩
  obtain ⟨r1, r2, r3, r4, ⟨i3, i4, i5, i6⟩, r6, r7⟩ := ready2 (h1 := h0) (g := h 55 0) (o := 47) (a := 77) (last := h 55 12 - 1) (N := 12) hg (Or.inl rfl) hv0.1 hrng hd0 e77 (by decide) (by omega) (fun u a b => by
    obtain ⟨e, p, q⟩ := hS8 u a (by omega)
    have q2 := (hS u a (by omega)).2.2
    have hp : 2 ^ (S u).toNat < 2 ^ 8 := Nat.pow_lt_pow_right (by decide) (by omega)
    have h2 := (one16 p (show S u < 16 by omega)).2
    rw [e, eg]
    refine ⟨?_, fun j hj => ?_⟩
    · rw [Int.one_mul, pow_nat]
      generalize (2 ^ (S u).toNat : Nat) = X at hp ⊢
      omega
    · rw [h2] at hj
      have := of_decide_eq_true hj
      omega) (fun s a b => by rw [k0 54 (by decide)]; exact hz s a b)
  refine bX10_listen_0 (hS := by rw [hh0]; exact c_attend) (kk := ?_)
  rintro h2 rfl
  revert r1 r2 r3 r4 i3 i4 i5 i6 r6 r7
  generalize up (up (up (up (up (up h0 51 3 (h 55 0)) 51 4 47) 51 5 77) 51 6 (h 55 12 - 1)) 51 7 0) 51 8 0 = h2
  intro r1 r2 r3 r4 i3 i4 i5 i6 r6 r7
  have a5 : h2 51 5 < 51 ∨ 54 < h2 51 5 := by rw [i5]; decide
  have e55 : h2 55 = h0 55 := r4 55 (by decide)
  have eg2 : h2 (h 55 0) = h (h 55 0) := by rw [r4 _ (by omega), eg]
  have eL : ∀ t s, 0 ≤ s → s < h (h 55 0) 0 → lamH h2 t s = lamT (fun s d => amp (dV h) 0 ai fog gone s d) S (h 55 12) t s := fun t s p q => by
    rw [r7, lamU_C (by omega) hv0 p (by rw [eg]; exact q) (by omega), show h 55 12 - 1 + 1 = h 55 12 by omega]
    rw [show (fun s d => amp (dC h0 (h 55 0)) 0 ai fog gone s d) = (fun s d => amp (dV h) 0 ai fog gone s d) from funext fun s => funext fun d => amp_cong eDk _ _ _ _ _ _]
    exact lamU_T (by omega) p hS8
  have w47 : ways h2 47 := ways_same (by rw [r4 47 (by decide)]) (r4 (47 + 1) (by decide)) hv0.1
  have e12 : h2 55 12 = h 55 12 := by rw [e55, f0 12 (by decide)]
  have e4 : h2 55 4 = h 55 4 := by rw [e55, f0 4 (by decide)]
  refine bX10_listen_24 (c1 := e47) (hS := c_longest (Or.inl rfl) w47) (kk := ?_)
  rintro lg h3 ⟨e3, hlg⟩
  rw [e3]; clear e3 h3
  rw [e12]
  have l120 : (0 ≤ lg ∧ lg ≤ 120) ∧ ∀ i, 0 ≤ i → i < h2 47 2 → h2 (47 + 1) i ≤ lg := by
    rcases hlg with ⟨z1, z2⟩ | ⟨z1, z2⟩
    · exact ⟨by omega, fun i a b => by omega⟩
    · have q := w47.2.2 (h2 47 2 - 1) (by omega) (by omega)
      refine ⟨by omega, fun i a b => ?_⟩
      by_cases e : i = h2 47 2 - 1
      · rw [e, z2]; exact Int.le_refl _
      · have := w47.2.1 i (h2 47 2 - 1) a (by omega) (by omega)
        omega
  refine bX10_listen_34 (kk := ?_)
  -- nothing behind the end
  have quiet : ∀ t : Nat, h 55 12 - 1 + lg < t → H t = -1 := fun t ht => by
    rw [← hH]
    refine hearF_none d4.1 (fun s p q => ?_)
    refine sg_zero (fun u hu => ?_)
    by_cases c : s = S u
    · rw [if_pos c]
      refine amp_far hv p q (by omega) (fun i a b => ?_)
      have e48 : h2 (47 + 1) = h (47 + 1) := by rw [r4 _ (by decide), k0 _ (by decide)]
      have e47' : h2 47 = h 47 := by rw [r4 _ (by decide), k0 _ (by decide)]
      have := l120.2 i a (by rw [e47']; exact b)
      rw [e48] at this
      show h (47 + 1) i < (t : Int) - (u : Int)
      omega
    · rw [if_neg c]
  generalize hL : lamT (fun s d => amp (dV h) 0 ai fog gone s d) S (h 55 12) = Λ at eL hH
  suffices K : ∀ (d t : Nat) (h3 : AH) (x2 x5 : AV), (t : Int) + d = h 55 12 + lg → (∀ c, c ≠ 51 → c ≠ 52 → c ≠ 53 → c ≠ 54 → c ≠ 55 → c ≠ 78 → h3 c = h2 c) → (∀ j, j ≠ 7 → j ≠ 8 → h3 51 j = h2 51 j) → ptr h3 t → sumZ h3 → bstL Λ (h (h 55 0) 0) h3 t → (∀ j, j ≠ 14 → h3 55 j = h 55 j) → (∀ i, 0 ≤ i → i < 12 → 0 ≤ h3 78 i ∧ h3 78 i < 8) → h3 55 14 = cH H (h 55 12) t → h3 55 14 ≤ h 55 4 → (∀ u : Nat, u < t → h 55 12 ≤ u → ¬ H u = -1 → h3 78 (cH H (h 55 12) u) = H u) → Wp mX10_listen (kR fr 0 0) Q (0, 0) 39 [zR 55, zR 51, x2, zI (h 55 12 - 1 + lg), zI t, x5] [] 137 h3 by
    refine K (h 55 12 + lg).toNat 0 h2 _ _ (by omega) (fun _ _ _ _ _ _ _ => rfl) (fun _ _ _ => rfl) r2 r3 (fun t' a b => by omega) (fun j hj => by rw [e55]; exact f0 j hj) (by rw [r4 78 (by decide), k0 78 (by decide)]; exact r78) (by rw [e55, n0]; rfl) (by rw [e55, n0]; exact h4.1) (fun u a => by omega)
  intro d
  induction d with
  | zero =>
    intro t h3 x2 x5 ht k3 e3 p3 z3 b3 f3 g78 n3 m3 rows
    refine bX10_listen_39 (kt := fun _ => ?_) (kf := fun q => by omega)
    refine bX10_listen_121 (hq := ?_)
    have tl := cH_tail (H := H) (a := h 55 12) (s := t) (t := 160) (by omega) (fun u a _ => quiet u (by omega))
    rw [← hQ]
    refine ⟨_, rfl, rfl, ⟨⟨fun c c1 c2 c3 c4 c5 c6 => by rw [k3 c c1 c2 c3 c4 c5 c6, r4 c c1, k0 c c5], f3⟩, z3, g78⟩, Or.inl ⟨rfl, ⟨by rw [n3]; exact (cnt_rng _ _).1, m3⟩, by rw [tl]; exact n3, fun u a b c => ?_⟩⟩
    by_cases e : u < t
    · exact rows u e b c
    · exact absurd (quiet u (by omega)) c
  | succ d ih =>
    intro t h3 x2 x5 ht k3 e3 p3 z3 b3 f3 g78 n3 m3 rows
    have cr0 : 0 ≤ cH H (h 55 12) t := (cnt_rng _ _).1
    have cs := cH_s H (h 55 12) t
    obtain ⟨at3, l3⟩ := att_keep (h' := h3) r1 e3 (by rw [i3]; exact k3 _ (by omega) (by omega) (by omega) (by omega) (by omega) (by omega)) (by rw [i4]; exact k3 _ (by decide) (by decide) (by decide) (by decide) (by decide) (by decide)) (by rw [i4]; exact k3 _ (by decide) (by decide) (by decide) (by decide) (by decide) (by decide)) (by rw [i4]; exact k3 _ (by decide) (by decide) (by decide) (by decide) (by decide) (by decide)) (by rw [i5]; exact k3 _ (by decide) (by decide) (by decide) (by decide) (by decide) (by decide))
    have e53 : h3 51 3 = h 55 0 := by rw [e3 3 (by decide) (by decide), i3]
    have e57 : h3 51 5 = 77 := by rw [e3 5 (by decide) (by decide), i5]
    have eg3 : h3 (h 55 0) = h (h 55 0) := by rw [k3 _ (by omega) (by omega) (by omega) (by omega) (by omega) (by omega), eg2]
    refine bX10_listen_39 (kt := fun q => by omega) (kf := fun _ => ?_)
    refine bX10_listen_45 (hS := c_measure (by omega) at3 (by rw [e57]; decide) (by omega) p3 z3) (kk := ?_)
    intro h4' m4
    have k4 : ∀ c, c ≠ 51 → c ≠ 52 → c ≠ 53 → c ≠ 54 → h4' c = h3 c := m4.1
    have e554 : h4' 55 = h3 55 := k4 55 (by decide) (by decide) (by decide) (by decide)
    have e784 : h4' 78 = h3 78 := k4 78 (by decide) (by decide) (by decide) (by decide)
    have eg4 : h4' (h 55 0) = h (h 55 0) := by rw [k4 _ (by omega) (by omega) (by omega) (by omega), eg3]
    have e534 : h4' 51 3 = h 55 0 := by rw [m4.2.1 3 (by decide) (by decide), e53]
    have b4 : bstL Λ (h (h 55 0) 0) h4' (t + 1) := fun t' a b => by
      by_cases e : t' = t
      · rw [e]
        have q := m4.2.2.2.2.2
        rw [l3, e53, eg3] at q
        exact ⟨q.1, bestOf_cong (fun s p r => eL t s p r) q.2⟩
      · have := m4.2.2.1 t' e
        rw [this.1, this.2]
        exact b3 t' a (by omega)
    have K4 : ∀ c, c ≠ 51 → c ≠ 52 → c ≠ 53 → c ≠ 54 → c ≠ 55 → c ≠ 78 → h4' c = h2 c := fun c c1 c2 c3 c4 c5 c6 => by rw [k4 c c1 c2 c3 c4, k3 c c1 c2 c3 c4 c5 c6]
    have E4 : ∀ j, j ≠ 7 → j ≠ 8 → h4' 51 j = h2 51 j := fun j a b => by rw [m4.2.1 j a b, e3 j a b]
    have f4' : ∀ j, j ≠ 14 → h4' 55 j = h 55 j := fun j hj => by rw [e554]; exact f3 j hj
    have n4 : h4' 55 14 = cH H (h 55 12) t := by rw [e554]; exact n3
    have hdr : ∀ u : Nat, H u = -1 ∨ (0 ≤ H u ∧ H u < h (h 55 0) 0) := fun u => by
      rw [← hH]; exact (hearF_is _ _ _ _ _ _).range
    have J : ∀ (s0 : Int) (x2 x5 : AV), s0 = (if h 55 12 ≤ (t : Int) then H t else -1) → Wp mX10_listen (kR fr 0 0) Q (0, 0) 70 [zR 55, zR 51, x2, zI (h 55 12 - 1 + lg), zI t, x5] [zI s0] 137 h4' := fun s0 x2 x5 hs => by
      have sr : -1 ≤ s0 ∧ s0 < 8 := by
        have := hdr t
        by_cases c : h 55 12 ≤ (t : Int)
        · rw [if_pos c] at hs; omega
        · rw [if_neg c] at hs; omega
      refine bX10_listen_70 (kt := fun q => ?_) (kf := fun q => ?_)
      · have c : h 55 12 ≤ (t : Int) := by
          by_cases c : h 55 12 ≤ (t : Int)
          · exact c
          · rw [if_neg c] at hs; exact absurd hs q
        rw [if_pos c] at hs
        rw [if_pos ⟨c, by rw [← hs]; exact q⟩] at cs
        have e4' : h4' 55 4 = h 55 4 := f4' 4 (by decide)
        refine bX10_listen_81 (r1 := by rw [n4]; omega) (r2 := by rw [e4']; omega) (kt := fun q2 => ?_) (kf := fun q2 => ?_)
        · rw [n4, e4'] at q2
          refine bX10_listen_94 (r1 := by rw [n4]; omega) (kk := bX10_listen_115 (kk := ?_))
          rw [show (t : Int) + 1 = ((t + 1 : Nat) : Int) by omega]
          refine ih (t + 1) _ _ _ (by omega) (fun c c1 c2 c3 c4 c5 c6 => by rw [up_n c5, up_n c6]; exact K4 c c1 c2 c3 c4 c5 c6) (fun j a b => by rw [up_n (by decide), up_n (by decide)]; exact E4 j a b) ?_ (fun s a b => by rw [up_n (by decide), up_n (by decide)]; exact m4.2.2.2.1 s a b) (fun t' a b => by rw [up_n (by decide), up_n (by decide), up_n (by decide), up_n (by decide)]; exact b4 t' a (by omega)) (fun j hj => by rw [up_cn hj, up_n (by decide)]; exact f4' j hj) (fun i a b => ?_) (by rw [up_ci, n4, cs]) (by rw [up_ci, n4]; omega) (fun u a b e => ?_)
          · have pp := m4.2.2.2.2.1.later (show (t : Int) ≤ ((t + 1 : Nat) : Int) by omega)
            have h44 : h4' 51 4 = 47 := by rw [E4 4 (by decide) (by decide), i4]
            unfold ptr at pp ⊢
            rw [h44] at pp
            rw [up_n (show (51 : Int) ≠ 55 by decide), up_n (show (51 : Int) ≠ 78 by decide), h44, up_n (show (47 : Int) ≠ 55 by decide), up_n (show (47 : Int) ≠ 78 by decide), up_n (show (47 : Int) + 1 ≠ 55 by decide), up_n (show (47 : Int) + 1 ≠ 78 by decide)]
            exact pp
          · rw [up_n (by decide)]
            by_cases e : i = h4' 55 14
            · rw [e, up_ci]; omega
            · rw [up_cn e, e784]; exact g78 i a b
          · rw [up_n (by decide)]
            by_cases e2 : u = t
            · rw [e2, ← n4, up_ci]; exact hs
            · have lt := cnt_lt (p := fun v : Nat => decide (h 55 12 ≤ (v : Int) ∧ ¬ H v = -1)) (a := u) (b := t) (by omega) (decide_eq_true ⟨b, e⟩)
              have lt' : cH H (h 55 12) u < cH H (h 55 12) t := lt
              rw [up_cn (by rw [n4]; omega), e784]
              exact rows u (by omega) b e
        · rw [n4, e4'] at q2
          refine bX10_listen_92 (hq := ?_)
          have mo := cH_mono H (h 55 12) (s := t + 1) (t := 160) (by omega)
          rw [← hQ]
          exact ⟨_, rfl, rfl, ⟨⟨fun c c1 c2 c3 c4 c5 c6 => by rw [K4 c c1 c2 c3 c4 c5 c6, r4 c c1, k0 c c5], f4'⟩, m4.2.2.2.1, by rw [e784]; exact g78⟩, Or.inr ⟨rfl, by omega⟩⟩
      · have no : ¬ (h 55 12 ≤ (t : Int) ∧ ¬ H t = -1) := fun z => by
          rw [if_pos z.1] at hs
          exact z.2 (by rw [← hs]; exact q)
        rw [if_neg no, Int.add_zero] at cs
        refine bX10_listen_78 (kk := bX10_listen_115 (kk := ?_))
        rw [show (t : Int) + 1 = ((t + 1 : Nat) : Int) by omega]
        refine ih (t + 1) h4' _ _ (by omega) K4 E4 (m4.2.2.2.2.1.later (by omega)) m4.2.2.2.1 (fun t' a b => b4 t' a (by omega)) f4' (by rw [e784]; exact g78) (by rw [n4, cs]) (by rw [e554]; exact m3) (fun u a b e => ?_)
        by_cases e2 : u = t
        · rw [e2] at b e; exact absurd ⟨b, e⟩ no
        · rw [e784]; exact rows u (by omega) b e
    refine bX10_listen_51 (r2 := by rw [f4' 12 (by decide)]; omega) (kt := fun q => ?_) (kf := fun q => ?_)
    · rw [f4' 12 (by decide)] at q
      refine bX10_listen_64 (hS := c_hears (Λ := Λ) (by omega) (by rw [e534]; exact hg) (by omega) (by rw [e534, eg4]; exact d4) (by rw [e534, eg4]; exact d5) (by rw [e534, eg4]; have := hd.2.2.2.2.2.2.1; rw [dV0] at this; exact this) (by rw [e534, eg4]; exact fun t' a b c => b4 t' a (by omega))) (kk := ?_)
      rintro x h5 ⟨e5, hx⟩
      rw [e5]; clear e5 h5
      rw [e534, eg4] at hx
      refine J x _ _ ?_
      rw [if_pos q, ← hH]
      exact hearF_eq hx
    · rw [f4' 12 (by decide)] at q
      exact bX10_listen_60 (kk := J (-1) _ _ (by rw [if_neg (by omega)]))
