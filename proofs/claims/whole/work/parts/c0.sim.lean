/-! ===== the same told: both readings of a text agree ===== -/
def simD (E D : DT) : Prop := (∀ i, 0 ≤ i → i ≤ 6 → D 0 i = E 0 i) ∧ (∀ s, 0 ≤ s → s < E 0 0 → D 1 s = E 1 s ∧ D 2 s = E 2 s) ∧ (∀ s, 0 ≤ s → s < 8 → D 3 s = E 3 s) ∧
  (∀ w, 0 ≤ w → w < E 0 1 → (∀ e, 0 ≤ e → e < 3 → D 4 (w * 3 + e) = E 4 (w * 3 + e)) ∧ D 5 w = E 5 w ∧ D 6 w = E 6 w ∧ D 7 w = E 7 w) ∧
  (∀ e, 0 ≤ e → e < 3 → D 8 e = E 8 e) ∧ (∀ o, 0 ≤ o → o < 24 → D 9 o = E 9 o) ∧
  (∀ w, 0 ≤ w → w < E 0 2 → D 10 w = E 10 w ∧ D 11 w = E 11 w ∧ ∀ i, 0 ≤ i → i < E 11 w → D 12 (w * 4 + i) = E 12 (w * 4 + i)) ∧
  (∀ f, 0 ≤ f → f < E 0 3 → D 13 f = E 13 f ∧ ∀ i, 0 ≤ i → i < E 13 f → D 14 (f * 3 + i) = E 14 (f * 3 + i))
theorem upD_cg {E D : DT} {k i v k' i' : Int} (h : D k' i' = E k' i') : upD D k i v k' i' = upD E k i v k' i' := by
  rw [upD_if, upD_if, h]
theorem simD.u1 {E D : DT} (h : simD E D) {k i v : Int} (hk : k ≠ 0 ∧ k ≠ 11 ∧ k ≠ 13) : simD (upD E k i v) (upD D k i v) := by
  obtain ⟨a0, a1, a3, a4, a8, a9, a10, a13⟩ := h
  have c0 : upD E k i v 0 = E 0 := upD_n (by omega)
  have c11 : upD E k i v 11 = E 11 := upD_n (by omega)
  have c13 : upD E k i v 13 = E 13 := upD_n (by omega)
  refine ⟨fun j x y => upD_cg (a0 j x y), fun s x y => ?_, fun s x y => upD_cg (a3 s x y), fun w x y => ?_, fun e x y => upD_cg (a8 e x y), fun o x y => upD_cg (a9 o x y), fun w x y => ?_, fun f x y => ?_⟩
  · rw [c0] at y
    exact ⟨upD_cg (a1 s x y).1, upD_cg (a1 s x y).2⟩
  · rw [c0] at y
    obtain ⟨b1, b2, b3, b4⟩ := a4 w x y
    exact ⟨fun e p q => upD_cg (b1 e p q), upD_cg b2, upD_cg b3, upD_cg b4⟩
  · rw [c0] at y
    obtain ⟨b1, b2, b3⟩ := a10 w x y
    refine ⟨upD_cg b1, upD_cg b2, fun j p q => ?_⟩
    rw [c11] at q
    exact upD_cg (b3 j p q)
  · rw [c0] at y
    obtain ⟨b1, b2⟩ := a13 f x y
    refine ⟨upD_cg b1, fun j p q => ?_⟩
    rw [c13] at q
    exact upD_cg (b2 j p q)
theorem simD.u0 {E D : DT} (h : simD E D) {i v : Int} (hi : 4 ≤ i) : simD (upD E 0 i v) (upD D 0 i v) := by
  obtain ⟨a0, a1, a3, a4, a8, a9, a10, a13⟩ := h
  have c0 : ∀ j, j < 4 → upD E 0 i v 0 j = E 0 j := fun j z => upD_cn (by omega)
  have cn : ∀ (F : DT) (k : Int), k ≠ 0 → upD F 0 i v k = F k := fun F k z => upD_n z
  refine ⟨fun j x y => upD_cg (a0 j x y), fun s x y => ?_, fun s x y => upD_cg (a3 s x y), fun w x y => ?_, fun e x y => upD_cg (a8 e x y), fun o x y => upD_cg (a9 o x y), fun w x y => ?_, fun f x y => ?_⟩
  · rw [c0 0 (by decide)] at y
    exact ⟨upD_cg (a1 s x y).1, upD_cg (a1 s x y).2⟩
  · rw [c0 1 (by decide)] at y
    obtain ⟨b1, b2, b3, b4⟩ := a4 w x y
    exact ⟨fun e p q => upD_cg (b1 e p q), upD_cg b2, upD_cg b3, upD_cg b4⟩
  · rw [c0 2 (by decide)] at y
    obtain ⟨b1, b2, b3⟩ := a10 w x y
    refine ⟨upD_cg b1, upD_cg b2, fun j p q => ?_⟩
    rw [cn E 11 (by decide)] at q
    exact upD_cg (b3 j p q)
  · rw [c0 3 (by decide)] at y
    obtain ⟨b1, b2⟩ := a13 f x y
    refine ⟨upD_cg b1, fun j p q => ?_⟩
    rw [cn E 13 (by decide)] at q
    exact upD_cg (b2 j p q)
theorem simD.u11 {E D : DT} (h : simD E D) {w v : Int} (hv : ∀ i, 0 ≤ i → i < v → D 12 (w * 4 + i) = E 12 (w * 4 + i)) : simD (upD E 11 w v) (upD D 11 w v) := by
  obtain ⟨a0, a1, a3, a4, a8, a9, a10, a13⟩ := h
  have c0 : upD E 11 w v 0 = E 0 := upD_n (by decide)
  have c13 : upD E 11 w v 13 = E 13 := upD_n (by decide)
  refine ⟨fun j x y => upD_cg (a0 j x y), fun s x y => ?_, fun s x y => upD_cg (a3 s x y), fun w x y => ?_, fun e x y => upD_cg (a8 e x y), fun o x y => upD_cg (a9 o x y), fun w' x y => ?_, fun f x y => ?_⟩
  · rw [c0] at y
    exact ⟨upD_cg (a1 s x y).1, upD_cg (a1 s x y).2⟩
  · rw [c0] at y
    obtain ⟨b1, b2, b3, b4⟩ := a4 w x y
    exact ⟨fun e p q => upD_cg (b1 e p q), upD_cg b2, upD_cg b3, upD_cg b4⟩
  · rw [c0] at y
    obtain ⟨b1, b2, b3⟩ := a10 w' x y
    refine ⟨upD_cg b1, upD_cg b2, fun j p q => ?_⟩
    by_cases e : w' = w
    · rw [e, upD_ci] at q
      rw [e]
      exact upD_cg (hv j p q)
    · rw [upD_cn e] at q
      exact upD_cg (b3 j p q)
  · rw [c0] at y
    obtain ⟨b1, b2⟩ := a13 f x y
    refine ⟨upD_cg b1, fun j p q => ?_⟩
    rw [c13] at q
    exact upD_cg (b2 j p q)
theorem simD.u13 {E D : DT} (h : simD E D) {w v : Int} (hv : ∀ i, 0 ≤ i → i < v → D 14 (w * 3 + i) = E 14 (w * 3 + i)) : simD (upD E 13 w v) (upD D 13 w v) := by
  obtain ⟨a0, a1, a3, a4, a8, a9, a10, a13⟩ := h
  have c0 : upD E 13 w v 0 = E 0 := upD_n (by decide)
  have c11 : upD E 13 w v 11 = E 11 := upD_n (by decide)
  refine ⟨fun j x y => upD_cg (a0 j x y), fun s x y => ?_, fun s x y => upD_cg (a3 s x y), fun w x y => ?_, fun e x y => upD_cg (a8 e x y), fun o x y => upD_cg (a9 o x y), fun w' x y => ?_, fun f x y => ?_⟩
  · rw [c0] at y
    exact ⟨upD_cg (a1 s x y).1, upD_cg (a1 s x y).2⟩
  · rw [c0] at y
    obtain ⟨b1, b2, b3, b4⟩ := a4 w x y
    exact ⟨fun e p q => upD_cg (b1 e p q), upD_cg b2, upD_cg b3, upD_cg b4⟩
  · rw [c0] at y
    obtain ⟨b1, b2, b3⟩ := a10 w' x y
    refine ⟨upD_cg b1, upD_cg b2, fun j p q => ?_⟩
    rw [c11] at q
    exact upD_cg (b3 j p q)
  · rw [c0] at y
    obtain ⟨b1, b2⟩ := a13 f x y
    refine ⟨upD_cg b1, fun j p q => ?_⟩
    by_cases e : f = w
    · rw [e, upD_ci] at q
      rw [e]
      exact upD_cg (hv j p q)
    · rw [upD_cn e] at q
      exact upD_cg (b2 j p q)
/-- one more told -/
theorem simD.nx {E D : DT} (h : simD E D) {c w : Int} (hc : 0 ≤ c ∧ c ≤ 3) (hw : E 0 c = w) (h0 : c = 0 → D 1 w = E 1 w ∧ D 2 w = E 2 w) (h1 : c = 1 → (∀ e, 0 ≤ e → e < 3 → D 4 (w * 3 + e) = E 4 (w * 3 + e)) ∧ D 5 w = E 5 w ∧ D 6 w = E 6 w ∧ D 7 w = E 7 w) (h2 : c = 2 → D 10 w = E 10 w ∧ D 11 w = E 11 w ∧ ∀ i, 0 ≤ i → i < E 11 w → D 12 (w * 4 + i) = E 12 (w * 4 + i)) (h3 : c = 3 → D 13 w = E 13 w ∧ ∀ i, 0 ≤ i → i < E 13 w → D 14 (w * 3 + i) = E 14 (w * 3 + i)) : simD (upD E 0 c (w + 1)) (upD D 0 c (w + 1)) := by
  obtain ⟨a0, a1, a3, a4, a8, a9, a10, a13⟩ := h
  have cn : ∀ (F : DT) (k : Int), k ≠ 0 → upD F 0 c (w + 1) k = F k := fun F k z => upD_n z
  have cc : ∀ j x : Int, x < upD E 0 c (w + 1) 0 j → x < E 0 j ∨ (j = c ∧ x = w) ∨ (j = c ∧ x < E 0 j) := fun j x z => by
    by_cases e : j = c
    · rw [e, upD_ci] at z
      by_cases y : x = w
      · exact Or.inr (Or.inl ⟨e, y⟩)
      · exact Or.inl (by rw [e, hw]; omega)
    · rw [upD_cn e] at z; exact Or.inl z
  refine ⟨fun j x y => upD_cg (a0 j x y), fun s x y => ?_, fun s x y => upD_cg (a3 s x y), fun u x y => ?_, fun e x y => upD_cg (a8 e x y), fun o x y => upD_cg (a9 o x y), fun u x y => ?_, fun f x y => ?_⟩
  · rw [cn D 1 (by decide), cn D 2 (by decide), cn E 1 (by decide), cn E 2 (by decide)]
    rcases cc 0 s y with z | ⟨z, e⟩ | ⟨_, z⟩
    · exact a1 s x z
    · rw [e]; exact h0 z.symm
    · exact a1 s x z
  · rw [cn D 4 (by decide), cn D 5 (by decide), cn D 6 (by decide), cn D 7 (by decide), cn E 4 (by decide), cn E 5 (by decide), cn E 6 (by decide), cn E 7 (by decide)]
    rcases cc 1 u y with z | ⟨z, e⟩ | ⟨_, z⟩
    · exact a4 u x z
    · rw [e]; exact h1 z.symm
    · exact a4 u x z
  · rw [cn D 10 (by decide), cn D 11 (by decide), cn D 12 (by decide), cn E 10 (by decide), cn E 11 (by decide), cn E 12 (by decide)]
    rcases cc 2 u y with z | ⟨z, e⟩ | ⟨_, z⟩
    · exact a10 u x z
    · rw [e]; exact h2 z.symm
    · exact a10 u x z
  · rw [cn D 13 (by decide), cn D 14 (by decide), cn E 13 (by decide), cn E 14 (by decide)]
    rcases cc 3 f y with z | ⟨z, e⟩ | ⟨_, z⟩
    · exact a13 f x z
    · rw [e]; exact h3 z.symm
    · exact a13 f x z
def simR : RES → RES → Prop
  | .inl x, .inl y => x = y
  | .inr (p, E, a, s, m), .inr (p', E', a', s', m') => p' = p ∧ simD E E' ∧ a' = a ∧ s' = s ∧ m' = m
  | _, _ => False
section
variable {T : Int → Int} {n p a s m : Int} {E D : DT}
theorem numK_s {lo hi : Int} {K K' : Int → RES} (h : lo ≤ vl T n p → vl T n p ≤ hi → simR (K (vl T n p)) (K' (vl T n p))) : simR (numK T n p lo hi K) (numK T n p lo hi K') := by
  by_cases c : numF T n p lo hi = 0
  · rw [numK_ok c, numK_ok c]
    have := (numF_ok c).2.1
    exact h this.1 this.2
  · rw [numK_no c, numK_no c]
    exact rfl
theorem sndK_s {K K' : Int → RES} (e : D 0 0 = E 0 0) (h : numF T n p 0 9999 = 0 → vl T n p < E 0 0 → simR (K (vl T n p)) (K' (vl T n p))) : simR (sndK T n p E K) (sndK T n p D K') := by
  have ef : sndF T n p D = sndF T n p E := by unfold sndF; rw [e]
  by_cases c : sndF T n p E = 0
  · rw [sndK_ok c, sndK_ok (ef.trans c)]
    have := sndF_ok c
    exact h this.1 this.2
  · rw [sndK_no c, sndK_no (by rw [ef]; exact c), ef]
    exact rfl
theorem endR_s (h : simD E D) : simR (endR T n p E a s m) (endR T n p D a s m) := by
  unfold endR
  by_cases c : kd T n p = 3
  · rw [if_pos c, if_pos c]; exact ⟨rfl, h, rfl, rfl, rfl⟩
  · rw [if_neg c, if_neg c]; exact rfl
theorem simD.c {i : Int} (h : simD E D) (h0 : 0 ≤ i ∧ i ≤ 6) : D 0 i = E 0 i := h.1 i h0.1 h0.2
theorem rSound_s (h : simD E D) : simR (rSound T n p E a s m) (rSound T n p D a s m) := by
  unfold rSound
  rw [h.c (i := 0) (by decide)]
  by_cases c : 8 ≤ E 0 0
  · rw [if_pos c, if_pos c]; exact rfl
  rw [if_neg c, if_neg c]
  refine numK_s (fun _ _ => numK_s (fun _ _ => endR_s ?_))
  refine ((h.u1 (by decide)).u1 (by decide)).nx (c := 0) (by decide) rfl (fun _ => ⟨?_, ?_⟩) (fun z => absurd z (by decide)) (fun z => absurd z (by decide)) (fun z => absurd z (by decide))
  · exact upD_cg (by rw [upD_ci, upD_ci])
  · rw [upD_ci, upD_ci]
theorem rStraight_s (h : simD E D) : simR (rStraight T n p E a s m) (rStraight T n p D a s m) := by
  unfold rStraight
  by_cases c : s ≠ 0
  · rw [if_pos c, if_pos c]; exact rfl
  rw [if_neg c, if_neg c]
  exact numK_s (fun _ _ => numK_s (fun _ _ => endR_s ((h.u1 (by decide)).u1 (by decide))))
theorem rAir_s (h : simD E D) : simR (rAir T n p E a s m) (rAir T n p D a s m) := by
  unfold rAir
  refine numK_s (fun _ _ => ?_)
  by_cases c : bt a (vl T n (bh T n p)).toNat = true
  · rw [if_pos c, if_pos c]; exact rfl
  rw [if_neg c, if_neg c]
  exact numK_s (fun _ _ => endR_s (h.u1 (by decide)))
theorem rMask_s (h : simD E D) : simR (rMask T n p E a s m) (rMask T n p D a s m) := by
  unfold rMask
  by_cases c : m ≠ 0
  · rw [if_pos c, if_pos c]; exact rfl
  rw [if_neg c, if_neg c]
  exact numK_s (fun _ _ => numK_s (fun _ _ => numK_s (fun _ _ => endR_s (((h.u0 (by decide)).u0 (by decide)).u0 (by decide)))))
theorem rSweet_s (hp : p ≤ n) (ho : okD E) (h : simD E D) : simR (rSweet T n p E a s m) (rSweet T n p D a s m) := by
  unfold rSweet
  have b := bh_rng T hp
  have b2 := bh_rng T (show bh T n p ≤ n by omega)
  have v1 := vl_rng T (show bh T n p ≤ n by omega)
  have v2 := vl_rng T (show bh T n (bh T n p) ≤ n by omega)
  have c0 := ho.1
  refine sndK_s (h.c (i := 0) (by decide)) (fun _ x1 => sndK_s (h.c (i := 0) (by decide)) (fun _ x2 => ?_))
  by_cases c : vl T n (bh T n p) = vl T n (bh T n (bh T n p))
  · rw [if_pos c, if_pos c]; exact rfl
  rw [if_neg c, if_neg c]
  refine endR_s ?_
  unfold sweetE
  have e := h.2.2.1
  rw [e _ v1.1 (by omega), e _ v2.1 (by omega)]
  exact (h.u1 (by decide)).u1 (by decide)
theorem formL_s {f : Int} : ∀ (d : Nat) (p : Int) (E D : DT), simD E D → (∀ i : Int, 0 ≤ i → i < 3 - d → D 14 (f * 3 + i) = E 14 (f * 3 + i)) → d ≤ 3 → simR (formL T n f a s m d p E) (formL T n f a s m d p D)
  | 0, p, E, D, _, _, _ => rfl
  | d + 1, p, E, D, h, ht, hd => by
    rw [formL, formL]
    refine numK_s (fun _ _ => ?_)
    have tl : ∀ i : Int, 0 ≤ i → i < (2 - (d : Int)) + 1 → (upD D 14 (f * 3 + (2 - d)) (vl T n p)) 14 (f * 3 + i) = (upD E 14 (f * 3 + (2 - d)) (vl T n p)) 14 (f * 3 + i) := fun i i0 i1 => by
      by_cases e : i = 2 - d
      · rw [e, upD_ci, upD_ci]
      · exact upD_cg (ht i i0 (by omega))
    have h2 := (h.u1 (k := 14) (i := f * 3 + (2 - d)) (v := vl T n p) (by decide)).u13 (w := f) (v := (2 - (d : Int)) + 1) tl
    by_cases c : kd T n (bh T n p) = 2
    · rw [if_pos c, if_pos c]
      refine formL_s d _ _ _ h2 (fun i i0 i1 => ?_) (by omega)
      exact upD_cg (tl i i0 (by omega))
    · rw [if_neg c, if_neg c]
      exact endR_s h2
theorem rForm_s (h : simD E D) : simR (rForm T n p E a s m) (rForm T n p D a s m) := by
  unfold rForm
  rw [h.c (i := 3) (by decide)]
  by_cases c : 6 ≤ E 0 3
  · rw [if_pos c, if_pos c]; exact rfl
  rw [if_neg c, if_neg c]
  refine formL_s 3 _ _ _ ?_ (fun i i0 i1 => by omega) (by decide)
  refine (h.u13 (fun i x y => by omega)).nx (c := 3) (by decide) rfl (fun z => absurd z (by decide)) (fun z => absurd z (by decide)) (fun z => absurd z (by decide)) (fun _ => ⟨?_, fun i x y => ?_⟩)
  · rw [upD_ci, upD_ci]
  · rw [upD_ci] at y; omega
theorem wordL_s {w : Int} : ∀ (d : Nat) (p : Int) (E D : DT), simD E D → (∀ i : Int, 0 ≤ i → i < 4 - d → D 12 (w * 4 + i) = E 12 (w * 4 + i)) → d ≤ 4 → simR (wordL T n w a s m d p E) (wordL T n w a s m d p D)
  | 0, p, E, D, _, _, _ => rfl
  | d + 1, p, E, D, h, ht, hd => by
    rw [wordL, wordL]
    refine sndK_s (h.c (i := 0) (by decide)) (fun _ _ => ?_)
    have tl : ∀ i : Int, 0 ≤ i → i < (3 - (d : Int)) + 1 → (upD D 12 (w * 4 + (3 - d)) (vl T n p)) 12 (w * 4 + i) = (upD E 12 (w * 4 + (3 - d)) (vl T n p)) 12 (w * 4 + i) := fun i i0 i1 => by
      by_cases e : i = 3 - d
      · rw [e, upD_ci, upD_ci]
      · exact upD_cg (ht i i0 (by omega))
    have h2 := (h.u1 (k := 12) (i := w * 4 + (3 - d)) (v := vl T n p) (by decide)).u11 (w := w) (v := (3 - (d : Int)) + 1) tl
    by_cases c : kd T n (bh T n p) = 2
    · rw [if_pos c, if_pos c]
      refine wordL_s d _ _ _ h2 (fun i i0 i1 => ?_) (by omega)
      exact upD_cg (tl i i0 (by omega))
    · rw [if_neg c, if_neg c]
      exact endR_s h2
theorem rWord_s (h : simD E D) : simR (rWord T n p E a s m) (rWord T n p D a s m) := by
  unfold rWord
  rw [h.c (i := 2) (by decide)]
  by_cases c : 8 ≤ E 0 2
  · rw [if_pos c, if_pos c]; exact rfl
  rw [if_neg c, if_neg c]
  refine numK_s (fun _ _ => ?_)
  refine wordL_s 4 _ _ _ ?_ (fun i i0 i1 => by omega) (by decide)
  refine ((h.u1 (k := 10) (by decide)).u11 (fun i x y => by omega)).nx (c := 2) (by decide) rfl (fun z => absurd z (by decide)) (fun z => absurd z (by decide)) (fun _ => ⟨?_, ?_, fun i x y => ?_⟩) (fun z => absurd z (by decide))
  · exact upD_cg (by rw [upD_ci, upD_ci])
  · rw [upD_ci, upD_ci]
  · rw [upD_ci] at y; omega
theorem agR_s {w : Int} (h : simD E D) : simR (agR T n w a s m p E) (agR T n w a s m p D) := by
  unfold agR
  by_cases c : cl (spl T n p (SW 3)) = true
  · rw [if_pos c, if_pos c]
    exact numK_s (fun _ _ => endR_s (h.u1 (by decide)))
  · rw [if_neg c, if_neg c]
    exact endR_s h
theorem swL_s {w : Int} : ∀ (d : Nat) (p : Int) (E D : DT), simD E D → D 6 w = E 6 w → simR (swL T n w (agR T n w a s m) d p E) (swL T n w (agR T n w a s m) d p D)
  | 0, p, E, D, h, _ => agR_s h
  | d + 1, p, E, D, h, e6 => by
    rw [swL, swL, e6]
    refine numK_s (fun _ _ => ?_)
    by_cases c : bt (E 6 w) (vl T n p).toNat = true
    · rw [if_pos c, if_pos c]; exact rfl
    rw [if_neg c, if_neg c]
    have h2 := h.u1 (k := 6) (i := w) (v := bOr (E 6 w) (1 * 2 ^ (vl T n p).toNat)) (by decide)
    by_cases c : kd T n (bh T n p) = 2
    · rw [if_pos c, if_pos c]
      exact swL_s d _ _ _ h2 (by rw [upD_ci, upD_ci])
    · rw [if_neg c, if_neg c]
      exact agR_s h2
theorem rWall_s (h : simD E D) : simR (rWall T n p E a s m) (rWall T n p D a s m) := by
  unfold rWall
  rw [h.c (i := 1) (by decide)]
  by_cases c : 6 ≤ E 0 1
  · rw [if_pos c, if_pos c]; exact rfl
  rw [if_neg c, if_neg c]
  refine numK_s (fun _ _ => numK_s (fun _ _ => numK_s (fun _ _ => numK_s (fun _ _ => ?_))))
  have hw : ∀ x y z v : Int, simD (wallE E (E 0 1) x y z v) (wallE D (E 0 1) x y z v) := fun x y z v => by
    unfold wallE
    refine ((((((h.u1 (k := 4) (by decide)).u1 (k := 4) (by decide)).u1 (k := 4) (by decide)).u1 (k := 5) (by decide)).u1 (k := 6) (by decide)).u1 (k := 7) (by decide)).nx (c := 1) (by decide) rfl (fun z => absurd z (by decide)) (fun _ => ⟨fun e e0 e1 => ?_, ?_, ?_, ?_⟩) (fun z => absurd z (by decide)) (fun z => absurd z (by decide))
    · rw [upD_n (k' := 4) (k := 7) (by decide), upD_n (k' := 4) (k := 6) (by decide), upD_n (k' := 4) (k := 5) (by decide), upD_n (k' := 4) (k := 7) (by decide), upD_n (k' := 4) (k := 6) (by decide), upD_n (k' := 4) (k := 5) (by decide)]
      rcases (show e = 0 ∨ e = 1 ∨ e = 2 by omega) with q | q | q <;> rw [q]
      · rw [upD_cn (by omega), upD_cn (by omega), upD_ci, upD_cn (by omega), upD_cn (by omega), upD_ci]
      · rw [upD_cn (by omega), upD_ci, upD_cn (by omega), upD_ci]
      · rw [upD_ci, upD_ci]
    · rw [upD_n (k' := 5) (k := 7) (by decide), upD_n (k' := 5) (k := 6) (by decide), upD_ci, upD_n (k' := 5) (k := 7) (by decide), upD_n (k' := 5) (k := 6) (by decide), upD_ci]
    · rw [upD_n (k' := 6) (k := 7) (by decide), upD_ci, upD_n (k' := 6) (k := 7) (by decide), upD_ci]
    · rw [upD_ci, upD_ci]
  have w6 : ∀ (F : DT) (x y z v : Int), wallE F (E 0 1) x y z v 6 (E 0 1) = 0 := fun F x y z v => by
    unfold wallE
    rw [upD_n (k' := 6) (k := 0) (by decide), upD_n (k' := 6) (k := 7) (by decide), upD_ci]
  by_cases c : cl (spl T n (bh T n (bh T n (bh T n (bh T n (bh T n p))))) (SW 2)) = true
  · rw [if_pos c, if_pos c]
    exact swL_s 5 _ _ _ (hw _ _ _ _) (by rw [w6, w6])
  · rw [if_neg c, if_neg c]
    exact agR_s (hw _ _ _ _)
theorem rLine_s (hp : p ≤ n) (ho : okD E) (h : simD E D) : simR (rLine T n p E a s m) (rLine T n p D a s m) := by
  unfold rLine
  by_cases c : cl (spl T n p (SW 0)) = true
  · rw [if_pos c, if_pos c]; exact rSound_s h
  rw [if_neg c, if_neg c]; clear c
  by_cases c : cl (spl T n p (SW 1)) = true
  · rw [if_pos c, if_pos c]; exact rWall_s h
  rw [if_neg c, if_neg c]; clear c
  by_cases c : cl (spl T n p (SW 4)) = true
  · rw [if_pos c, if_pos c]; exact rStraight_s h
  rw [if_neg c, if_neg c]; clear c
  by_cases c : cl (spl T n p (SW 5)) = true
  · rw [if_pos c, if_pos c]; exact rAir_s h
  rw [if_neg c, if_neg c]; clear c
  by_cases c : cl (spl T n p (SW 6)) = true
  · rw [if_pos c, if_pos c]; exact rMask_s h
  rw [if_neg c, if_neg c]; clear c
  by_cases c : cl (spl T n p (SW 7)) = true
  · rw [if_pos c, if_pos c]; exact rSweet_s hp ho h
  rw [if_neg c, if_neg c]; clear c
  by_cases c : cl (spl T n p (SW 8)) = true
  · rw [if_pos c, if_pos c]; exact rWord_s h
  rw [if_neg c, if_neg c]; clear c
  by_cases c : cl (spl T n p (SW 9)) = true
  · rw [if_pos c, if_pos c]; exact rForm_s h
  rw [if_neg c, if_neg c]
  exact rfl
theorem rAll_s : ∀ (d : Nat) (p : Int) (E D : DT) (a s m : Int), p ≤ n → okS E a s m → simD E D → simR (rAll T n d (p, E, a, s, m)) (rAll T n d (p, D, a, s, m))
  | 0, p, E, D, a, s, m, _, _, h => ⟨rfl, h, rfl, rfl, rfl⟩
  | d + 1, p, E, D, a, s, m, hp, ho, h => by
    by_cases c : kd T n p = 0
    · rw [rAll_end c, rAll_end c]; exact ⟨rfl, h, rfl, rfl, rfl⟩
    · have z := rLine_s (T := T) (a := a) (s := s) (m := m) hp ho.1 h
      cases e1 : rLine T n p E a s m with
      | inl k1 =>
        rw [e1] at z
        cases e2 : rLine T n p D a s m with
        | inl k2 => rw [e2] at z; rw [rAll_no c e1, rAll_no c e2]; exact z
        | inr S2 => rw [e2] at z; exact absurd z (fun w => w)
      | inr S1 =>
        rw [e1] at z
        cases e2 : rLine T n p D a s m with
        | inl k2 => rw [e2] at z; exact absurd z (fun w => w)
        | inr S2 =>
          rw [e2] at z
          have gd := rLine_good hp ho e1
          obtain ⟨p1, E1, a1, s1, m1⟩ := S1
          obtain ⟨p2, E2, a2, s2, m2⟩ := S2
          obtain ⟨z1, z2, z3, z4, z5⟩ := z
          rw [rAll_ok c e1, rAll_ok c e2, z1, z3, z4, z5]
          exact rAll_s d p1 E1 E2 a1 s1 m1 gd.1.2.2 gd.1.1 z2
end
theorem clrD.sim {E D : DT} (h : clrD E) (h' : clrD D) : simD E D := by
  obtain ⟨⟨a0, a1, a2, a3, a4, a5, a6⟩, b, c, d⟩ := h
  obtain ⟨⟨a0', a1', a2', a3', a4', a5', a6'⟩, b', c', d'⟩ := h'
  refine ⟨fun i x y => ?_, fun s x y => by omega, fun s x y => by rw [b s x y, b' s x y], fun w x y => by omega, fun e x y => by rw [c e x y, c' e x y], fun o x y => by rw [d o x y, d' o x y], fun w x y => by omega, fun f x y => by omega⟩
  rcases (show i = 0 ∨ i = 1 ∨ i = 2 ∨ i = 3 ∨ i = 4 ∨ i = 5 ∨ i = 6 by omega) with e | e | e | e | e | e | e <;> rw [e] <;> omega
theorem simD.cap {E D F : DT} (h : simD E D) (ho : okD E) (hc : capD D F) : simD E F := by
  obtain ⟨a0, a1, a3, a4, a8, a9, a10, a13⟩ := h
  obtain ⟨c0, c1, c4, c5, c8, c9, c10, c12⟩ := hc
  obtain ⟨o0, o1, o2, o3, -, -, -, -, -, -, -, -, -, o14, o15⟩ := ho
  refine ⟨fun i x y => by rw [c0 i x y, a0 i x y], fun s x y => ?_, fun s x y => by rw [(c1 s x y).2.2, a3 s x y], fun w x y => ?_, fun e x y => by rw [c8 e x y, a8 e x y], fun o x y => by rw [c9 o x y, a9 o x y], fun w x y => ?_, fun f x y => ?_⟩
  · obtain ⟨p, q, -⟩ := c1 s x (by omega)
    rw [p, q]; exact a1 s x y
  · obtain ⟨p, q, r, -⟩ := c5 w x (by omega)
    obtain ⟨b1, b2⟩ := a4 w x y
    rw [p, q, r]
    exact ⟨fun e u v => by rw [(c4 (w * 3 + e) (by omega) (by omega)).1]; exact b1 e u v, b2⟩
  · obtain ⟨p, q⟩ := c10 w x (by omega)
    obtain ⟨b1, b2, b3⟩ := a10 w x y
    have l := (o14 w x y).2.1
    rw [p, q]
    exact ⟨b1, b2, fun i u v => by rw [c12 (w * 4 + i) (by omega) (by omega)]; exact b3 i u v⟩
  · obtain ⟨-, -, -, p⟩ := c5 f x (by omega)
    obtain ⟨b1, b2⟩ := a13 f x y
    have l := (o15 f x y).1
    rw [p]
    exact ⟨b1, fun i u v => by rw [(c4 (f * 3 + i) (by omega) (by omega)).2]; exact b2 i u v⟩
theorem simD.rf (E : DT) : simD E E := ⟨fun _ _ _ => rfl, fun _ _ _ => ⟨rfl, rfl⟩, fun _ _ _ => rfl, fun _ _ _ => ⟨fun _ _ _ => rfl, rfl, rfl, rfl⟩, fun _ _ _ => rfl, fun _ _ _ => rfl, fun _ _ _ => ⟨rfl, rfl, fun _ _ _ => rfl⟩, fun _ _ _ => ⟨rfl, fun _ _ _ => rfl⟩⟩
theorem simD.eq {E E' D : DT} (h : simD E D) (e : eqD E E') : simD E' D := by
  unfold simD at h ⊢
  rw [e 0 (by decide) (by decide), e 1 (by decide) (by decide), e 2 (by decide) (by decide), e 3 (by decide) (by decide), e 4 (by decide) (by decide), e 5 (by decide) (by decide), e 6 (by decide) (by decide), e 7 (by decide) (by decide), e 8 (by decide) (by decide), e 9 (by decide) (by decide), e 10 (by decide) (by decide), e 11 (by decide) (by decide), e 12 (by decide) (by decide), e 13 (by decide) (by decide), e 14 (by decide) (by decide)]
  exact h
