/-! ===== the model's reader: what is new, good and wrong ===== -/
def cN (k : Int) : Int := if k = 0 then 98 else if k = 1 then 108 else if k = 2 then 108 else if k = 3 then 114 else if k = 4 then 109 else if k = 5 then 109 else if k = 6 then 109 else if k = 7 then 109 else if k = 8 then 112 else if k = 9 then 113 else if k = 10 then 110 else if k = 11 then 110 else if k = 12 then 110 else if k = 13 then 111 else if k = 14 then 111 else 1
def iN (k i : Int) : Int := if k = 0 then i + 27 else if k = 1 then 2 * i else if k = 2 then 2 * i + 1 else if k = 3 then i else if k = 4 then 6 * (i / 3) + i % 3 else if k = 5 then 6 * i + 3 else if k = 6 then 6 * i + 4 else if k = 7 then 6 * i + 5 else if k = 8 then i else if k = 9 then i else if k = 10 then 6 * i else if k = 11 then 6 * i + 1 else if k = 12 then 6 * (i / 4) + 2 + i % 4 else if k = 13 then 4 * i else 4 * (i / 3) + 1 + i % 3
/-- what the model's reader has told so far -/
def dN (h : AH) : DT := fun k i => if (0 ≤ k ∧ k ≤ 14) ∧ (k = 0 → 0 ≤ i ∧ i ≤ 6) then h (cN k) (iN k i) else 0
theorem ciN (k i : Int) (hk : 0 ≤ k ∧ k ≤ 14) : (k = 0 ∧ cN k = 98 ∧ iN k i = i + 27) ∨ (k = 1 ∧ cN k = 108 ∧ iN k i = 2 * i) ∨ (k = 2 ∧ cN k = 108 ∧ iN k i = 2 * i + 1) ∨ (k = 3 ∧ cN k = 114 ∧ iN k i = i) ∨ (k = 4 ∧ cN k = 109 ∧ iN k i = 6 * (i / 3) + i % 3) ∨ (k = 5 ∧ cN k = 109 ∧ iN k i = 6 * i + 3) ∨ (k = 6 ∧ cN k = 109 ∧ iN k i = 6 * i + 4) ∨ (k = 7 ∧ cN k = 109 ∧ iN k i = 6 * i + 5) ∨ (k = 8 ∧ cN k = 112 ∧ iN k i = i) ∨ (k = 9 ∧ cN k = 113 ∧ iN k i = i) ∨ (k = 10 ∧ cN k = 110 ∧ iN k i = 6 * i) ∨ (k = 11 ∧ cN k = 110 ∧ iN k i = 6 * i + 1) ∨ (k = 12 ∧ cN k = 110 ∧ iN k i = 6 * (i / 4) + 2 + i % 4) ∨ (k = 13 ∧ cN k = 111 ∧ iN k i = 4 * i) ∨ (k = 14 ∧ cN k = 111 ∧ iN k i = 4 * (i / 3) + 1 + i % 3) := by
  have : k = 0 ∨ k = 1 ∨ k = 2 ∨ k = 3 ∨ k = 4 ∨ k = 5 ∨ k = 6 ∨ k = 7 ∨ k = 8 ∨ k = 9 ∨ k = 10 ∨ k = 11 ∨ k = 12 ∨ k = 13 ∨ k = 14 := by omega
  rcases this with e | e | e | e | e | e | e | e | e | e | e | e | e | e | e <;> rw [e] <;> simp [cN, iN]
theorem up_if (h : AH) (c i v c' i' : Int) : up h c i v c' i' = if c' = c ∧ i' = i then v else h c' i' := by
  by_cases e : c' = c
  · by_cases e2 : i' = i
    · rw [e, e2, up_ci, if_pos ⟨rfl, rfl⟩]
    · rw [if_neg (fun z => e2 z.2), e, up_cn e2]
  · rw [if_neg (fun z => e z.1), up_n e]
theorem upD_if (E : DT) (k i v k' i' : Int) : upD E k i v k' i' = if k' = k ∧ i' = i then v else E k' i' := by
  by_cases e : k' = k
  · by_cases e2 : i' = i
    · rw [e, e2, upD_ci, if_pos ⟨rfl, rfl⟩]
    · rw [if_neg (fun z => e2 z.2), e, upD_cn e2]
  · rw [if_neg (fun z => e z.1), upD_n e]
theorem upD_comm (E : DT) {k i v k' i' v' : Int} (hk : k ≠ k' ∨ i ≠ i') : upD (upD E k i v) k' i' v' = upD (upD E k' i' v') k i v := by
  funext x y
  rw [upD_if, upD_if, upD_if, upD_if]
  by_cases a : x = k ∧ y = i
  · rw [if_pos a, if_pos a, if_neg (fun z => by omega)]
  · rw [if_neg a, if_neg a]
theorem dN_u (h : AH) {c j v k i : Int} (hk : 0 ≤ k ∧ k ≤ 14) (hi : k = 0 → 0 ≤ i ∧ i ≤ 6) (ec : cN k = c) (ej : iN k i = j) (e : ∀ k' i', 0 ≤ k' ∧ k' ≤ 14 → cN k' = c → iN k' i' = j → k' = k ∧ i' = i) : dN (up h c j v) = upD (dN h) k i v := by
  funext k' i'
  rw [upD_if]
  unfold dN
  by_cases r : (0 ≤ k' ∧ k' ≤ 14) ∧ (k' = 0 → 0 ≤ i' ∧ i' ≤ 6)
  · rw [if_pos r, if_pos r, up_if]
    by_cases a : k' = k ∧ i' = i
    · rw [if_pos a, if_pos ⟨by rw [a.1]; exact ec, by rw [a.1, a.2]; exact ej⟩]
    · rw [if_neg a, if_neg (fun z => a (e k' i' r.1 z.1 z.2))]
  · rw [if_neg r, if_neg r, if_neg (fun z => r ⟨by rw [z.1]; exact hk, fun q => by rw [z.2]; exact hi (by omega)⟩)]
theorem dN_98n (h : AH) {j v : Int} (hj : j < 27 ∨ 33 < j) : dN (up h 98 j v) = dN h := by
  funext k' i'
  unfold dN
  by_cases r : (0 ≤ k' ∧ k' ≤ 14) ∧ (k' = 0 → 0 ≤ i' ∧ i' ≤ 6)
  · rw [if_pos r, if_pos r, up_if, if_neg (fun z => by have := ciN k' i' r.1; omega)]
  · rw [if_neg r, if_neg r]
theorem dN_0 (h : AH) {i v : Int} (hi : 0 ≤ i ∧ i ≤ 6) : dN (up h 98 (i + 27) v) = upD (dN h) 0 (i) v :=
  dN_u h (by decide) (fun z => by omega) rfl (by show (i) + 27 = _; omega) (fun k' i' r a b => by have := ciN k' i' r; omega)
theorem dN_1 (h : AH) {s v : Int} : dN (up h 108 (2 * s) v) = upD (dN h) 1 (s) v :=
  dN_u h (by decide) (fun z => by omega) rfl (by show 2 * (s) = _; omega) (fun k' i' r a b => by have := ciN k' i' r; omega)
theorem dN_2 (h : AH) {s v : Int} : dN (up h 108 (2 * s + 1) v) = upD (dN h) 2 (s) v :=
  dN_u h (by decide) (fun z => by omega) rfl (by show 2 * (s) + 1 = _; omega) (fun k' i' r a b => by have := ciN k' i' r; omega)
theorem dN_3 (h : AH) {s v : Int} : dN (up h 114 (s) v) = upD (dN h) 3 (s) v :=
  dN_u h (by decide) (fun z => by omega) rfl (by show s = _; omega) (fun k' i' r a b => by have := ciN k' i' r; omega)
theorem dN_4 (h : AH) {w e v : Int} (he : 0 ≤ e ∧ e < 3) : dN (up h 109 (6 * w + e) v) = upD (dN h) 4 (w * 3 + e) v :=
  dN_u h (by decide) (fun z => by omega) rfl (by show 6 * ((w * 3 + e) / 3) + (w * 3 + e) % 3 = _; omega) (fun k' i' r a b => by have := ciN k' i' r; omega)
theorem dN_5 (h : AH) {w v : Int} : dN (up h 109 (6 * w + 3) v) = upD (dN h) 5 (w) v :=
  dN_u h (by decide) (fun z => by omega) rfl (by show 6 * (w) + 3 = _; omega) (fun k' i' r a b => by have := ciN k' i' r; omega)
theorem dN_6 (h : AH) {w v : Int} : dN (up h 109 (6 * w + 4) v) = upD (dN h) 6 (w) v :=
  dN_u h (by decide) (fun z => by omega) rfl (by show 6 * (w) + 4 = _; omega) (fun k' i' r a b => by have := ciN k' i' r; omega)
theorem dN_7 (h : AH) {w v : Int} : dN (up h 109 (6 * w + 5) v) = upD (dN h) 7 (w) v :=
  dN_u h (by decide) (fun z => by omega) rfl (by show 6 * (w) + 5 = _; omega) (fun k' i' r a b => by have := ciN k' i' r; omega)
theorem dN_8 (h : AH) {s v : Int} : dN (up h 112 (s) v) = upD (dN h) 8 (s) v :=
  dN_u h (by decide) (fun z => by omega) rfl (by show s = _; omega) (fun k' i' r a b => by have := ciN k' i' r; omega)
theorem dN_9 (h : AH) {s v : Int} : dN (up h 113 (s) v) = upD (dN h) 9 (s) v :=
  dN_u h (by decide) (fun z => by omega) rfl (by show s = _; omega) (fun k' i' r a b => by have := ciN k' i' r; omega)
theorem dN_10 (h : AH) {w v : Int} : dN (up h 110 (6 * w) v) = upD (dN h) 10 (w) v :=
  dN_u h (by decide) (fun z => by omega) rfl (by show 6 * (w) = _; omega) (fun k' i' r a b => by have := ciN k' i' r; omega)
theorem dN_11 (h : AH) {w v : Int} : dN (up h 110 (6 * w + 1) v) = upD (dN h) 11 (w) v :=
  dN_u h (by decide) (fun z => by omega) rfl (by show 6 * (w) + 1 = _; omega) (fun k' i' r a b => by have := ciN k' i' r; omega)
theorem dN_12 (h : AH) {w e v : Int} (he : 0 ≤ e ∧ e < 4) : dN (up h 110 (6 * w + 2 + e) v) = upD (dN h) 12 (w * 4 + e) v :=
  dN_u h (by decide) (fun z => by omega) rfl (by show 6 * ((w * 4 + e) / 4) + 2 + (w * 4 + e) % 4 = _; omega) (fun k' i' r a b => by have := ciN k' i' r; omega)
theorem dN_13 (h : AH) {f v : Int} : dN (up h 111 (4 * f) v) = upD (dN h) 13 (f) v :=
  dN_u h (by decide) (fun z => by omega) rfl (by show 4 * (f) = _; omega) (fun k' i' r a b => by have := ciN k' i' r; omega)
theorem dN_14 (h : AH) {f e v : Int} (he : 0 ≤ e ∧ e < 3) : dN (up h 111 (4 * f + 1 + e) v) = upD (dN h) 14 (f * 3 + e) v :=
  dN_u h (by decide) (fun z => by omega) rfl (by show 4 * ((f * 3 + e) / 3) + 1 + (f * 3 + e) % 3 = _; omega) (fun k' i' r a b => by have := ciN k' i' r; omega)
/-- the reader's own frame: only what is new, and its own figures -/
def kpP (h0 h : AH) : Prop := (∀ c, (c < 98 ∨ (98 < c ∧ c < 108) ∨ 114 < c) → h c = h0 c) ∧ ∀ j, (j < 17 ∨ (18 < j ∧ j < 21) ∨ 36 < j) → h 98 j = h0 98 j
theorem kpP.rf (h : AH) : kpP h h := ⟨fun _ _ => rfl, fun _ _ => rfl⟩
theorem kpP.tr {h0 h h' : AH} (a : kpP h0 h) (b : kpP h h') : kpP h0 h' := ⟨fun c z => (b.1 c z).trans (a.1 c z), fun j z => (b.2 j z).trans (a.2 j z)⟩
theorem kpP.w {h0 h : AH} (k : kpP h0 h) {c i v : Int} (hc : (108 ≤ c ∧ c ≤ 114) ∨ (c = 98 ∧ (17 ≤ i ∧ i ≤ 36 ∧ i ≠ 19 ∧ i ≠ 20))) : kpP h0 (up h c i v) := by
  refine ⟨fun c' z => ?_, fun j z => ?_⟩
  · rw [up_n (by omega)]; exact k.1 c' z
  · rw [up_if, if_neg (by omega)]; exact k.2 j z
theorem kpP.st {h0 h h' : AH} (k : kpP h0 h) (s : st98 h h') : kpP h0 h' := ⟨fun c z => (s.1 c (by omega)).trans (k.1 c z), fun j z => (s.2 j (by omega)).trans (k.2 j z)⟩
theorem kpP.tx {h0 h : AH} {T : Int → Int} {n : Int} (k : kpP h0 h) (ht : txM h0 T n) : txM h T n := ⟨by rw [k.2 20 (by decide)]; exact ht.1, ht.2.1, by rw [k.1 106 (by decide)]; exact ht.2.2⟩
def gM (h0 h : AH) (T : Int → Int) (n p : Int) (E : DT) (a s m : Int) : Prop := kpP h0 h ∧ (0 ≤ p ∧ p ≤ n) ∧ tokM h T n p ∧ h 98 17 = 0 ∧ dN h = E ∧ h 98 34 = a ∧ h 98 35 = s ∧ h 98 36 = m ∧ h 98 18 = -1
def bdM (h0 h : AH) (T : Int → Int) (n k q c : Int) : Prop := kpP h0 h ∧ (∃ p, (0 ≤ p ∧ p ≤ n) ∧ tokM h T n p) ∧ h 98 17 = k ∧ h 98 18 = q ∧ (1 ≤ k ∧ k ≤ 5) ∧ h 98 27 = c
def RM (h0 h : AH) (T : Int → Int) (n : Int) : RES → Prop
  | .inl (k, q) => ∃ c, bdM h0 h T n k q c
  | .inr (p, E, a, s, m) => gM h0 h T n p E a s m
section
variable {h0 h : AH} {T : Int → Int} {n p a s m k q c : Int} {E : DT} {fr : Nat}
theorem tokM.w (t : tokM h T n p) {c i v : Int} (hc : c ≠ 98 ∨ i < 21 ∨ 26 < i) : tokM (up h c i v) T n p := by
  have e : ∀ j, 21 ≤ j → j ≤ 26 → up h c i v 98 j = h 98 j := fun j a b => by rw [up_if, if_neg (by omega)]
  unfold tokM
  rw [e 21 (by decide) (by decide), e 22 (by decide) (by decide), e 23 (by decide) (by decide), e 24 (by decide) (by decide), e 25 (by decide) (by decide), e 26 (by decide) (by decide)]
  exact t
theorem gM.w (g : gM h0 h T n p E a s m) {c i v : Int} (hc : 108 ≤ c ∧ c ≤ 114) : gM h0 (up h c i v) T n p (dN (up h c i v)) a s m := by
  obtain ⟨k, r, t, g17, gE, ga, gs, gm, g18⟩ := g
  exact ⟨k.w (Or.inl hc), r, t.w (Or.inl (by omega)), by rw [up_n (by omega)]; exact g17, rfl, by rw [up_n (by omega)]; exact ga, by rw [up_n (by omega)]; exact gs, by rw [up_n (by omega)]; exact gm, by rw [up_n (by omega)]; exact g18⟩
theorem gM.cw (g : gM h0 h T n p E a s m) {i v : Int} (hc : 27 ≤ i ∧ i ≤ 33) : gM h0 (up h 98 i v) T n p (dN (up h 98 i v)) a s m := by
  obtain ⟨k, r, t, g17, gE, ga, gs, gm, g18⟩ := g
  exact ⟨k.w (Or.inr ⟨rfl, by omega⟩), r, t.w (Or.inr (by omega)), by rw [up_cn (by omega)]; exact g17, rfl, by rw [up_cn (by omega)]; exact ga, by rw [up_cn (by omega)]; exact gs, by rw [up_cn (by omega)]; exact gm, by rw [up_cn (by omega)]; exact g18⟩
theorem bdM.w (g : bdM h0 h T n k q c) {c' i v : Int} (hc : 108 ≤ c' ∧ c' ≤ 114) : bdM h0 (up h c' i v) T n k q c := by
  obtain ⟨kk, ⟨p, r, t⟩, g17, g18, kr, g27⟩ := g
  exact ⟨kk.w (Or.inl hc), ⟨p, r, t.w (Or.inl (by omega))⟩, by rw [up_n (by omega)]; exact g17, by rw [up_n (by omega)]; exact g18, kr, by rw [up_n (by omega)]; exact g27⟩
theorem bdM.cw (g : bdM h0 h T n k q c) {i v : Int} (hc : 28 ≤ i ∧ i ≤ 36) : bdM h0 (up h 98 i v) T n k q c := by
  obtain ⟨kk, ⟨p, r, t⟩, g17, g18, kr, g27⟩ := g
  exact ⟨kk.w (Or.inr ⟨rfl, by omega⟩), ⟨p, r, t.w (Or.inr (by omega))⟩, by rw [up_cn (by omega)]; exact g17, by rw [up_cn (by omega)]; exact g18, kr, by rw [up_cn (by omega)]; exact g27⟩
theorem gM.cnt (g : gM h0 h T n p E a s m) {i : Int} (hi : 0 ≤ i ∧ i ≤ 6) : h 98 (i + 27) = E 0 i := by
  rw [← g.2.2.2.2.1]
  unfold dN
  rw [if_pos ⟨by decide, fun _ => hi⟩]
  rfl
theorem m_wrong_g {x : Int} (hx : 1 ≤ x ∧ x ≤ 5) (g : gM h0 h T n p E a s m) : Sp mX12_wrong true fr 0 0 [zR 98, zI x] 137 h (rV (fun h' => bdM h0 h' T n x (pl T n p) (E 0 0))) := by
  refine Sp.mk yX12_wrong_ok rfl rfl ?_
  have e := g.cnt (i := 0) (by decide)
  obtain ⟨k, r, t, g17, gE, ga, gs, gm, g18⟩ := g
  refine bX12_wrong_0 (kt := fun _ => bX12_wrong_8 (hq := ⟨rfl, rfl, (k.w (Or.inr (by decide))).w (Or.inr (by decide)), ⟨p, r, (t.w (Or.inr (by decide))).w (Or.inr (by decide))⟩, ?_, ?_, hx, ?_⟩)) (kf := fun z => absurd g17 z)
  · rw [up_cn (by decide), up_ci]
  · rw [up_ci]; exact t.2.2.1
  · rw [up_cn (by decide), up_cn (by decide)]; exact e
theorem m_wrong_b {x : Int} (g : bdM h0 h T n k q c) : Sp mX12_wrong true fr 0 0 [zR 98, zI x] 137 h (rV (fun h' => bdM h0 h' T n k q c)) := by
  refine Sp.mk yX12_wrong_ok rfl rfl ?_
  have g17 := g.2.2.1
  have kr := g.2.2.2.2.1
  exact bX12_wrong_0 (kt := fun z => by omega) (kf := fun z => bX12_wrong_7 (hq := ⟨rfl, rfl, g⟩))
theorem m_isGood_g (g : gM h0 h T n p E a s m) : Sp mX12_isGood true fr 0 0 [zR 98] 137 h (rI (fun x h' => h' = h ∧ x = 1)) := by
  refine Sp.mk yX12_isGood_ok rfl rfl ?_
  have g17 := g.2.2.2.1
  exact bX12_isGood_0 (kt := fun z => absurd g17 z) (kf := fun z => bX12_isGood_7 (kk := bX12_isGood_12 (hq := ⟨_, rfl, rfl, rfl, rfl⟩)))
theorem m_isGood_b (g : bdM h0 h T n k q c) : Sp mX12_isGood true fr 0 0 [zR 98] 137 h (rI (fun x h' => h' = h ∧ x = 0)) := by
  refine Sp.mk yX12_isGood_ok rfl rfl ?_
  have g17 := g.2.2.1
  have kr := g.2.2.2.2.1
  exact bX12_isGood_0 (kf := fun z => by omega) (kt := fun z => bX12_isGood_11 (kk := bX12_isGood_12 (hq := ⟨_, rfl, rfl, rfl, rfl⟩)))
theorem dN_st {h h' : AH} (z : st98 h h') : dN h' = dN h := by
  funext k' i'
  unfold dN
  by_cases r : (0 ≤ k' ∧ k' ≤ 14) ∧ (k' = 0 → 0 ≤ i' ∧ i' ≤ 6)
  · rw [if_pos r, if_pos r]
    have := ciN k' i' r.1
    by_cases e : k' = 0
    · rw [e]; exact z.2 _ (by show i' + 27 < 21 ∨ 26 < i' + 27; have := r.2 e; omega)
    · rw [z.1 (cN k') (by omega)]
  · rw [if_neg r, if_neg r]
theorem m_steps_g (hf : 1 ≤ fr) (ht : txM h0 T n) (g : gM h0 h T n p E a s m) : Sp mX12_steps true fr 0 0 [zR 98] 137 h (rV (fun h' => gM h0 h' T n (bh T n p) E a s m)) := by
  obtain ⟨k, r, t, g17, gE, ga, gs, gm, g18⟩ := g
  have b := bh_rng T r.2
  have b2 := pl_rng T r.2
  refine Sp.weak (m_steps0 hf (k.tx ht) t.1 (by omega) (by omega)) (fun r' n' h' z' => ⟨z'.1, z'.2.1, ?_⟩)
  have z := z'.2.2
  exact ⟨k.st z.1, by omega, z.2, by rw [z.1.2 17 (by decide)]; exact g17, by rw [dN_st z.1]; exact gE, by rw [z.1.2 34 (by decide)]; exact ga, by rw [z.1.2 35 (by decide)]; exact gs, by rw [z.1.2 36 (by decide)]; exact gm, by rw [z.1.2 18 (by decide)]; exact g18⟩
end
