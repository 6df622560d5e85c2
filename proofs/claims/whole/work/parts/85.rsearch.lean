/-! ===== the class: firstMiss, searchAll ===== -/
def ampY (L T : Int → Int) (y : Int) (s d : Int) : Int := (if d = 0 then L s else 0) + (if 1 ≤ d ∧ bt y (d - 1).toNat = true then T s else 0)
def RivP (M L T : Int → Int) (nS l w m : Int) (tl : Int → Int) (y : Int) : Prop := (m20 y ∧ pop y 31 ≤ 3) ∧ toldAs (lamU M (ampY L T y) 200) nS l w m tl
/-- what the search looks at -/
def gsC (h : AH) (g : Int) (L T : Int → Int) : Prop := isG g ∧ okD (dC h g) ∧ h 85 0 = 0 ∧ (∀ s, 0 ≤ s → s < h g 0 → h 86 s = L s ∧ ∀ w, 1 ≤ w → w ≤ 3 → h 86 (w * 8 + s) = T s) ∧ (∀ i, 0 ≤ i → i < 32 → 0 ≤ h 86 i ∧ h 86 i ≤ 1881) ∧ (∀ u, 0 ≤ u → u ≤ 199 → (0 ≤ h 35 u ∧ h 35 u < 256) ∧ ∀ j : Nat, bt (h 35 u) j = true → (j : Int) < h g 0) ∧ ∀ t, 0 ≤ t → t < 60 → -1 ≤ h 36 t ∧ h 36 t < h g 0
def kpG (h h' : AH) : Prop := (∀ c, c ≠ 51 → c ≠ 52 → c ≠ 53 → c ≠ 54 → c ≠ 82 → c ≠ 83 → c ≠ 84 → c ≠ 85 → h' c = h c) ∧ h' 85 0 = h 85 0 ∧ (∀ i, i ≠ 2 → h' 84 i = h 84 i) ∧ ∀ i, i ≤ 3 → h' 82 i = h 82 i
theorem kpG.rf (h : AH) : kpG h h := ⟨fun _ _ _ _ _ _ _ _ _ => rfl, rfl, fun _ _ => rfl, fun _ _ => rfl⟩
theorem kpG.tr {a b c : AH} (h1 : kpG a b) (h2 : kpG b c) : kpG a c := ⟨fun x p1 p2 p3 p4 p5 p6 p7 p8 => by rw [h2.1 x p1 p2 p3 p4 p5 p6 p7 p8, h1.1 x p1 p2 p3 p4 p5 p6 p7 p8], by rw [h2.2.1, h1.2.1], fun i hi => by rw [h2.2.2.1 i hi, h1.2.2.1 i hi], fun i hi => by rw [h2.2.2.2 i hi, h1.2.2.2 i hi]⟩
theorem gsC.keep {h h' : AH} {g : Int} {L T : Int → Int} (hs : gsC h g L T) (hk : kpG h h') : gsC h' g L T := by
  obtain ⟨hg, hd, h85, h86, r86, h35, h36⟩ := hs
  have e : ∀ c, (c < 51 ∨ (54 < c ∧ c < 82) ∨ 85 < c) → h' c = h c := fun c p => hk.1 c (by omega) (by omega) (by omega) (by omega) (by omega) (by omega) (by omega) (by omega)
  have gs : ∀ k, 0 ≤ k → k ≤ 14 → (g + k < 47 ∨ (54 < g + k ∧ g + k < 82)) := fun k a b => by unfold isG at hg; omega
  have eD : ∀ k, 0 ≤ k → k ≤ 14 → dC h' g k = dC h g k := fun k a b => by have := gs k a b; exact e (g + k) (by omega)
  have g00 := gs 0 (by decide) (by decide)
  have eg : h' g = h g := e g (by omega)
  unfold gsC
  rw [eg, hk.2.1, e 86 (by decide), e 35 (by decide), e 36 (by decide)]
  exact ⟨hg, okD_cong eD hd, h85, h86, r86, h35, h36⟩
theorem tab_laid {h h' : AH} {L T : Int → Int} {g a b c y s d : Int} (t : tri a b c) (ht : isT y a b c) (hs : gsC h g L T) (hl : laid h h' 84 c b a) (s0 : 0 ≤ s) (s1 : s < h g 0) : tab h' 84 d s = ampY L T y s d := by
  obtain ⟨hg, hd, h85, h86, -⟩ := hs
  obtain ⟨l1, l2, l3, l4⟩ := hl
  have e86 : h' (84 + 2) = h 86 := l1 86 (by decide) (by decide)
  have z0 : h' (84 + 1) 0 = 0 := by rw [l3]; exact h85
  obtain ⟨v0, vw⟩ := h86 s s0 s1
  have v1 := vw 1 (by decide) (by decide)
  have v2 := vw 2 (by decide) (by decide)
  have v3 := vw 3 (by decide) (by decide)
  obtain ⟨⟨p1, p2⟩, ⟨p3, p4⟩, p5, p6⟩ := t
  have ib : (1 ≤ d ∧ bt y (d - 1).toNat = true) ↔ (1 ≤ d ∧ (d = a ∨ d = b ∨ d = c)) := by
    constructor
    · rintro ⟨q, r⟩
      have := (ht.2 _).mp r
      exact ⟨q, by omega⟩
    · rintro ⟨q, r⟩
      exact ⟨q, (ht.2 _).mpr (by omega)⟩
  unfold ampY tab tabN
  rw [e86]
  have fin : ∀ (x : Int), (1 ≤ d ∧ (d = a ∨ d = b ∨ d = c) → x = T s) → (¬ (1 ≤ d ∧ (d = a ∨ d = b ∨ d = c)) → x = 0) → x = if 1 ≤ d ∧ bt y (d - 1).toNat = true then T s else 0 := fun x p q => by
    by_cases z : 1 ≤ d ∧ (d = a ∨ d = b ∨ d = c)
    · rw [if_pos (ib.mpr z)]; exact p z
    · rw [if_neg (fun w => z (ib.mp w))]; exact q z
  have first : (if h' (84 + 1) ((0 : Nat) : Int) = d then h 86 (((0 : Nat) : Int) * 8 + s) else 0) = if d = 0 then L s else 0 := by
    have e1 : h' (84 + 1) ((0 : Nat) : Int) = 0 := z0
    have e2 : h 86 (((0 : Nat) : Int) * 8 + s) = L s := by rw [show ((0 : Nat) : Int) * 8 + s = s by omega]; exact v0
    rw [e1, e2]
    by_cases e : d = 0
    · rw [if_pos e, if_pos e.symm]
    · rw [if_neg e, if_neg (fun z => e z.symm)]
  rcases l4 with ⟨q1, q2⟩ | ⟨q1, q2, q3, q4⟩ | ⟨q1, q2, q3, q4, q5⟩ | ⟨q1, q2, q3, q4, q5⟩
  · rw [q2, show (1 : Int).toNat = 1 by rfl, sg, sg, first, ← fin 0 (fun z => by omega) (fun _ => rfl)]
    omega
  · rw [q3, show (2 : Int).toNat = 2 by rfl, sg, sg, sg, first]
    have e1 : h' (84 + 1) ((1 : Nat) : Int) = a := q4
    have e2 : h 86 (((1 : Nat) : Int) * 8 + s) = T s := v1
    rw [e1, e2, ← fin (if a = d then T s else 0) (fun z => if_pos (by omega)) (fun z => if_neg (by omega))]
    omega
  · rw [q3, show (3 : Int).toNat = 3 by rfl, sg, sg, sg, sg, first]
    have e1 : h' (84 + 1) ((1 : Nat) : Int) = b := q4
    have e2 : h 86 (((1 : Nat) : Int) * 8 + s) = T s := v1
    have e3 : h' (84 + 1) ((2 : Nat) : Int) = a := q5
    have e4 : h 86 (((2 : Nat) : Int) * 8 + s) = T s := v2
    rw [e1, e2, e3, e4, ← fin ((if b = d then T s else 0) + if a = d then T s else 0) (fun z => ?_) (fun z => ?_)]
    · omega
    · by_cases w : a = d
      · rw [if_pos w, if_neg (by omega)]; omega
      · rw [if_neg w, if_pos (by omega)]; omega
    · rw [if_neg (by omega), if_neg (by omega)]; rfl
  · rw [q2, show (4 : Int).toNat = 4 by rfl, sg, sg, sg, sg, sg, first]
    have e1 : h' (84 + 1) ((1 : Nat) : Int) = c := q3
    have e2 : h 86 (((1 : Nat) : Int) * 8 + s) = T s := v1
    have e3 : h' (84 + 1) ((2 : Nat) : Int) = b := q4
    have e4 : h 86 (((2 : Nat) : Int) * 8 + s) = T s := v2
    have e5 : h' (84 + 1) ((3 : Nat) : Int) = a := q5
    have e6 : h 86 (((3 : Nat) : Int) * 8 + s) = T s := v3
    rw [e1, e2, e3, e4, e5, e6, ← fin ((if c = d then T s else 0) + (if b = d then T s else 0) + if a = d then T s else 0) (fun z => ?_) (fun z => ?_)]
    · omega
    · by_cases w : a = d
      · rw [if_pos w, if_neg (by omega), if_neg (by omega)]; omega
      · rw [if_neg w]
        by_cases w2 : b = d
        · rw [if_pos w2, if_neg (by omega)]; omega
        · rw [if_neg w2, if_pos (by omega)]; omega
    · rw [if_neg (by omega), if_neg (by omega), if_neg (by omega)]; rfl
theorem ways_laid {h h' : AH} {L T : Int → Int} {g a b c : Int} (t : tri a b c) (hs : gsC h g L T) (hl : laid h h' 84 c b a) : ways h' 84 ∧ h' 84 2 ≤ 4 := by
  obtain ⟨hg, hd, h85, h86, -⟩ := hs
  obtain ⟨l1, l2, l3, l4⟩ := hl
  have z0 : h' (84 + 1) 0 = 0 := by rw [l3]; exact h85
  obtain ⟨⟨p1, p2⟩, ⟨p3, p4⟩, p5, p6⟩ := t
  have ex : ∀ (P : Int → Prop), P 0 → P 1 → P 2 → P 3 → ∀ i, 0 ≤ i → i < 4 → P i := fun P q0 q1 q2 q3 i a b => by
    rcases (show i = 0 ∨ i = 1 ∨ i = 2 ∨ i = 3 by omega) with e | e | e | e <;> rw [e] <;> assumption
  have key : ∀ (i : Int), 0 ≤ i → i < h' 84 2 → i < 4 := fun i _ q => by rcases l4 with z | z | z | z <;> omega
  refine ⟨⟨by rcases l4 with z | z | z | z <;> omega, fun i j q0 q1 q2 => ?_, fun i q0 q1 => ?_⟩, by rcases l4 with z | z | z | z <;> omega⟩
  · have i4 := key i q0 (by omega)
    have j4 := key j (by omega) q2
    rcases (show i = 0 ∨ i = 1 ∨ i = 2 by omega) with e | e | e <;> rcases (show j = 1 ∨ j = 2 ∨ j = 3 by omega) with e' | e' | e' <;> rw [e, e'] <;> rcases l4 with ⟨z1, z2⟩ | ⟨z1, z2, z3, z4⟩ | ⟨z1, z2, z3, z4, z5⟩ | ⟨z1, z2, z3, z4, z5⟩ <;> omega
  · have i4 := key i q0 q1
    rcases (show i = 0 ∨ i = 1 ∨ i = 2 ∨ i = 3 by omega) with e | e | e | e <;> rw [e] <;> rcases l4 with ⟨z1, z2⟩ | ⟨z1, z2, z3, z4⟩ | ⟨z1, z2, z3, z4, z5⟩ | ⟨z1, z2, z3, z4, z5⟩ <;> omega
