/-! ===== the class: a line is spelled and listened to ===== -/
theorem linesD_pos {D : DT} {f : Nat} (h : 0 < linesD D f) (hd : okD D) : ∀ k, 0 ≤ k → k < D 13 f → 1 ≤ kindsD D (D 14 ((f : Int) * 3 + k)) := by
  have key : ∀ n : Nat, 0 < pr (fun i => kindsD D (D 14 ((f : Int) * 3 + i))) n → ∀ k : Nat, k < n → 1 ≤ kindsD D (D 14 ((f : Int) * 3 + k)) := fun n => by
    induction n with
    | zero => intro _ k hk; omega
    | succ n ih =>
      intro hp k hk
      rw [pr] at hp
      have b := kindsD_rng hd (D 14 ((f : Int) * 3 + n))
      have hn : 1 ≤ kindsD D (D 14 ((f : Int) * 3 + n)) := by
        by_cases e : kindsD D (D 14 ((f : Int) * 3 + n)) = 0
        · rw [e, Int.mul_zero] at hp; omega
        · omega
      by_cases e : k = n
      · rw [e]; exact hn
      · refine ih ?_ k (by omega)
        exact Int.pos_of_mul_pos_left hp (by omega)
  intro k a b
  have := key (D 13 f).toNat h k.toNat (by omega)
  rw [show ((k.toNat : Nat) : Int) = k by omega] at this
  exact this
theorem c_spellV {fr : Nat} {f : Nat} {i g : Int} {D : DT} {h : AH} (hf : 1 ≤ fr) (hv : vst h g D) (f1 : (f : Int) < D 0 3) (i0 : 0 ≤ i) (i1 : i < 2147483648) (hl : 0 < linesD D f) :
    Sp mX10_spell true fr 0 0 [zR 55, zI f, zI i] 137 h (rV (fun h' => ((∀ c, c ≠ 55 → c ≠ 76 → c ≠ 77 → h' c = h c) ∧ ∀ j, j ≠ 12 → h' 55 j = h 55 j) ∧ vst h' g D ∧ lineW D f i (h' 76) ∧ h' 55 12 = preW D (h' 76) (D 13 f).toNat ∧ (1 ≤ h' 55 12 ∧ h' 55 12 ≤ 12) ∧ ∃ S, isSay D (h' 76) (D 13 f).toNat S ∧ ∀ u, 0 ≤ u → u < h' 55 12 → h' 77 u = 1 * 2 ^ (S u).toNat ∧ 0 ≤ S u ∧ S u < D 0 0)) := by
  have he := hv.eq
  have hok := hv.ok
  obtain ⟨⟨hg, h0⟩, -, hd, ht, r78, r75⟩ := id hv
  obtain ⟨e0, e10, e11, e12, e13, e14⟩ := he.g
  have L := (hd.2.2.2.2.2.2.2.2.2.2.2.2.2.2 f (by omega) f1).1
  have f1' : (f : Int) < h (h 55 0) 3 := by rw [← dV0 h, e0]; exact f1
  refine Sp.weak (c_spell hf (by rw [h0]; exact hg) hok (by rw [vtab_c he]; exact ht.1) (by omega) f1' i0 i1 (by rw [kindsD_c he, e13, e14]; exact linesD_pos hl hd)) ?_
  rintro r n' h' ⟨a1, a2, ⟨k1, k2⟩, k3, k4, S, k5, k6⟩
  rw [lineW_c he] at k3
  rw [preW_c he, e13] at k4
  rw [isSay_c he, e13] at k5
  rw [e0] at k6
  have pr := preW_rng hd k3.in_ (D 13 f).toNat (by omega)
  refine ⟨a1, a2, ⟨k1, k2⟩, ?_, k3, k4, by omega, S, k5, k6⟩
  exact hv.keep (fun c a b => k1 c (by omega) (by omega) (by omega)) (fun j a _ => k2 j a) (by rw [k1 78 (by decide) (by decide) (by decide)]; exact r78) (by rw [k1 75 (by decide) (by decide) (by decide)]; exact r75)
theorem c_listenD {fr : Nat} {f : Nat} {i g ai fog gone : Int} {D : DT} {S : Int → Int} {h : AH} (hf : 3 ≤ fr) (hv : vst h g D) (f1 : (f : Int) < D 0 3) (hb : valid h 47 g 0 ai fog gone) (hfog : 0 ≤ fog ∧ fog ≤ 100) (hai : 0 ≤ ai ∧ ai ≤ 100) (hz : sumZ h) (hW : lineW D f i (h 76)) (h12 : h 55 12 = preW D (h 76) (D 13 f).toNat) (hn : 1 ≤ h 55 12 ∧ h 55 12 ≤ 12) (hS : isSay D (h 76) (D 13 f).toNat S) (hm : ∀ u, 0 ≤ u → u < h 55 12 → h 77 u = 1 * 2 ^ (S u).toNat ∧ 0 ≤ S u ∧ S u < D 0 0) :
    Sp mX10_listen true fr 0 0 [zR 55, zR 51, zR 47] 137 h (rI (fun x h' => (kpV h h' ∧ sumZ h' ∧ vst h' g D) ∧ ((x = 1 ∧ (0 ≤ h' 55 14 ∧ h' 55 14 ≤ 12) ∧ lineR D (fun s d => amp D 0 ai fog gone s d) f i (h' 76) S (h' 78) (h' 55 14)) ∨ (x = 0 ∧ ¬ Ans D (fun s d => amp D 0 ai fog gone s d) f i ∧ ¬ Ech D (fun s d => amp D 0 ai fog gone s d) f i)))) := by
  have he := hv.eq
  have hok := hv.ok
  obtain ⟨⟨hg, h0⟩, -, hd, ht, r78, r75⟩ := id hv
  obtain ⟨-, -, -, -, lm, l4, l5⟩ := id ht
  obtain ⟨e0, e10, e11, e12, e13, e14⟩ := he.g
  have eN : ∀ j, h (h 55 0) j = D 0 j := fun j => by rw [← dV0 h, e0]
  refine Sp.weak (c_listenV hf (by rw [h0]; exact hg) hok (by rw [h0]; exact hb) hfog hai hz hn (fun u a b => by rw [eN]; exact hm u a b) l4 r78) ?_
  rintro r n' h' ⟨v, a1, a2, ⟨k1, z1, r1⟩, k2⟩
  rw [eN, eN, eN, eN, ampA_c he, h12] at k2
  have vh' : vst h' g D := hv.keep (fun c a b => k1.1 c (by omega) (by omega) (by omega) (by omega) (by omega) (by omega)) (fun j _ a => k1.2 j a) r1 (by rw [k1.1 75 (by decide) (by decide) (by decide) (by decide) (by decide) (by decide)]; exact r75)
  refine ⟨v, a1, a2, ⟨k1, z1, vh'⟩, ?_⟩
  rcases k2 with ⟨b1, b2, b3⟩ | ⟨b1, b2⟩
  · have e76 : h' 76 = h 76 := k1.1 76 (by decide) (by decide) (by decide) (by decide) (by decide) (by decide)
    refine Or.inl ⟨b1, by omega, ?_⟩
    rw [e76]
    exact ⟨hW, hS, b3⟩
  · refine Or.inr ⟨b1, too_long hd (by omega) f1 hW hS (lo := h 55 4) (fun g' p a b c => ?_) b2⟩
    have pr := reachL.rng hd c
    have := l5 p.toNat ((lm.2 _).mpr ⟨g', ⟨a, b⟩, by rw [show ((p.toNat : Nat) : Int) = p by omega]; exact c⟩)
    omega
/-! ===== the survey's figures, line by line ===== -/
def LenR (D : DT) (f i n : Int) : Prop := ∃ W, lineW D f i W ∧ n = preW D W (D 13 f).toNat
theorem LenR.one {D : DT} {f i n m : Int} (h1 : LenR D f i n) (h2 : LenR D f i m) : n = m := by
  obtain ⟨W, a, b⟩ := h1
  obtain ⟨V, c, d⟩ := h2
  have e := lineW.one a c
  rw [b, d]
  exact preW_cong (fun k hk => e k (by omega) (by omega))
noncomputable def inC (P : Int → Int → Prop) (f i : Nat) : Int := if cl (P f i) = true then 1 else 0
def preN (D : DT) (f : Nat) : Int := sg (linesD D) f
def psum (D : DT) (F : Nat → Nat → Int) (f i : Nat) : Int := sg (fun g => sg (F g) (linesD D g).toNat) f + sg (F f) i
theorem psum_s (D : DT) (F : Nat → Nat → Int) (f i : Nat) : psum D F f (i + 1) = psum D F f i + F f i := by
  show _ + (sg (F f) i + F f i) = _
  unfold psum
  omega
theorem psum_n {D : DT} (F : Nat → Nat → Int) (f : Nat) : psum D F (f + 1) 0 = psum D F f (linesD D f).toNat := by
  show sg _ f + sg (F f) _ + 0 = _
  unfold psum
  omega
def bef (D : DT) (f i g j : Nat) : Prop := (g < f ∧ (j : Int) < linesD D g) ∨ (g = f ∧ j < i)
theorem bef_s {D : DT} {f i g j : Nat} : bef D f (i + 1) g j ↔ (bef D f i g j ∨ (g = f ∧ j = i)) := by unfold bef; omega
theorem bef_n {D : DT} {f g j : Nat} : bef D (f + 1) 0 g j ↔ bef D f (linesD D f).toNat g j := by
  unfold bef
  constructor
  · rintro (⟨a, b⟩ | ⟨-, b⟩)
    · by_cases e : g = f
      · rw [e] at b; exact Or.inr ⟨e, by omega⟩
      · exact Or.inl ⟨by omega, b⟩
    · omega
  · rintro (⟨a, b⟩ | ⟨a, b⟩)
    · exact Or.inl ⟨by omega, b⟩
    · rw [a]; exact Or.inl ⟨by omega, by omega⟩
theorem bef_lt {D : DT} {f i g j : Nat} (hl : ∀ k : Nat, k ≤ f → 0 ≤ linesD D k) (h : bef D f i g j) : preN D g + j < preN D f + i := by
  unfold bef at h
  rcases h with ⟨a, b⟩ | ⟨a, b⟩
  · have e : preN D (g + 1) = preN D g + linesD D g := rfl
    have m : preN D (g + 1) ≤ preN D f := by
      have key : ∀ n : Nat, g + 1 ≤ n → n ≤ f → preN D (g + 1) ≤ preN D n := fun n => by
        induction n with
        | zero => intro x _; omega
        | succ n ih =>
          intro x y
          by_cases c : g + 1 = n + 1
          · rw [c]; exact Int.le_refl _
          · have := ih (by omega) (by omega)
            have q := hl n (by omega)
            have e2 : preN D (n + 1) = preN D n + linesD D n := rfl
            omega
      exact key f (by omega) (by omega)
    omega
  · rw [a]; omega
def plR (D : DT) (P : Int → Int → Prop) (f i : Nat) (N n : Int) : Prop := (N = -1 ∧ n = -1 ∧ ∀ g j : Nat, bef D f i g j → ¬ P g j) ∨ (∃ g j : Nat, bef D f i g j ∧ P g j ∧ N = preN D g + j ∧ LenR D g j n ∧ ∀ (g' j' : Nat) (n' : Int), bef D f i g' j' → P g' j' → LenR D g' j' n' → n < n' ∨ (n = n' ∧ N ≤ preN D g' + j'))
def biR (D : DT) (P : Int → Int → Prop) (l : Int) (f i : Nat) (h : AH) : Prop := ∀ M, 0 ≤ M → M < 3072 → (btu (h 75 (l * 96 + M / 32)) (M % 32).toNat = true ↔ ∃ g j : Nat, bef D f i g j ∧ P g j ∧ M = preN D g + j)
def svR (D : DT) (P E : Int → Int → Prop) (l : Int) (f i : Nat) (h : AH) : Prop := h 74 (l * 6 + 0) = psum D (inC P) f i ∧ h 74 (l * 6 + 1) = psum D (inC E) f i ∧ plR D P f i (h 74 (l * 6 + 4)) (h 74 (l * 6 + 2)) ∧ biR D P l f i h
theorem svR.next {D : DT} {P E : Int → Int → Prop} {l : Int} {f : Nat} {h : AH} (hs : svR D P E l f (linesD D f).toNat h) : svR D P E l (f + 1) 0 h := by
  obtain ⟨a, b, c, d⟩ := hs
  refine ⟨by rw [psum_n]; exact a, by rw [psum_n]; exact b, ?_, fun M p q => ?_⟩
  · unfold plR at c ⊢
    simp only [bef_n]
    exact c
  · rw [d M p q]
    simp only [bef_n]
theorem svR.no {D : DT} {P E : Int → Int → Prop} {l : Int} {f i : Nat} {h h' : AH} (e74 : h' 74 = h 74) (e75 : h' 75 = h 75) (hp : ¬ P f i) (he : ¬ E f i) (hs : svR D P E l f i h) : svR D P E l f (i + 1) h' := by
  obtain ⟨a, b, c, d⟩ := hs
  have bb : ∀ g j : Nat, bef D f (i + 1) g j → P g j → bef D f i g j := fun g j x y => by
    rcases bef_s.mp x with x | ⟨x1, x2⟩
    · exact x
    · rw [x1, x2] at y; exact absurd y hp
  refine ⟨?_, ?_, ?_, fun M p q => ?_⟩
  · rw [psum_s, e74, a]; unfold inC; rw [if_neg (by rw [cl_neg hp]; decide)]; omega
  · rw [psum_s, e74, b]; unfold inC; rw [if_neg (by rw [cl_neg he]; decide)]; omega
  · rw [e74]
    rcases c with ⟨c1, c2, c3⟩ | ⟨g, j, c1, c2, c3, c4, c5⟩
    · exact Or.inl ⟨c1, c2, fun g j x y => c3 g j (bb g j x y) y⟩
    · exact Or.inr ⟨g, j, bef_s.mpr (Or.inl c1), c2, c3, c4, fun g' j' n' x y z => c5 g' j' n' (bb g' j' x y) y z⟩
  · rw [e75, d M p q]
    constructor
    · rintro ⟨g, j, x, y⟩; exact ⟨g, j, bef_s.mpr (Or.inl x), y⟩
    · rintro ⟨g, j, x, y, z⟩; exact ⟨g, j, bb g j x y, y, z⟩
theorem svR.step {D : DT} {P E : Int → Int → Prop} {l len : Int} {f i : Nat} {h h' : AH} (hl : ∀ k : Nat, k ≤ f → 0 ≤ linesD D k) (hlen : LenR D f i len) (l1 : 1 ≤ len) (hw : wgR h h' l (preN D f + i) len (P f i) (E f i)) (hs : svR D P E l f i h) : svR D P E l f (i + 1) h' := by
  obtain ⟨a, b, c, d⟩ := hs
  obtain ⟨-, w1, w2, w3, -, w5, -, -⟩ := hw
  refine ⟨by rw [psum_s, w1, a]; rfl, by rw [psum_s, w2, b]; rfl, ?_, fun M p q => ?_⟩
  · rcases w3 with ⟨⟨p1, p2⟩, p3, p4⟩ | ⟨p1, p3, p4⟩
    · rw [p3, p4]
      refine Or.inr ⟨f, i, bef_s.mpr (Or.inr ⟨rfl, rfl⟩), p1, rfl, hlen, fun g' j' n' x y z => ?_⟩
      rcases bef_s.mp x with x | ⟨x1, x2⟩
      · rcases c with ⟨c1, c2, c3⟩ | ⟨g, j, c1, c2, c3, c4, c5⟩
        · exact absurd y (c3 g' j' x)
        · have := c5 g' j' n' x y z
          rcases p2 with p2 | p2
          · have q := bef_lt (D := D) (f := g) (i := j + 1) (g := g) (j := 0) (fun k hk => hl k (by unfold bef at c1; omega)) (by unfold bef; exact Or.inr ⟨rfl, by omega⟩)
            have n0 : 0 ≤ preN D g := by
              have key : ∀ n : Nat, n ≤ f → 0 ≤ preN D n := fun n => by
                induction n with
                | zero => intro _; exact Int.le_refl _
                | succ n ih =>
                  intro y
                  have e2 : preN D (n + 1) = preN D n + linesD D n := rfl
                  have := ih (by omega)
                  have := hl n (by omega)
                  omega
              exact key g (by unfold bef at c1; omega)
            omega
          · omega
      · rw [x1, x2] at z ⊢
        have := hlen.one z
        exact Or.inr ⟨this, Int.le_refl _⟩
    · rw [p3, p4]
      rcases c with ⟨c1, c2, c3⟩ | ⟨g, j, c1, c2, c3, c4, c5⟩
      · refine Or.inl ⟨c1, c2, fun g j x y => ?_⟩
        rcases bef_s.mp x with x | ⟨x1, x2⟩
        · exact c3 g j x y
        · rw [x1, x2] at y
          exact p1 ⟨y, Or.inl c1⟩
      · refine Or.inr ⟨g, j, bef_s.mpr (Or.inl c1), c2, c3, c4, fun g' j' n' x y z => ?_⟩
        rcases bef_s.mp x with x | ⟨x1, x2⟩
        · exact c5 g' j' n' x y z
        · rw [x1, x2] at y z ⊢
          have e := hlen.one z
          have lt := bef_lt hl c1
          by_cases w : len < h 74 (l * 6 + 2)
          · exact absurd ⟨y, Or.inr w⟩ p1
          · omega
  · rw [w5 M p q, Bool.or_eq_true, Bool.and_eq_true, d M p q, cl_iff, decide_eq_true_eq]
    constructor
    · rintro (⟨g, j, x, y⟩ | ⟨x, y⟩)
      · exact ⟨g, j, bef_s.mpr (Or.inl x), y⟩
      · exact ⟨f, i, bef_s.mpr (Or.inr ⟨rfl, rfl⟩), x, y⟩
    · rintro ⟨g, j, x, y, z⟩
      rcases bef_s.mp x with x | ⟨x1, x2⟩
      · exact Or.inl ⟨g, j, x, y, z⟩
      · rw [x1, x2] at y z
        exact Or.inr ⟨y, z⟩
