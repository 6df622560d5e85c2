/-! ===== a round: what is heard of it, clashes; the class ===== -/
theorem R_of (v : Int32) : R32 v.toInt := ⟨by have := Int32.le_toInt v; omega, by have := Int32.toInt_lt v; omega⟩
theorem bAnd_R (x y : Int) : R32 (bAnd x y) := R_of _
theorem bOr_R (x y : Int) : R32 (bOr x y) := R_of _
noncomputable def cl (P : Prop) : Bool := @decide P (Classical.propDecidable P)
theorem cl_iff {P : Prop} : cl P = true ↔ P := by unfold cl; exact @decide_eq_true_iff P (Classical.propDecidable P)
theorem cl_pos {P : Prop} (h : P) : cl P = true := cl_iff.mpr h
theorem cl_neg {P : Prop} (h : ¬ P) : cl P = false := by
  cases e : cl P with
  | false => rfl
  | true => exact absurd (cl_iff.mp e) h
/-- the sounds that are loud enough, as bits -/
def audR (Λ : Int → Int) (nS least m : Int) : Prop := (0 ≤ m ∧ m < 256) ∧ ∀ j : Nat, bt m j = decide ((j : Int) < nS ∧ least ≤ Λ j)
theorem bt_ext {x y : Int} (x0 : 0 ≤ x) (y0 : 0 ≤ y) (h : ∀ j, bt x j = bt y j) : x = y := by
  have : x.toNat = y.toNat := Nat.eq_of_testBit_eq h
  omega
theorem audR.one {Λ : Int → Int} {nS least m q : Int} (h1 : audR Λ nS least m) (h2 : audR Λ nS least q) : m = q :=
  bt_ext h1.1.1 h2.1.1 (fun j => by rw [h1.2, h2.2])
def clx (m sw s : Int) : Int := bAnd (bAnd m (bXor sw (-1))) (bXor (1 * 2 ^ s.toNat) (-1))
def clashP (m : Int) (SW : Int → Int) : Prop := ∃ s : Int, 0 ≤ s ∧ bt m s.toNat = true ∧ ¬ clx m (SW s) s = 0
def clashB (Λ : Int → Int) (nS least : Int) (SW : Int → Int) : Prop := ∃ m, audR Λ nS least m ∧ clashP m SW
noncomputable def clashN (Λ : Int → Int → Int) (nS least : Int) (SW : Int → Int) (n : Nat) : Int := cnt (fun t => cl (clashB (Λ t) nS least SW)) n
theorem clashB_iff {Λ : Int → Int} {nS least m : Int} {SW : Int → Int} (h : audR Λ nS least m) : clashB Λ nS least SW ↔ clashP m SW :=
  ⟨fun ⟨q, h1, h2⟩ => by rw [h.one h1]; exact h2, fun z => ⟨m, h, z⟩⟩
theorem audR_cong {Λ M : Int → Int} {nS least m : Int} (e : ∀ s, 0 ≤ s → s < nS → Λ s = M s) (h : audR Λ nS least m) : audR M nS least m := by
  refine ⟨h.1, fun j => ?_⟩
  rw [h.2]
  by_cases c : (j : Int) < nS
  · simp only [e j (by omega) c]
  · rw [decide_eq_false (fun z => c z.1), decide_eq_false (fun z => c z.1)]
theorem clashB_cong {Λ M : Int → Int} {nS least : Int} {SW SV : Int → Int} (e : ∀ s, 0 ≤ s → s < nS → Λ s = M s) (es : ∀ s, 0 ≤ s → s < nS → SW s = SV s) (h : clashB Λ nS least SW) : clashB M nS least SV := by
  obtain ⟨m, h1, s, s0, h2, h3⟩ := h
  refine ⟨m, audR_cong e h1, s, s0, h2, ?_⟩
  have := h1.2 s.toNat
  rw [h2] at this
  have := (of_decide_eq_true this.symm).1
  rw [← es s s0 (by omega)]
  exact h3
theorem clashN_cong {Λ M : Int → Int → Int} {nS least : Int} {SW SV : Int → Int} {n : Nat} (e : ∀ t s, 0 ≤ t → t < n → 0 ≤ s → s < nS → Λ t s = M t s) (es : ∀ s, 0 ≤ s → s < nS → SW s = SV s) : clashN Λ nS least SW n = clashN M nS least SV n := by
  refine cnt_cong (fun t ht => ?_)
  have p := clashB_cong (Λ := Λ t) (M := M t) (least := least) (fun s a b => e t s (by omega) (by omega) a b) es
  have q := clashB_cong (Λ := M t) (M := Λ t) (least := least) (fun s a b => (e t s (by omega) (by omega) a b).symm) (fun s a b => (es s a b).symm)
  by_cases c : clashB (Λ t) nS least SW
  · rw [cl_pos c, cl_pos (p c)]
  · rw [cl_neg c, cl_neg (fun z => c (q z))]
/-- of a row of R ticks sung over and over in n ticks: how loud s is at t -/
def lamR (A : Int → Int → Int) (row : Int → Int) (R n t s : Int) : Int := sg (fun d : Nat => if decide ((t - d) % n < R ∧ row ((t - d) % n) = s) = true then A s d else 0) 121
theorem tab_sum {h : AH} {o s : Int} {P : Int → Bool} (hw : ways h o) : sg (fun i : Nat => if P (h (o + 1) i) = true then h (o + 2) ((i : Int) * 8 + s) else 0) (h o 2).toNat = sg (fun d : Nat => if P d = true then tab h o d s else 0) 121 := by
  rw [sg_cong (f := fun d : Nat => if P d = true then tab h o d s else 0) (g := fun d : Nat => sg (fun i : Nat => if P d = true ∧ (d : Int) = h (o + 1) i then h (o + 2) ((i : Int) * 8 + s) else 0) (h o 2).toNat) (fun d _ => ?_), sg_swap]
  · refine sg_cong (fun i hi => ?_)
    have hr := hw.2.2 i (by omega) (by omega)
    rw [sg_pick (p := fun d : Nat => P d)]
    rw [show (((h (o + 1) i).toNat : Nat) : Int) = h (o + 1) i by omega]
    by_cases c : P (h (o + 1) i) = true
    · rw [if_pos c, if_pos ⟨by omega, c⟩]
    · rw [if_neg c, if_neg (fun z => c z.2)]
  · by_cases c : P d = true
    · rw [if_pos c]
      unfold tab tabN
      refine sg_cong (fun i _ => ?_)
      by_cases e : h (o + 1) i = d
      · rw [if_pos e, if_pos ⟨c, e.symm⟩]
      · rw [if_neg e, if_neg (fun z => e z.2.symm)]
    · rw [if_neg c]
      refine (sg_zero (fun i _ => ?_)).symm
      rw [if_neg (fun z => c z.1)]
def wayR (h : AH) (o l n t s : Int) : Nat → Int := fun i => if decide ((t - h (o + 1) i) % n < h l 5 ∧ h (l + 3) ((t - h (o + 1) i) % n) = s) = true then h (o + 2) ((i : Int) * 8 + s) else 0
def rowOk (h : AH) (l : Int) : Prop := (0 ≤ h l 5 ∧ h l 5 ≤ 16) ∧ ∀ i, 0 ≤ i → i < 16 → -1 ≤ h (l + 3) i ∧ h (l + 3) i < 8
theorem wayR_rng {h : AH} {o l n t s : Int} (hl : ∀ i s, 0 ≤ i → i < h o 2 → 0 ≤ s → s < 8 → 0 ≤ h (o + 2) (i * 8 + s) ∧ h (o + 2) (i * 8 + s) ≤ 1881) (hm : h o 2 ≤ 19) (s0 : 0 ≤ s) (s8 : s < 8) {k : Nat} (hk : (k : Int) ≤ h o 2) : 0 ≤ sg (wayR h o l n t s) k ∧ sg (wayR h o l n t s) k ≤ 35739 := by
  have := sg_rng (f := wayR h o l n t s) (B := 1881) (n := k) (fun i hi => by
    unfold wayR
    split
    · exact hl i s (by omega) (by omega) s0 s8
    · decide)
  omega
theorem c_listen {fr : Nat} {g o l n t : Int} {h : AH} (hf : 1 ≤ fr) (hg : isG g) (ho : isO o) (hl4 : l = 34) (hw : ways h o) (hl : ∀ i s, 0 ≤ i → i < h o 2 → 0 ≤ s → s < 8 → 0 ≤ h (o + 2) (i * 8 + s) ∧ h (o + 2) (i * 8 + s) ≤ 1881) (n0 : 0 < n) (n1 : n ≤ 32) (t0 : 0 ≤ t ∧ t < n) (hr : rowOk h l) (hS : 0 ≤ h g 0 ∧ h g 0 ≤ 8) (hL : 1 ≤ h g 4 ∧ h g 4 ≤ 99) :
    Sp mX0_listen true fr 0 0 [zR 80, zR g, zR o, zR l, zI n, zI t] 137 h (rI (fun m h' => (∀ c, c ≠ 81 → h' c = h c) ∧ audR (fun s => sg (wayR h o l n t s) (h o 2).toNat) (h g 0) (h g 4) m)) := by
  refine Sp.mk yX0_listen_ok rfl rfl ?_
  have cg := hg.cel
  have co := ho.cel
  have cl4 : cel 137 l (8, 8) := by rw [hl4]; exact e34
  have sepo : o ≠ 81 ∧ o + 1 ≠ 81 ∧ o + 2 ≠ 81 := by unfold isO at ho; omega
  have sepg : g ≠ 81 := by unfold isG at hg; omega
  obtain ⟨hm, -, hin⟩ := id hw
  refine bX0_listen_0 (hS := c_fill e81) (kk := ?_)
  rintro h1 rfl
  refine bX0_listen_8 (kk := ?_)
  have second : ∀ (h1 : AH) (x2 x3 x4 x5 x6 x7 x8 : AV), (∀ c, c ≠ 81 → h1 c = h c) → (∀ s, 0 ≤ s → s < 8 → h1 81 s = sg (wayR h o l n t s) (h o 2).toNat) → Wp mX0_listen (kR fr 0 0) (rI (fun m h' => (∀ c, c ≠ 81 → h' c = h c) ∧ audR (fun s => sg (wayR h o l n t s) (h o 2).toNat) (h g 0) (h g 4) m)) (0, 0) 99 [zR 80, zR g, x2, x3, x4, x5, x6, x7, x8] [] 137 h1 := by
    intro h1 x2 x3 x4 x5 x6 x7 x8 hc hsum
    refine bX0_listen_99 (kk := ?_)
    have eg : h1 g = h g := hc g sepg
    suffices H : ∀ (d s : Nat) (m : Int), (s : Int) + d = h g 0 → (0 ≤ m ∧ m < 256) → (∀ j : Nat, bt m j = decide ((j : Int) < s ∧ h g 4 ≤ sg (wayR h o l n t j) (h o 2).toNat)) → Wp mX0_listen (kR fr 0 0) (rI (fun m h' => (∀ c, c ≠ 81 → h' c = h c) ∧ audR (fun s => sg (wayR h o l n t s) (h o 2).toNat) (h g 0) (h g 4) m)) (0, 0) 105 [zR 80, zR g, none, none, none, none, zI m, zI s, none] [] 137 h1 by
      exact H (h g 0).toNat 0 0 (by omega) (by decide) (fun j => by rw [bt_zero, decide_eq_false (by omega)])
    intro d
    induction d with
    | zero =>
      intro s m hs m0 mb
      refine bX0_listen_105 (r2 := by rw [eg]; omega) (kt := fun _ => ?_) (kf := fun q => by rw [eg] at q; omega)
      refine bX0_listen_143 (hq := ⟨_, rfl, rfl, hc, m0, fun j => ?_⟩)
      rw [mb, show (s : Int) = h g 0 by omega]
    | succ d ih =>
      intro s m hs m0 mb
      refine bX0_listen_105 (r2 := by rw [eg]; omega) (kt := fun q => by rw [eg] at q; omega) (kf := fun _ => ?_)
      have v := wayR_rng (l := l) (n := n) (t := t) (s := s) hl hm.2 (by omega) (by omega) (k := (h o 2).toNat) (by omega)
      have e81 := hsum s (by omega) (by omega)
      refine bX0_listen_114 (r2 := by rw [e81]; omega) (r3 := by rw [eg]; omega) (kt := fun q => ?_) (kf := fun q => ?_)
      · rw [e81, eg] at q
        refine bX0_listen_137 (kk := ih (s + 1) m (by omega) m0 (fun j => ?_))
        rw [mb]
        by_cases e : (j : Int) = s
        · rw [decide_eq_false (by omega), decide_eq_false (by rw [e]; omega)]
        · congr 1
          apply propext
          omega
      · rw [e81, eg] at q
        obtain ⟨-, b1, b2, b3⟩ := bit_set (x := m) (s := (s : Int)) (N := 8) m0.1 (by omega) (by omega) (by omega) (by decide)
        refine bX0_listen_128 (kk := bX0_listen_137 (kk := ih (s + 1) _ (by omega) ⟨b1, by omega⟩ (fun j => ?_)))
        rw [b3, mb, Int.toNat_natCast]
        by_cases e : j = s
        · rw [e, decide_eq_false (by omega), decide_eq_true rfl, decide_eq_true ⟨by omega, q⟩]
          rfl
        · rw [decide_eq_false e, Bool.or_false]
          congr 1
          apply propext
          omega
  suffices H : ∀ (d k : Nat) (h1 : AH) (x7 x8 : AV), (k : Int) + d = h o 2 → (∀ c, c ≠ 81 → h1 c = h c) → (∀ s, 0 ≤ s → s < 8 → h1 81 s = sg (wayR h o l n t s) k) → Wp mX0_listen (kR fr 0 0) (rI (fun m h' => (∀ c, c ≠ 81 → h' c = h c) ∧ audR (fun s => sg (wayR h o l n t s) (h o 2).toNat) (h g 0) (h g 4) m)) (0, 0) 11 [zR 80, zR g, zR o, zR l, zI n, zI t, zI k, x7, x8] [] 137 h1 by
    refine H (h o 2).toNat 0 _ _ _ (by omega) (fun c hc => by unfold fil; rw [if_neg hc]) (fun s s0 s8 => ?_)
    unfold fil
    rw [if_pos rfl]
    rw [if_pos (by omega)]
    rfl
  intro d
  induction d with
  | zero =>
    intro k h1 x7 x8 hk hc hsum
    have eo : h1 o = h o := hc o sepo.1
    refine bX0_listen_11 (r2 := by rw [eo]; omega) (kt := fun _ => ?_) (kf := fun q => by rw [eo] at q; omega)
    exact second h1 _ _ _ _ _ _ _ hc (fun s s0 s8 => by rw [hsum s s0 s8, show (h o 2).toNat = k by omega])
  | succ d ih =>
    intro k h1 x7 x8 hk hc hsum
    have eo : h1 o = h o := hc o sepo.1
    have eo1 : h1 (o + 1) = h (o + 1) := hc _ sepo.2.1
    have eo2 : h1 (o + 2) = h (o + 2) := hc _ sepo.2.2
    have el : h1 l = h l := hc _ (by omega)
    have el3 : h1 (l + 3) = h (l + 3) := hc _ (by omega)
    have hik := hin k (by omega) (by omega)
    refine bX0_listen_11 (r2 := by rw [eo]; omega) (kt := fun q => by rw [eo] at q; omega) (kf := fun _ => ?_)
    refine bX0_listen_20 (kt := fun q => by omega) (kf := fun _ => ?_)
    refine bX0_listen_25 (hS := c_floorMod (by rw [eo1]; omega) (by rw [eo1]; omega) n0 n1) (kk := ?_)
    rintro x h2 ⟨e2, hx⟩
    rw [e2]; clear e2 h2
    rw [eo1] at hx
    have x0 : 0 ≤ x := by rw [hx]; exact Int.emod_nonneg _ (by omega)
    have x1 : x < n := by rw [hx]; exact Int.emod_lt_of_pos _ n0
    have R16 := hr.1
    have no : ¬ ((t - h (o + 1) k) % n < h l 5 ∧ 0 ≤ h (l + 3) ((t - h (o + 1) k) % n)) → ∀ (x7 x8 : AV), Wp mX0_listen (kR fr 0 0) (rI (fun m h' => (∀ c, c ≠ 81 → h' c = h c) ∧ audR (fun s => sg (wayR h o l n t s) (h o 2).toNat) (h g 0) (h g 4) m)) (0, 0) 93 [zR 80, zR g, zR o, zR l, zI n, zI t, zI k, x7, x8] [] 137 h1 := by
      intro hn x7 x8
      refine bX0_listen_93 (kk := ih (k + 1) h1 _ _ (by omega) hc (fun s s0 s8 => ?_))
      rw [hsum s s0 s8, sg]
      have : wayR h o l n t s k = 0 := by
        unfold wayR
        rw [if_neg (fun z => by have := of_decide_eq_true z; exact hn ⟨this.1, by omega⟩)]
      omega
    refine bX0_listen_40 (r2 := by rw [el]; omega) (kt := fun q => ?_) (kf := fun q => ?_)
    · rw [el] at q
      refine bX0_listen_61 (kk := bX0_listen_62 (kt := fun _ => ?_) (kf := fun z => absurd rfl z))
      exact no (by rw [← hx]; omega) _ _
    · rw [el] at q
      have hrx := hr.2 x x0 (by omega)
      refine bX0_listen_51 (kk := ?_)
      rw [el3]
      refine bX0_listen_62 (kt := fun z => ?_) (kf := fun z => ?_)
      · exact no (by rw [← hx]; omega) _ _
      · refine bX0_listen_70 (kk := bX0_listen_93 (kk := ih (k + 1) _ _ _ (by omega) (fun c hcc => by rw [up_n hcc, hc c hcc]) (fun s s0 s8 => ?_)))
        rw [sg]
        by_cases e : s = h (l + 3) x
        · rw [e, up_ci, hsum _ (by omega) (by omega), eo2]
          have : wayR h o l n t (h (l + 3) x) k = h (o + 2) ((k : Int) * 8 + h (l + 3) x) := by
            unfold wayR
            rw [← hx, if_pos (decide_eq_true ⟨q, rfl⟩)]
          rw [this]
        · rw [up_cn e, hsum s s0 s8]
          have : wayR h o l n t s k = 0 := by
            unfold wayR
            rw [← hx, if_neg (fun z => e (of_decide_eq_true z).2.symm)]
          omega
theorem c_isClash {fr : Nat} {g m : Int} {h : AH} (hf : 2 ≤ fr) (hg : isG g) (m0 : 0 ≤ m) (m1 : m < 256) : Sp mX0_isClash true fr 0 0 [zR g, zI m] 137 h (rI (fun x h' => h' = h ∧ ((x = 1 ∧ clashP m (fun s => h (g + 3) s)) ∨ (x = 0 ∧ ¬ clashP m (fun s => h (g + 3) s))))) := by
  refine Sp.mk yX0_isClash_ok rfl rfl ?_
  have cg := hg.cel
  refine bX0_isClash_0 (kk := ?_)
  suffices H : ∀ (N : Nat) (b : Int) (x3 : AV), b < N → (0 ≤ b ∧ b ≤ m) → (∀ j, bt b j = true → bt m j = true) → (∀ s, 0 ≤ s → bt m s.toNat = true → bt b s.toNat = false → clx m (h (g + 3) s) s = 0) → Wp mX0_isClash (kR fr 0 0) (rI (fun x h' => h' = h ∧ ((x = 1 ∧ clashP m (fun s => h (g + 3) s)) ∨ (x = 0 ∧ ¬ clashP m (fun s => h (g + 3) s))))) (0, 0) 2 [zR g, zI m, zI b, x3] [] 137 h by
    exact H (m + 1).toNat m _ (by omega) ⟨m0, Int.le_refl _⟩ (fun j z => z) (fun s _ a b => by rw [a] at b; cases b)
  intro N
  induction N with
  | zero => intro b x3 hb hb0; omega
  | succ N ih =>
    intro b x3 hb hb0 sub done
    refine bX0_isClash_2 (kt := fun z => ?_) (kf := fun z => ?_)
    · refine bX0_isClash_41 (hq := ⟨_, rfl, rfl, rfl, Or.inr ⟨rfl, ?_⟩⟩)
      rintro ⟨s, s0, a, c⟩
      exact c (done s s0 a (by rw [z, bt_zero]))
    · refine bX0_isClash_6 (hS := c_lowestBit (by omega) (by omega) (by omega)) (kk := ?_)
      rintro x h1 ⟨e1, hx⟩
      rw [e1]; clear e1 h1
      have x8 : x < (8 : Nat) := hx.lt (show b < 2 ^ 8 by omega)
      have x0 := hx.1
      refine bX0_isClash_10 (r3 := bAnd_R _ _) (kt := fun q => ?_) (kf := fun q => ?_)
      · obtain ⟨d1, d2⟩ := bit_drop (l := b) (by omega) (by omega) hx
        refine bX0_isClash_32 (kk := ih _ _ (by omega) (by omega) (fun j w => ?_) (fun s s0 a c => ?_))
        · rw [d2] at w
          exact sub j (by simp only [Bool.and_eq_true] at w; exact w.1)
        · by_cases e : s = x
          · rw [e]; exact q
          · refine done s s0 a ?_
            rw [d2] at c
            rw [decide_eq_true (by omega), Bool.and_true] at c
            exact c
      · exact bX0_isClash_30 (hq := ⟨_, rfl, rfl, rfl, Or.inl ⟨rfl, x, x0, sub _ hx.2.1, q⟩⟩)
