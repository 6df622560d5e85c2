/-! ===== the class: search, find ===== -/
def kpT (h h' : AH) : Prop := ∀ c, c ≠ 51 → c ≠ 52 → c ≠ 53 → c ≠ 54 → c ≠ 89 → c ≠ 90 → h' c = h c
theorem kpT.rf (h : AH) : kpT h h := fun _ _ _ _ _ _ _ => rfl
theorem kpT.tr {a b c : AH} (h1 : kpT a b) (h2 : kpT b c) : kpT a c := fun x p q r s t u => by rw [h2 x p q r s t u, h1 x p q r s t u]
theorem kpT.of5 {h h' : AH} (hk : kp5 h h') : kpT h h' := fun c a b d e _ _ => hk c a b d e
theorem kpT.up90 (h : AH) (i v : Int) : kpT h (up h 90 i v) := fun c _ _ _ _ _ p => up_n p
def trC (h : AH) (g ai : Int) (A : Int → Int → Int) (tl P : Int → Int) (n : Nat) (nS l w m : Int) : Prop := (isG g ∧ h 88 5 = g ∧ h 88 6 = 34 ∧ h 88 7 = 51 ∧ h 88 8 = 47) ∧ (h 88 4 = n ∧ ∀ k : Nat, k < n → h 91 k = P k) ∧ okD (dC h g) ∧ valid h 47 g 0 ai 0 (-1) ∧ (∀ t, 0 ≤ t → t < 60 → h 36 t = tl t) ∧ (h g 0 = nS ∧ h g 4 = l ∧ h g 5 = w ∧ h g 6 = m) ∧ ∀ s d, amp (dC h g) 0 ai 0 (-1) s d = A s d
theorem trC.keep {h h' : AH} {g ai nS l w m : Int} {A : Int → Int → Int} {tl P : Int → Int} {n : Nat} (ht : trC h g ai A tl P n nS l w m) (hk : kpT h h') : trC h' g ai A tl P n nS l w m := by
  obtain ⟨⟨hg, a5, a6, a7, a8⟩, ⟨a4, a91⟩, hd, hv, h36, ⟨g0, g4, g5, g6⟩, hA⟩ := ht
  have e : ∀ c, (c < 51 ∨ 54 < c) → c ≠ 89 → c ≠ 90 → h' c = h c := fun c p q r => hk c (by omega) (by omega) (by omega) (by omega) q r
  have e88 := e 88 (by decide) (by decide) (by decide)
  have e47 := e 47 (by decide) (by decide) (by decide)
  have e48 : h' (47 + 1) = h (47 + 1) := e 48 (by decide) (by decide) (by decide)
  have e49 : h' (47 + 2) = h (47 + 2) := e 49 (by decide) (by decide) (by decide)
  have gs : ∀ k, 0 ≤ k → k ≤ 14 → (g + k < 47 ∨ (54 < g + k ∧ g + k < 88)) := fun k a b => by unfold isG at hg; omega
  have eD : ∀ k, 0 ≤ k → k ≤ 14 → dC h' g k = dC h g k := fun k a b => by have := gs k a b; exact e (g + k) (by omega) (by omega) (by omega)
  have g00 := gs 0 (by decide) (by decide)
  have eg : h' g = h g := e g (by omega) (by omega) (by omega)
  refine ⟨⟨hg, by rw [e88]; exact a5, by rw [e88]; exact a6, by rw [e88]; exact a7, by rw [e88]; exact a8⟩, ⟨by rw [e88]; exact a4, fun k hk => by rw [e 91 (by decide) (by decide) (by decide)]; exact a91 k hk⟩, okD_cong eD hd, ⟨ways_same (by rw [e47]) e48 hv.1, fun d s a b => by rw [tab_same (by rw [e47]) e48 e49, hv.2 d s a b, amp_cong eD, eg]⟩, fun t p q => by rw [e 36 (by decide) (by decide) (by decide)]; exact h36 t p q, by rw [eg]; exact ⟨g0, g4, g5, g6⟩, fun s d => by rw [amp_cong eD]; exact hA s d⟩
theorem lamX_far {A : Int → Int → Int} (hA : ∀ s d, d < 0 → A s d = 0) {tl P : Int → Int} {n i : Nat} {x y t s : Int} (hxy : ∀ j, j < i → bt x j = bt y j) (ht : ∀ k : Nat, i ≤ k → k < n → t < P k) : lamX A tl P n x t s = lamX A tl P n y t s := by
  refine sg_cong (fun k hk => ?_)
  by_cases c : k < i
  · rw [hxy k c]
  · have := ht k (by omega) hk
    rw [hA s (t - P k) (by omega)]
    split <;> split <;> rfl
def nxt (P : Int → Int) (n i : Nat) : Int := if i < n then P i else 60
theorem spotR.inj {tl P : Int → Int} {n : Nat} (h : spotR tl P n) {a b : Nat} (ha : a < n) (hb : b < n) (e : P a = P b) : a = b := by
  rcases Nat.lt_trichotomy a b with c | c | c
  · have := h.lt c hb; omega
  · exact c
  · have := h.lt c ha; omega
theorem spotR.nx {tl P : Int → Int} {n : Nat} (h : spotR tl P n) {i k : Nat} (hi : i ≤ k) (hk : k < n) : nxt P n i ≤ P k := by
  unfold nxt
  rw [if_pos (by omega)]
  by_cases e : i = k
  · rw [e]; exact Int.le_refl _
  · have := h.lt (show i < k by omega) hk; omega
def sayX (h : AH) (tl P : Int → Int) (n i : Nat) (x : Int) : Prop := (∀ k : Nat, k < i → bt x k = true → h 90 (P k) = 1 * 2 ^ (tl (P k)).toNat) ∧ (∀ k : Nat, k < i → bt x k = false → h 90 (P k) = 0) ∧ ∀ u, 0 ≤ u → u < 60 → (∀ k : Nat, k < n → ¬ P k = u) → h 90 u = 0
theorem sayX.at {h : AH} {tl P : Int → Int} {n i : Nat} {x last : Int} (hsp : spotR tl P n) (hx : sayX h tl P n i x) (hla : last < nxt P n i) (hl60 : last < 60) (u : Int) (u0 : 0 ≤ u) (u1 : u ≤ last) : (∃ k : Nat, k < i ∧ k < n ∧ bt x k = true ∧ P k = u ∧ h 90 u = 1 * 2 ^ (tl u).toNat) ∨ ((∀ k : Nat, k < n → bt x k = true → ¬ P k = u) ∧ h 90 u = 0) := by
  by_cases c : ∃ k : Nat, k < n ∧ P k = u
  · obtain ⟨k, hk, e⟩ := c
    have ki : k < i := by
      by_cases c : k < i
      · exact c
      · have := hsp.nx (show i ≤ k by omega) hk; omega
    by_cases b : bt x k = true
    · exact Or.inl ⟨k, ki, hk, b, e, by rw [← e]; exact hx.1 k ki b⟩
    · refine Or.inr ⟨fun j hj bj ej => b ?_, by rw [← e]; exact hx.2.1 k ki (by simpa using b)⟩
      rw [hsp.inj hk hj (e.trans ej.symm)]; exact bj
  · have c' : ∀ k : Nat, k < n → ¬ P k = u := fun k hk e => c ⟨k, hk, e⟩
    exact Or.inr ⟨fun k hk _ => c' k hk, hx.2.2 u u0 (by omega) c'⟩
theorem lamU_X {h : AH} {A : Int → Int → Int} {tl P : Int → Int} {n i : Nat} {x last t s : Int} (hsp : spotR tl P n) (htl : ∀ k : Nat, k < n → 0 ≤ tl (P k) ∧ tl (P k) < 8) (hx : sayX h tl P n i x) (hl1 : -1 ≤ last) (hla : last < nxt P n i) (hl60 : last < 60) (hlk : ∀ k : Nat, k < n → bt x k = true → P k ≤ last) (s0 : 0 ≤ s) : lamU (fun u => h 90 u) A (last + 1).toNat t s = lamX A tl P n x t s := by
  by_cases l0 : last = -1
  · have : lamX A tl P n x t s = 0 := sg_zero (fun k hk => by
      rw [if_neg]
      rintro ⟨b, -⟩
      have := hlk k hk b
      have := (hsp.2 k hk).1
      omega)
    rw [this, l0]; rfl
  have hpt := hx.at hsp hla hl60
  suffices key : ∀ (S T : Nat → Int), (∀ k, bt x k = true → S k = tl (P k) ∧ T k = P k) → (∀ k, ¬ bt x k = true → S k = -1 ∧ T k = 0) → lamU (fun u => h 90 u) A (last + 1).toNat t s = lamX A tl P n x t s from
    key (fun k => if bt x k = true then tl (P k) else -1) (fun k => if bt x k = true then P k else 0) (fun k b => ⟨if_pos b, if_pos b⟩) (fun k b => ⟨if_neg b, if_neg b⟩)
  intro S T hp hn
  rw [← lamL_U (S := S) (T := T) (n := n) (fun k hk => ?_) (fun u hu => ?_) t]
  · unfold lamL lamX
    refine sg_cong (fun k hk => ?_)
    by_cases b : bt x k = true
    · rw [(hp k b).1, (hp k b).2]
      by_cases e : tl (P k) = s
      · rw [if_pos e.symm, if_pos ⟨b, e⟩]
      · rw [if_neg (fun z => e z.symm), if_neg (fun z => e z.2)]
    · rw [(hn k b).1, if_neg (by omega), if_neg (fun z => b z.1)]
  · by_cases b : bt x k = true
    · rw [(hp k b).2]
      have := hlk k hk b
      have := (hsp.2 k hk).1
      omega
    · rw [(hn k b).2]; omega
  · unfold timesIn
    rcases hpt u (by omega) (by omega) with ⟨k, ki, hk, b, e, ev⟩ | ⟨no, ev⟩
    · have tk := htl k hk
      rw [e] at tk
      rw [ev, (one16 tk.1 (by omega)).2]
      by_cases c : tl u = s
      · rw [if_pos (c := decide (s.toNat = (tl u).toNat) = true) (by rw [c]; exact decide_eq_true rfl), sg_cong (g := fun j => if j = k then 1 else 0) (fun j hj => ?_), sg_one, if_pos hk]
        by_cases ej : j = k
        · rw [if_pos (c := j = k) ej, ej, if_pos ⟨by rw [(hp k b).1, e]; exact c, by rw [(hp k b).2]; exact e⟩]
        · rw [if_neg (c := j = k) ej, if_neg]
          rintro ⟨p, q⟩
          by_cases bj : bt x j = true
          · rw [(hp j bj).2] at q; exact ej (hsp.inj hj hk (q.trans e.symm))
          · rw [(hn j bj).1] at p; omega
      · rw [if_neg (c := decide (s.toNat = (tl u).toNat) = true) (fun z => c (by have := of_decide_eq_true z; omega))]
        refine sg_zero (fun j hj => ?_)
        rw [if_neg]
        rintro ⟨p, q⟩
        by_cases bj : bt x j = true
        · rw [(hp j bj).1] at p; rw [(hp j bj).2] at q; rw [q] at p; exact c p
        · rw [(hn j bj).1] at p; omega
    · rw [ev, bt_zero, if_neg (c := false = true) (by decide)]
      refine sg_zero (fun j hj => ?_)
      rw [if_neg]
      rintro ⟨p, q⟩
      by_cases bj : bt x j = true
      · rw [(hp j bj).2] at q; exact no j hj bj q
      · rw [(hn j bj).1] at p; omega
theorem c_told {fr : Nat} {g ai nS l w m from_ to last x : Int} {A : Int → Int → Int} {tl P : Int → Int} {n i : Nat} {h : AH} (hf : 3 ≤ fr) (ht : trC h g ai A tl P n nS l w m) (hai : 0 ≤ ai ∧ ai ≤ 100) (hz : sumZ h) (htl : ∀ t, 0 ≤ t → t < 60 → -1 ≤ tl t ∧ tl t < nS) (hsp : spotR tl P n)
    (hx : sayX h tl P n i x) (hla : -1 ≤ last ∧ last < 60) (hln : last < nxt P n i) (hlk : ∀ k : Nat, k < n → bt x k = true → P k ≤ last) (hft : 0 ≤ from_ ∧ from_ ≤ to ∧ to ≤ 60) (hb : bstL (lamX A tl P n x) nS h from_) :
    Sp mX9_isHeardAsTold true fr 0 0 [zR 88, zI from_, zI to, zI last] 137 h (rI (fun r h' => (kp5 h h' ∧ sumZ h' ∧ ∀ t', 0 ≤ t' → t' < from_ → h' 52 t' = h 52 t' ∧ h' 53 t' = h 53 t') ∧ ((r = 1 ∧ bstL (lamX A tl P n x) nS h' to ∧ ∀ t, from_ ≤ t → t < to → HeardR (lamX A tl P n x) nS l w m t (tl t)) ∨ (r = 0 ∧ ∃ t, from_ ≤ t ∧ t < to ∧ ¬ HeardR (lamX A tl P n x) nS l w m t (tl t))))) := by
  obtain ⟨⟨hg, a5, a6, a7, a8⟩, ⟨a4, a91⟩, hd, hv, h36, ⟨g0, g4, g5, g6⟩, hA⟩ := ht
  have d0 := hd.1
  rw [dC0, g0] at d0
  have tk : ∀ k : Nat, k < n → 0 ≤ tl (P k) ∧ tl (P k) < nS := fun k hk => by
    have p := hsp.2 k hk
    have q := htl (P k) p.1.1 p.1.2
    have r : ¬ tl (((P k).toNat : Nat) : Int) = -1 := of_decide_eq_true p.2.1
    rw [show (((P k).toNat : Nat) : Int) = P k by omega] at r
    omega
  have tk8 : ∀ k : Nat, k < n → 0 ≤ tl (P k) ∧ tl (P k) < 8 := fun k hk => by have := tk k hk; omega
  refine Sp.weak (c_isHeardAsTold (Λ := lamX A tl P n x) (g := g) (ai := ai) hf hg a5 a6 a7 a8 hd hv hai hz (fun t p q => by rw [h36 t p q]; have := htl t p q; omega) hla (fun u p q => ?_) hft (fun t s p q => ?_) (by rw [g0]; exact hb)) ?_
  · rcases hx.at hsp hln hla.2 u p q with ⟨k, ki, hk, b, e, ev⟩ | ⟨no, ev⟩
    · have t1 := tk k hk
      rw [e] at t1
      rw [ev, g0]
      have hp : 2 ^ (tl u).toNat < 2 ^ 8 := Nat.pow_lt_pow_right (by decide) (by omega)
      have h2 := (one16 t1.1 (show tl u < 16 by omega)).2
      refine ⟨?_, fun j hj => ?_⟩
      · rw [Int.one_mul, pow_nat]
        generalize (2 ^ (tl u).toNat : Nat) = Q at hp ⊢
        omega
      · rw [h2] at hj
        have := of_decide_eq_true hj
        omega
    · rw [ev]
      exact ⟨by decide, fun j hj => by rw [bt_zero] at hj; cases hj⟩
  · rw [show (fun s d => amp (dC h g) 0 ai 0 (-1) s d) = A from funext fun s => funext fun d => hA s d]
    exact lamU_X hsp tk8 hx hla.1 hln hla.2 hlk p
  · rintro r n' h' ⟨v, e1, e2, k, c⟩
    refine ⟨v, e1, e2, k, ?_⟩
    rw [g0, g4, g5, g6] at c
    rcases c with ⟨c1, c2, c3⟩ | ⟨c1, t, c2, c3, c4⟩
    · exact Or.inl ⟨c1, c2, fun t p q => by rw [← h36 t (by omega) (by omega)]; exact c3 t p q⟩
    · exact Or.inr ⟨c1, t, c2, c3, by rw [← h36 t (by omega) (by omega)]; exact c4⟩
def extS (n i : Nat) (x y : Int) : Prop := (0 ≤ y ∧ y < 16384) ∧ (∀ j, j < i → bt y j = bt x j) ∧ ∀ j, n ≤ j → bt y j = false
theorem OKx.not {A : Int → Int → Int} (hA : ∀ s d, d < 0 → A s d = 0) {tl P : Int → Int} {n i : Nat} {nS l w m x y t : Int} (hw : 0 ≤ w) (hsp : spotR tl P n) (he : ∀ j, j < i → bt y j = bt x j) (t0 : 0 ≤ t) (t1 : t < nxt P n i) (t6 : t < 60) (hn : ¬ HeardR (lamX A tl P n x) nS l w m t (tl t)) : ¬ OKx A tl P n nS l w m y := by
  intro ho
  refine hn (HeardR.cong (fun t' s a b c d e => ?_) t0 hw (ho t t0 t6))
  exact lamX_far hA he (fun k hk hn => by have := hsp.nx hk hn; omega)
