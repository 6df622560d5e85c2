/-! ===== the class: sayers ===== -/
def saySet (A : Int → Int → Int) (tl : Int → Int) (nS l w m : Int) : Int → Prop := fun y => ∃ (P : Int → Int) (n : Nat), spotR tl P n ∧ extS n 0 0 y ∧ OKx A tl P n nS l w m y
theorem OKx.cong {A : Int → Int → Int} {tl P Q : Int → Int} {n : Nat} {nS l w m y : Int} (hw : 0 ≤ w) (e : ∀ k : Nat, k < n → P k = Q k) (h : OKx A tl P n nS l w m y) : OKx A tl Q n nS l w m y := fun t a b => HeardR.cong (fun t' s _ _ _ _ _ => sg_cong (fun k hk => by rw [e k hk])) a hw (h t a b)
theorem saySet_eq {A : Int → Int → Int} {tl P : Int → Int} {n : Nat} {nS l w m y : Int} (hw : 0 ≤ w) (hs : spotR tl P n) : saySet A tl nS l w m y ↔ (extS n 0 0 y ∧ OKx A tl P n nS l w m y) := by
  constructor
  · rintro ⟨Q, k, h1, h2, h3⟩
    obtain ⟨rfl, e⟩ := spotR.one h1 hs
    exact ⟨h2, h3.cong hw e⟩
  · exact fun z => ⟨P, n, hs, z⟩
theorem saySet_cong {A B : Int → Int → Int} {tl tm : Int → Int} {nS l w m y : Int} (hw : 0 ≤ w) (eA : ∀ s d, 0 ≤ s → s < nS → A s d = B s d) (et : ∀ t, 0 ≤ t → t < 60 → tl t = tm t) (h : saySet A tl nS l w m y) : saySet B tm nS l w m y := by
  obtain ⟨P, n, h1, h2, h3⟩ := h
  have eb : ∀ k : Nat, k < 60 → tb tl k = tb tm k := fun k hk => by unfold tb; rw [et k (by omega) (by omega)]
  have ec : ∀ k : Nat, k ≤ 60 → cnt (tb tl) k = cnt (tb tm) k := fun k hk => cnt_cong (fun i hi => eb i (by omega))
  refine ⟨P, n, ⟨by rw [← ec 60 (by omega)]; exact h1.1, fun k hk => ?_⟩, h2, fun t a b => ?_⟩
  · have p := h1.2 k hk
    exact ⟨p.1, by rw [← eb _ (by omega)]; exact p.2.1, by rw [← ec _ (by omega)]; exact p.2.2⟩
  · rw [← et t a b]
    refine HeardR.cong (fun t' s _ _ _ s0 s1 => sg_cong (fun k hk => ?_)) a hw (h3 t a b)
    rw [et (P k) (h1.2 k hk).1.1 (h1.2 k hk).1.2, eA s _ s0 s1]
def truOk (h : AH) (g ai : Int) : Prop := h 88 1 = 0 ∨ (h 88 1 = 1 ∧ ansR (saySet (fun s d => amp (dC h g) 0 ai 0 (-1) s d) (h 36) (h g 0) (h g 4) (h g 5) (h g 6)) (h 89 0) (h 89 1) (h 89 2))
theorem ansR_none : ansR (fun _ => False) 0 (-1) (-1) := ⟨(sg_zero (fun i _ => by rw [if_neg (by show ¬ cl False = true; rw [cl_neg (fun z => z)]; decide)])).symm, Or.inl ⟨rfl, rfl, fun _ _ _ z => z⟩⟩
theorem cnt_s (p : Nat → Bool) (n : Nat) : cnt p (n + 1) = cnt p n + if p n = true then 1 else 0 := rfl
theorem c_findT {fr : Nat} {g ai : Int} {h : AH} (hf : 25 ≤ fr) (hg : isG g) (hd : okD (dC h g)) (hv : valid h 47 g 0 ai 0 (-1)) (hai : 0 ≤ ai ∧ ai ≤ 100) (hz : sumZ h) (htl : ∀ t, 0 ≤ t → t < 60 → -1 ≤ h 36 t ∧ h 36 t < h g 0) (hk : truOk h g ai) :
    Sp mX9_find true fr 0 0 [zR 88, zR g, zR 34, zR 51, zR 47] 137 h (rV (fun h' => (∀ c, (c < 51 ∨ 54 < c) → (c < 88 ∨ 91 < c) → h' c = h c) ∧ sumZ h' ∧ h' 88 1 = 1 ∧ ansR (saySet (fun s d => amp (dC h g) 0 ai 0 (-1) s d) (h 36) (h g 0) (h g 4) (h g 5) (h g 6)) (h' 89 0) (h' 89 1) (h' 89 2))) := by
  refine Sp.mk yX9_find_ok rfl rfl ?_
  have d0 := hd.1
  have d5 := hd.2.2.2.2.2.1
  rw [dC0] at d0 d5
  refine bX9_find_0 (r1 := by rcases hk with e | ⟨e, -⟩ <;> omega) (kt := fun q => ?_) (kf := fun q => ?_)
  rotate_left
  · rcases hk with e | ⟨e, ha⟩
    · exact absurd e q
    · exact bX9_find_7 (hq := ⟨rfl, rfl, fun _ _ _ => rfl, hz, e, ha⟩)
  refine bX9_find_8 (hS := c_fill e90) (kk := ?_)
  rintro h0 rfl
  refine bX9_find_63 (kk := ?_)
  generalize hh0 : up (fil (up (up (up (up (up (up (up (up h 88 1 1) 88 5 g) 88 6 34) 88 7 51) 88 8 47) 89 0 0) 89 1 (-1)) 89 2 (-1)) 90 0 60) 88 4 0 = h0
  have k0 : ∀ c, (c < 88 ∨ 91 < c) → h0 c = h c := fun c hc => by
    rw [← hh0, up_n (by omega)]
    unfold fil
    rw [if_neg (by omega), up_n (by omega), up_n (by omega), up_n (by omega), up_n (by omega), up_n (by omega), up_n (by omega), up_n (by omega), up_n (by omega)]
  have i1 : h0 88 1 = 1 := by rw [← hh0]; rfl
  have i4 : h0 88 4 = 0 := by rw [← hh0]; rfl
  have i5 : h0 88 5 = g := by rw [← hh0]; rfl
  have i6 : h0 88 6 = 34 := by rw [← hh0]; rfl
  have i7 : h0 88 7 = 51 := by rw [← hh0]; rfl
  have i8 : h0 88 8 = 47 := by rw [← hh0]; rfl
  have j0 : h0 89 0 = 0 := by rw [← hh0]; rfl
  have j1 : h0 89 1 = -1 := by rw [← hh0]; rfl
  have j2 : h0 89 2 = -1 := by rw [← hh0]; rfl
  have h90 : ∀ u, 0 ≤ u → u < 60 → h0 90 u = 0 := fun u a b => by
    rw [← hh0, up_n (by decide)]; unfold fil; rw [if_pos rfl, if_pos (by omega)]
  clear hh0
  generalize hR : saySet (fun s d => amp (dC h g) 0 ai 0 (-1) s d) (h 36) (h g 0) (h g 4) (h g 5) (h g 6) = R
  -- behind the loop
  have rest : ∀ (h1 : AH) (n : Nat) (x1 x2 x3 x4 x5 : AV), (∀ c, c ≠ 88 → c ≠ 91 → h1 c = h0 c) → (∀ i, i ≠ 4 → h1 88 i = h0 88 i) → h1 88 4 = n → spotR (h 36) (fun k => h1 91 k) n → n ≤ 14 → Wp mX9_find (kR fr 0 0) (rV (fun h' => (∀ c, (c < 51 ∨ 54 < c) → (c < 88 ∨ 91 < c) → h' c = h c) ∧ sumZ h' ∧ h' 88 1 = 1 ∧ ansR R (h' 89 0) (h' 89 1) (h' 89 2))) (0, 0) 128 [zR 88, x1, x2, x3, x4, x5] [] 137 h1 := by
    intro h1 n x1 x2 x3 x4 x5 k1 f1 f4 hsp n14
    have kk : ∀ c, (c < 88 ∨ 91 < c) → h1 c = h c := fun c hc => by rw [k1 c (by omega) (by omega), k0 c hc]
    have gs : ∀ k, 0 ≤ k → k ≤ 14 → (g + k < 47 ∨ (54 < g + k ∧ g + k < 88)) := fun k a b => by unfold isG at hg; omega
    have g00 := gs 0 (by decide) (by decide)
    have eg : h1 g = h g := kk g (by omega)
    have eD : ∀ k, 0 ≤ k → k ≤ 14 → dC h1 g k = dC h g k := fun k a b => by have := gs k a b; exact kk (g + k) (by omega)
    have tr : trC h1 g ai (fun s d => amp (dC h g) 0 ai 0 (-1) s d) (h 36) (fun k => h1 91 k) n (h g 0) (h g 4) (h g 5) (h g 6) := by
      refine ⟨⟨hg, by rw [f1 5 (by decide)]; exact i5, by rw [f1 6 (by decide)]; exact i6, by rw [f1 7 (by decide)]; exact i7, by rw [f1 8 (by decide)]; exact i8⟩, ⟨f4, fun _ _ => rfl⟩, okD_cong eD hd, ⟨ways_same (by rw [kk 47 (by decide)]) (kk (47 + 1) (by decide)) hv.1, fun d s a b => by rw [tab_same (by rw [kk 47 (by decide)]) (kk (47 + 1) (by decide)) (kk (47 + 2) (by decide)), hv.2 d s a b, amp_cong eD, eg]⟩, fun t _ _ => by rw [kk 36 (by decide)], by rw [eg]; exact ⟨rfl, rfl, rfl, rfl⟩, fun s d => amp_cong eD _ _ _ _ _ _⟩
    have z1 : sumZ h1 := fun s a b => by rw [kk 54 (by decide)]; exact hz s a b
    have nx : 0 ≤ nxt (fun k => h1 91 k) n 0 ∧ nxt (fun k => h1 91 k) n 0 ≤ 60 := by
      unfold nxt
      by_cases c : 0 < n
      · rw [if_pos c]
        have := (hsp.2 0 c).1
        omega
      · rw [if_neg c]; decide
    suffices K : Wp mX9_find (kR fr 0 0) (rV (fun h' => (∀ c, (c < 51 ∨ 54 < c) → (c < 88 ∨ 91 < c) → h' c = h c) ∧ sumZ h' ∧ h' 88 1 = 1 ∧ ansR R (h' 89 0) (h' 89 1) (h' 89 2))) (0, 0) 148 [zR 88, none, none, none, none, none] [zI (nxt (fun k => h1 91 k) n 0), zI 0, zR 88] 137 h1 by
      refine bX9_find_128 (kt := fun q => ?_) (kf := fun q => ?_)
      · have e : nxt (fun k => h1 91 k) n 0 = 60 := if_neg (by omega)
        rw [e] at K
        exact bX9_find_146 (kk := K)
      · have e : nxt (fun k => h1 91 k) n 0 = h1 91 0 := if_pos (show 0 < n by omega)
        rw [e] at K
        exact bX9_find_137 (kk := K)
    have hsx : sayX h1 (h 36) (fun k => h1 91 k) n 0 0 := ⟨fun k hk => by omega, fun k hk => by omega, fun u a b _ => by rw [k1 90 (by decide) (by decide)]; exact h90 u a b⟩
    have hA : ∀ s d, d < 0 → amp (dC h g) 0 ai 0 (-1) s d = 0 := fun s d hd' => amp_neg hd (by decide) hd'
    have iffR : ∀ y, 0 ≤ y → y < 16384 → (R y ↔ (extS n 0 0 y ∧ OKx (fun s d => amp (dC h g) 0 ai 0 (-1) s d) (h 36) (fun k => h1 91 k) n (h g 0) (h g 4) (h g 5) (h g 6) y)) := fun y _ _ => by rw [← hR]; exact saySet_eq d5.1 hsp
    refine bX9_find_148 (hS := c_told (i := 0) (x := 0) (by omega) tr hai z1 htl hsp hsx (by decide) (by omega) (fun k _ b => by rw [bt_zero] at b; cases b) (by omega) (fun t' a b => by omega)) (kk := ?_)
    rintro r h2 ⟨⟨k2, z2, -⟩, c2⟩
    have kk2 : ∀ c, (c < 51 ∨ 54 < c) → h2 c = h1 c := fun c hc => k2 c (by omega) (by omega) (by omega) (by omega)
    have e89 : h2 89 = h0 89 := by rw [kk2 89 (by decide), k1 89 (by decide) (by decide)]
    have ha0 : ansR (fun _ => False) (h2 89 0) (h2 89 1) (h2 89 2) := by rw [e89, j0, j1, j2]; exact ansR_none
    have i12 : h2 88 1 = 1 := by rw [kk2 88 (by decide), f1 1 (by decide)]; exact i1
    refine bX9_find_152 (r1 := by rcases c2 with c | c <;> omega) (kt := fun q => ?_) (kf := fun q => ?_)
    · rcases c2 with ⟨c, -⟩ | ⟨-, t, c3, c4, c5⟩
      · omega
      refine bX9_find_162 (hq := ⟨rfl, rfl, fun c a b => by rw [kk2 c a, kk c b], z2, i12, ha0.cong (fun y a b => ⟨fun z => z.elim, fun z => ?_⟩)⟩)
      rw [iffR y a b] at z
      exact OKx.not hA d5.1 hsp (fun j hj => by omega) c3 c4 (by omega) c5 z.2
    · rcases c2 with ⟨-, c3, c4⟩ | ⟨c, -⟩
      rotate_left
      · omega
      refine bX9_find_155 (hS := c_search (S := fun _ => False) n14 hai htl d0.2 hsp hA d5.1 n (i := 0) (by omega) (by omega) (tr.keep (kpT.of5 k2)) z2 (by decide) (fun j _ => bt_zero j) (by decide) (by omega) (fun k _ b => by rw [bt_zero] at b; cases b) (by unfold sayX; rw [kk2 90 (by decide)]; exact hsx) c3 c4 (fun y z => z.elim) ha0) (kk := ?_)
      rintro h3 ⟨⟨k3, z3, -, -⟩, a3⟩
      refine bX9_find_162 (hq := ⟨rfl, rfl, fun c a b => by rw [k3 c (by omega) (by omega) (by omega) (by omega) (by omega) (by omega), kk2 c a, kk c b], z3, by rw [k3 88 (by decide) (by decide) (by decide) (by decide) (by decide) (by decide)]; exact i12, a3.cong (fun y a b => ?_)⟩)
      rw [iffR y a b]
      exact ⟨fun z => z.elim (fun z => z.elim) (fun z => z), fun z => Or.inr z⟩
  suffices H : ∀ (d t : Nat) (h1 : AH) (x1 x2 x3 x4 : AV), t + d = 60 → (∀ c, c ≠ 88 → c ≠ 91 → h1 c = h0 c) → (∀ i, i ≠ 4 → h1 88 i = h0 88 i) → h1 88 4 = cnt (tb (h 36)) t → cnt (tb (h 36)) t ≤ 14 → (∀ k : Nat, (k : Int) < cnt (tb (h 36)) t → (0 ≤ h1 91 k ∧ h1 91 k < t) ∧ tb (h 36) (h1 91 k).toNat = true ∧ cnt (tb (h 36)) (h1 91 k).toNat = k) → Wp mX9_find (kR fr 0 0) (rV (fun h' => (∀ c, (c < 51 ∨ 54 < c) → (c < 88 ∨ 91 < c) → h' c = h c) ∧ sumZ h' ∧ h' 88 1 = 1 ∧ ansR R (h' 89 0) (h' 89 1) (h' 89 2))) (0, 0) 71 [zR 88, x1, x2, x3, x4, zI t] [] 137 h1 by
    exact H 60 0 h0 _ _ _ _ (by omega) (fun _ _ _ => rfl) (fun _ _ => rfl) i4 (by have : cnt (tb (h 36)) 0 = 0 := rfl; omega) (fun k hk => by have : cnt (tb (h 36)) 0 = 0 := rfl; omega)
  intro d
  induction d with
  | zero =>
    intro t h1 x1 x2 x3 x4 ht k1 f1 f4 c14 hs
    have e60 : t = 60 := by omega
    subst e60
    have cr := cnt_rng (tb (h 36)) 60
    refine bX9_find_71 (kt := fun _ => ?_) (kf := fun q => by omega)
    exact rest h1 (cnt (tb (h 36)) 60).toNat _ _ _ _ _ k1 f1 (by omega) ⟨by omega, fun k hk => hs k (by omega)⟩ (by omega)
  | succ d ih =>
    intro t h1 x1 x2 x3 x4 ht k1 f1 f4 c14 hs
    have cr := cnt_rng (tb (h 36)) t
    have cs := cnt_s (tb (h 36)) t
    have e6 : h1 88 6 = 34 := by rw [f1 6 (by decide)]; exact i6
    have e36 : h1 (h1 88 6 + 2) t = h 36 t := by rw [e6]; show h1 36 t = _; rw [k1 36 (by decide) (by decide), k0 36 (by decide)]
    have ht36 := htl t (by omega) (by omega)
    refine bX9_find_71 (kt := fun q => by omega) (kf := fun _ => ?_)
    refine bX9_find_78 (kt := fun q => ?_) (kf := fun q => ?_)
    · have mo := cnt_mono (p := tb (h 36)) (a := t) (b := 60) (by omega)
      exact rest h1 14 _ _ _ _ _ k1 f1 (by omega) ⟨by omega, fun k hk => ⟨⟨(hs k (by omega)).1.1, by have := (hs k (by omega)).1.2; show h1 91 k < 60; omega⟩, (hs k (by omega)).2⟩⟩ (by decide)
    refine bX9_find_87 (c1 := by rw [e6]; exact e34) (r2 := by rw [e36]; omega) (kt := fun q => ?_) (kf := fun q => ?_)
    · rw [e36] at q
      have no : tb (h 36) t = false := by unfold tb; exact decide_eq_false (fun z => z q)
      rw [no, if_neg (by decide), Int.add_zero] at cs
      refine bX9_find_122 (kk := ?_)
      exact ih (t + 1) h1 _ _ _ _ (by omega) k1 f1 (by rw [cs]; exact f4) (by rw [cs]; exact c14) (fun k hk => by rw [cs] at hk; exact ⟨⟨(hs k hk).1.1, by have := (hs k hk).1.2; omega⟩, (hs k hk).2⟩)
    · rw [e36] at q
      have ye : tb (h 36) t = true := by unfold tb; exact decide_eq_true q
      rw [ye, if_pos rfl] at cs
      refine bX9_find_101 (kk := bX9_find_122 (kk := ?_))
      refine ih (t + 1) _ _ _ _ _ (by omega) (fun c a b => by rw [up_n a, up_n b]; exact k1 c a b) (fun i hi => by rw [up_cn hi, up_n (by decide)]; exact f1 i hi) (by rw [up_ci, cs, f4]) (by rw [cs]; omega) (fun k hk => ?_)
      rw [up_n (by decide)]
      by_cases e : (k : Int) = h1 88 4
      · rw [e, up_ci]
        refine ⟨by omega, ?_, ?_⟩
        · rw [show ((t : Int)).toNat = t by omega]; exact ye
        · rw [show ((t : Int)).toNat = t by omega]; exact f4.symm
      · rw [up_cn e]
        have := hs k (by omega)
        exact ⟨⟨this.1.1, by have := this.1.2; omega⟩, this.2⟩
def sayersR (S : Int → Prop) (k x : Int) : Prop := ∃ m f b, ansR S m f b ∧ ((k = 0 ∧ x = m) ∨ (k = 1 ∧ x = f) ∨ (k = 2 ∧ x = b))
theorem sayersR.one {S T : Int → Prop} {k x y : Int} (e : ∀ y, 0 ≤ y → y < 16384 → (S y ↔ T y)) (h1 : sayersR S k x) (h2 : sayersR T k y) : x = y := by
  obtain ⟨m, f, b, a, c⟩ := h1
  obtain ⟨m', f', b', a', c'⟩ := h2
  obtain ⟨p, q, r⟩ := ansR.one (a.cong e) a'
  omega
theorem c_sayers {fr : Nat} {k : Int} {h : AH} (hf : 30 ≤ fr) (rk : R32 k) (he : earC h) (htl : ∀ t, 0 ≤ t → t < 60 → -1 ≤ h 36 t ∧ h 36 t < h (h 1 4) 0) (hk : truOk h (h 1 4) (h (h 1 4 + 9) 12)) :
    Sp mX11_sayers true fr 8 48 [zR 1, zI k] 137 h (rIx (fun x h' => (0 ≤ k ∧ k ≤ 2) ∧ sayersR (saySet (fun s d => amp (dC h (h 1 4)) 0 (h (h 1 4 + 9) 12) 0 (-1) s d) (h 36) (h (h 1 4) 0) (h (h 1 4) 4) (h (h 1 4) 5) (h (h 1 4) 6)) k x ∧ ((∀ c, (c < 47 ∨ 54 < c) → (c < 88 ∨ 91 < c) → h' c = h c) ∧ retOk h' 47 (h 1 4) ∧ sumZ h' ∧ truOk h' (h 1 4) (h (h 1 4 + 9) 12))) (fun E h' => h' = h ∧ E = NSE ∧ ¬ (0 ≤ k ∧ k ≤ 2))) := by
  refine Sp.mk yX11_sayers_ok rfl rfl ?_
  obtain ⟨rk1, rk2⟩ := id rk
  obtain ⟨hg, hd, hrt, hz, -⟩ := id he
  have iG : isG (h 1 4) := by unfold isG; omega
  have cg := iG.cel
  have d5 := hd.2.2.2.2.2.1
  have hai : 0 ≤ h (h 1 4 + 9) 12 ∧ h (h 1 4 + 9) 12 ≤ 100 := hd.2.2.2.2.2.2.2.2.2.2.2.2.1 12 (by decide) (by decide)
  refine bX11_sayers_0 (kt := fun q => bX11_sayers_9 (hq := ⟨rfl, Or.inr ⟨_, rfl, rfl, rfl, fun w => by omega⟩⟩)) (kf := fun k0 => ?_)
  refine bX11_sayers_4 (kt := fun k1 => ?_) (kf := fun q => bX11_sayers_9 (hq := ⟨rfl, Or.inr ⟨_, rfl, rfl, rfl, fun w => by omega⟩⟩))
  refine bX11_sayers_17 (hS := c_build (by omega) (Or.inl rfl) iG hd hrt (by decide) hai (by decide) (by decide)) (kk := ?_)
  rintro h1 ⟨b1, b2, b3⟩
  have e14 : h1 1 4 = h 1 4 := by rw [b1 1 (by decide)]
  have eg : h1 (h 1 4) = h (h 1 4) := b1 _ (by omega)
  have eD : ∀ k, 0 ≤ k → k ≤ 14 → dC h1 (h 1 4) k = dC h (h 1 4) k := fun k a b => b1 (h 1 4 + k) (by omega)
  have eA : (fun s d => amp (dC h1 (h 1 4)) 0 (h (h 1 4 + 9) 12) 0 (-1) s d) = (fun s d => amp (dC h (h 1 4)) 0 (h (h 1 4 + 9) 12) 0 (-1) s d) := by funext s d; rw [amp_cong eD]
  have e36 : h1 36 = h 36 := b1 36 (by decide)
  refine bX11_sayers_41 (hS := by rw [e14]; exact c_findT (ai := h (h 1 4 + 9) 12) (by omega) iG (okD_cong eD hd) b2 hai (fun j a b => by rw [b1 54 (by decide)]; exact hz j a b) (by rw [eg, e36]; exact htl) (by unfold truOk; rw [b1 88 (by decide), b1 89 (by decide), eg, e36, eA]; exact hk)) (kk := ?_)
  rintro h2 ⟨k2, z2, i2, a2⟩
  rw [eA, eg, e36] at a2
  have kp : ∀ c, (c < 47 ∨ 54 < c) → (c < 88 ∨ 91 < c) → h2 c = h c := fun c a b => by rw [k2 c (by omega) b, b1 c (by omega)]
  have eD2 : ∀ k, 0 ≤ k → k ≤ 14 → dC h2 (h 1 4) k = dC h1 (h 1 4) k := fun k a b => k2 (h 1 4 + k) (by omega) (by omega)
  refine bX11_sayers_64 (hq := ⟨rfl, Or.inl ⟨_, rfl, ⟨k0, k1⟩, ⟨_, _, _, a2, ?_⟩, kp, ?_, z2, Or.inr ⟨i2, ?_⟩⟩⟩)
  · rcases (show k = 0 ∨ k = 1 ∨ k = 2 by omega) with e | e | e
    · exact Or.inl ⟨e, by rw [e]⟩
    · exact Or.inr (Or.inl ⟨e, by rw [e]⟩)
    · exact Or.inr (Or.inr ⟨e, by rw [e]⟩)
  · exact retOk_same (k2 _ (by decide) (by decide)) (k2 _ (by decide) (by decide)) (k2 _ (by decide) (by decide)) (k2 _ (by omega) (by omega)) eD2 b3
  · have eA2 : (fun s d => amp (dC h2 (h 1 4)) 0 (h (h 1 4 + 9) 12) 0 (-1) s d) = (fun s d => amp (dC h (h 1 4)) 0 (h (h 1 4 + 9) 12) 0 (-1) s d) := by rw [← eA]; funext s d; rw [amp_cong eD2]
    rw [eA2, kp 36 (by decide) (by decide), kp (h 1 4) (by omega) (by omega)]
    exact a2
