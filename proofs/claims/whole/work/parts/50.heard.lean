/-! ===== what is heard, by ticks; the class's heard and loud ===== -/
theorem sg_swap (F : Nat → Nat → Int) (m : Nat) : ∀ n, sg (fun u => sg (fun i => F u i) m) n = sg (fun i => sg (fun u => F u i) n) m
  | 0 => by
    rw [sg]
    exact (sg_zero (fun i _ => rfl)).symm
  | n + 1 => by
    rw [sg, sg_swap F m n, ← sg_add]
    rfl
theorem sg_pick {n : Nat} {x v : Int} {p : Nat → Bool} : sg (fun u : Nat => if p u = true ∧ (u : Int) = x then v else 0) n = if (0 ≤ x ∧ x < n) ∧ p x.toNat = true then v else 0 := by
  by_cases c : (0 ≤ x ∧ x < n) ∧ p x.toNat = true
  · rw [if_pos c]
    rw [sg_cong (g := fun u => if u = x.toNat then v else 0) (fun i _ => ?_), sg_one, if_pos (by omega)]
    by_cases e : i = x.toNat
    · rw [if_pos e, if_pos ⟨by rw [e]; exact c.2, by omega⟩]
    · rw [if_neg e, if_neg (fun z => e (by omega))]
  · rw [if_neg c]
    refine sg_zero (fun i hi => ?_)
    rw [if_neg (fun z => c ⟨by omega, by rw [show x.toNat = i by omega]; exact z.1⟩)]
theorem lamC_tab {h : AH} {o a last t s : Int} (hl : -1 ≤ last) : lamC h o a last t s = sg (fun u : Nat => if bt (h a u) s.toNat = true then tab h o (t - u) s else 0) (last + 1).toNat := by
  rw [sg_cong (g := fun u : Nat => sg (fun i : Nat => if bt (h a u) s.toNat = true ∧ (u : Int) = t - h (o + 1) i then h (o + 2) ((i : Int) * 8 + s) else 0) (h o 2).toNat) (fun u _ => ?_), sg_swap]
  · unfold lamC
    refine sg_cong (fun i _ => ?_)
    rw [sg_pick (p := fun u : Nat => bt (h a u) s.toNat)]
    by_cases c : (0 ≤ t - h (o + 1) i ∧ t - h (o + 1) i ≤ last) ∧ bt (h a (t - h (o + 1) i)) s.toNat = true
    · rw [if_pos c, if_pos ⟨by omega, by rw [show (((t - h (o + 1) i).toNat : Nat) : Int) = t - h (o + 1) i by omega]; exact c.2⟩]
    · rw [if_neg c, if_neg (fun z => c ⟨by omega, by have := z.2; rw [show (((t - h (o + 1) i).toNat : Nat) : Int) = t - h (o + 1) i by omega] at this; exact this⟩)]
  · by_cases c : bt (h a u) s.toNat = true
    · rw [if_pos c]
      unfold tab tabN
      refine sg_cong (fun i _ => ?_)
      by_cases e : h (o + 1) i = t - u
      · rw [if_pos e, if_pos ⟨c, by omega⟩]
      · rw [if_neg e, if_neg (fun z => e (by omega))]
    · rw [if_neg c]
      refine (sg_zero (fun i _ => ?_)).symm
      rw [if_neg (fun z => c z.1)]
/-- one term of a table -/
theorem tab_at {h : AH} {o s : Int} (hw : ways h o) (i : Int) (i0 : 0 ≤ i) (i1 : i < h o 2) : tab h o (h (o + 1) i) s = h (o + 2) (i * 8 + s) := by
  unfold tab tabN
  rw [sg_cong (g := fun j => if j = i.toNat then h (o + 2) (i * 8 + s) else 0) (fun j hj => ?_), sg_one, if_pos (by omega)]
  by_cases e : j = i.toNat
  · rw [if_pos e, show (j : Int) = i by omega, if_pos rfl]
  · rw [if_neg e, if_neg (fun z => e (by have := ris_inj hw.2.1 (by omega) (by omega) i0 i1 z; omega))]
theorem valid_rng {h : AH} {o g ear air fog gone : Int} (hv : valid h o g ear air fog gone) (hd : okD (dC h g)) (f0 : 0 ≤ fog) (f1 : fog ≤ 100) (a0 : 0 ≤ air) (a1 : air ≤ 100) : ∀ i s, 0 ≤ i → i < h o 2 → 0 ≤ s → s < 8 → 0 ≤ h (o + 2) (i * 8 + s) ∧ h (o + 2) (i * 8 + s) ≤ 1881 := by
  intro i s i0 i1 s0 s8
  rw [← tab_at hv.1 i i0 i1, hv.2 _ s s0 s8]
  by_cases c : s < h g 0
  · rw [if_pos c]
    exact amp_rng hd s0 (by rw [dC0]; exact c) f0 f1 a0 a1
  · rw [if_neg c]; decide
/-- what is heard of s at t, of masks M and loudness A -/
def lamU (M : Int → Int) (A : Int → Int → Int) (n : Nat) (t s : Int) : Int := sg (fun u : Nat => if bt (M u) s.toNat = true then A s (t - u) else 0) n
theorem lamU_C {h : AH} {o g a last ear air fog gone t s : Int} (hl : -1 ≤ last) (hv : valid h o g ear air fog gone) (s0 : 0 ≤ s) (s1 : s < h g 0) (s8 : s < 8) : lamC h o a last t s = lamU (fun u => h a u) (fun s d => amp (dC h g) ear air fog gone s d) (last + 1).toNat t s := by
  rw [lamC_tab hl]
  refine sg_cong (fun u _ => ?_)
  rw [hv.2 _ s s0 s8, if_pos s1]
/-- how often a pair is in a list -/
def timesIn (S T : Nat → Int) (n : Nat) (s u : Int) : Int := sg (fun k => if S k = s ∧ T k = u then 1 else 0) n
theorem sg_mul (f : Nat → Int) (v : Int) : ∀ n, sg (fun i => f i * v) n = sg f n * v
  | 0 => by simp [sg]
  | n + 1 => by rw [sg, sg, sg_mul f v n, Int.add_mul]
/-- the list of pairs and the masks say the same -/
theorem lamL_U {M : Int → Int} {A : Int → Int → Int} {S T : Nat → Int} {n N : Nat} {s : Int} (hT : ∀ k, k < n → 0 ≤ T k ∧ T k < N) (hc : ∀ u : Nat, u < N → timesIn S T n s u = if bt (M u) s.toNat = true then 1 else 0) (t : Int) : lamL A S T n t s = lamU M A N t s := by
  unfold lamL lamU
  rw [sg_cong (f := fun u : Nat => if bt (M u) s.toNat = true then A s (t - u) else 0) (g := fun u : Nat => sg (fun k => if S k = s ∧ T k = u then A s (t - u) else 0) n) (fun u hu => ?_), sg_swap]
  · refine sg_cong (fun k hk => ?_)
    have ht := hT k hk
    by_cases c : s = S k
    · rw [if_pos c]
      rw [sg_cong (g := fun u => if u = (T k).toNat then A s (t - T k) else 0) (fun u _ => ?_), sg_one, if_pos (by omega)]
      by_cases e : u = (T k).toNat
      · rw [if_pos e, if_pos ⟨c.symm, by omega⟩, show (u : Int) = T k by omega]
      · rw [if_neg e, if_neg (fun z => e (by omega))]
    · rw [if_neg c]
      refine (sg_zero (fun u _ => ?_)).symm
      rw [if_neg (fun z => c z.1.symm)]
  · have h1 := hc u hu
    have h2 : sg (fun k => if S k = s ∧ T k = (u : Int) then A s (t - u) else 0) n = timesIn S T n s u * A s (t - u) := by
      unfold timesIn
      rw [← sg_mul]
      refine sg_cong (fun k _ => ?_)
      split
      · rw [Int.one_mul]
      · rw [Int.zero_mul]
    rw [h2, h1]
    split
    · rw [Int.one_mul]
    · rw [Int.zero_mul]
/-- the class between calls, as far as hearing goes -/
def earC (h : AH) : Prop := (h 1 4 = 4 ∨ h 1 4 = 19) ∧ okD (dC h (h 1 4)) ∧ retOk h 47 (h 1 4) ∧ sumZ h ∧ (∀ u, 0 ≤ u → u < 200 → (0 ≤ h 35 u ∧ h 35 u < 256) ∧ ∀ j : Nat, bt (h 35 u) j = true → (j : Int) < h (h 1 4) 0)
theorem earC.now {h : AH} (he : earC h) : nowOk h := by
  obtain ⟨hg, hd, -⟩ := he
  have d1 := hd.1; have d2 := hd.2.1; have d3 := hd.2.2.1; have d4 := hd.2.2.2.1
  rw [dC0] at d1 d2 d3 d4
  exact ⟨by rcases hg with z | z <;> rw [z] <;> first | exact e4 | exact e19, d1, d2, d3, d4⟩
/-- what the class hears -/
def lamS (h : AH) (e o : Int) : Int → Int → Int := lamU (fun u => h 35 u) (fun s d => amp (dC h (h 1 4)) e (h (h 1 4 + 9) o) 0 (-1) s d) 200
/-- nothing but the hearing's own cells changed -/
def keepH (h h' : AH) : Prop := ∀ c, (c < 47 ∨ 54 < c) → h' c = h c
theorem keepH.dC {h h' : AH} (hk : keepH h h') {g : Int} (hg : isG g) : ∀ k, 0 ≤ k → k ≤ 14 → dC h' g k = dC h g k := fun k a b => hk (g + k) (by unfold isG at hg; omega)
theorem retOk_same {h h' : AH} {o g : Int} (e0 : h' o = h o) (e1 : h' (o + 1) = h (o + 1)) (e2 : h' (o + 2) = h (o + 2)) (eg : h' g = h g) (eD : ∀ k, 0 ≤ k → k ≤ 14 → dC h' g k = dC h g k) (hr : retOk h o g) : retOk h' o g := by
  unfold retOk valid at *
  simp only [amp_cong eD]
  rw [e0, eg]
  obtain ⟨h1, h2⟩ := hr
  refine ⟨h1.imp id (fun z => ⟨z.1, ways_same (by rw [e0]) e1 z.2.1, fun d s a b => ?_⟩), h2⟩
  rw [tab_same (by rw [e0]) e1 e2]
  exact z.2.2 d s a b
/-- the class is ready to hear -/
theorem ready {h h1 : AH} {e ai : Int} (he : earC h) (ha : 0 ≤ ai ∧ ai ≤ 100) (hc : ∀ c, (c < 47 ∨ 47 + 3 < c) → h1 c = h c) (hv : valid h1 47 (h 1 4) e ai 0 (-1)) (hr : retOk h1 47 (h 1 4)) :
    let h2 := up (up (up (up (up (up h1 51 3 (h 1 4)) 51 4 47) 51 5 35) 51 6 199) 51 7 0) 51 8 0
    att h2 200 ∧ ptr h2 0 ∧ sumZ h2 ∧ keepH h h2 ∧ retOk h2 47 (h 1 4) ∧ (h2 51 3 = h 1 4 ∧ h2 51 5 = 35) ∧ ∀ t s, 0 ≤ s → s < h (h 1 4) 0 → lamH h2 t s = lamU (fun u => h 35 u) (fun s d => amp (dC h (h 1 4)) e ai 0 (-1) s d) 200 t s := by
  obtain ⟨hg, hd, -, hz, hmk⟩ := he
  intro h2
  have iG : isG (h 1 4) := by unfold isG; omega
  have e2 : ∀ c, c ≠ 51 → h2 c = h1 c := fun c hc => by
    show up (up (up (up (up (up h1 51 3 (h 1 4)) 51 4 47) 51 5 35) 51 6 199) 51 7 0) 51 8 0 c = _
    rw [up_n hc, up_n hc, up_n hc, up_n hc, up_n hc, up_n hc]
  have f3 : h2 51 3 = h 1 4 := rfl
  have f4 : h2 51 4 = 47 := rfl
  have f5 : h2 51 5 = 35 := rfl
  have f6 : h2 51 6 = 199 := rfl
  have f7 : h2 51 7 = 0 := rfl
  have f8 : h2 51 8 = 0 := rfl
  have eg : h2 (h 1 4) = h (h 1 4) := by rw [e2 _ (by omega), hc _ (by omega)]
  have e35 : h2 35 = h 35 := by rw [e2 _ (by decide), hc _ (by decide)]
  have eD1 : ∀ k, 0 ≤ k → k ≤ 14 → dC h1 (h 1 4) k = dC h (h 1 4) k := fun k a b => hc (h 1 4 + k) (by omega)
  have eD2 : ∀ k, 0 ≤ k → k ≤ 14 → dC h2 (h 1 4) k = dC h1 (h 1 4) k := fun k a b => e2 (h 1 4 + k) (by omega)
  have d0 := hd.1
  rw [dC0] at d0
  have hw2 : ways h2 47 := ways_same (by rw [e2 47 (by decide)]) (e2 (47 + 1) (by decide)) hv.1
  have hv2 : valid h2 47 (h 1 4) e ai 0 (-1) := ⟨hw2, fun d s a b => by
    rw [tab_same (by rw [e2 47 (by decide)]) (e2 (47 + 1) (by decide)) (e2 (47 + 2) (by decide)), hv.2 d s a b, amp_cong eD2, e2 (h 1 4) (by omega)]⟩
  have hrng := valid_rng hv2 (okD_cong eD2 (okD_cong eD1 hd)) (by decide) (by decide) ha.1 ha.2
  refine ⟨?_, ?_, ?_, ?_, ?_, ⟨rfl, rfl⟩, ?_⟩
  · unfold att
    rw [f3, f4, f5, f6, eg, e35]
    exact ⟨iG, Or.inl rfl, Jvm.Pilot.CEchoGorgeLaw_law_r6771_a85480.e35, by decide, hw2, hrng, d0, fun u a b => hmk u a (by omega)⟩
  · unfold ptr
    rw [f4, f6, f7, f8]
    exact ⟨⟨by decide, by decide, hw2.1.1⟩, fun i a b => by omega, fun i a b => by omega⟩
  · intro s a b
    rw [e2 54 (by decide), hc 54 (by decide)]
    exact hz s a b
  · intro c hcc
    rw [e2 c (by omega), hc c (by omega)]
  · exact retOk_same (e2 47 (by decide)) (e2 (47 + 1) (by decide)) (e2 (47 + 2) (by decide)) (e2 _ (by omega)) eD2 hr
  · intro t s s0 s1
    unfold lamH
    rw [f4, f5, f6, lamU_C (by decide) hv2 s0 (by rw [eg]; exact s1) (by omega)]
    unfold lamU
    rw [e35]
    refine sg_cong (fun u _ => ?_)
    dsimp only
    rw [amp_cong eD2, amp_cong eD1]
theorem c_loud {fr : Nat} {e o t s : Int} {h : AH} (hf : 10 ≤ fr) (re : R32 e) (ro : R32 o) (rt : R32 t) (rs : R32 s) (he : earC h) :
    Sp mX11_loud true fr 8 48 [zR 1, zI e, zI o, zI t, zI s] 137 h (rIx (fun x h' => (((0 ≤ e ∧ e < 3) ∧ (0 ≤ o ∧ o < 24) ∧ 0 ≤ t ∧ t < 400) ∧ 0 ≤ s ∧ s < h (h 1 4) 0) ∧ x = lamS h e o t s ∧ keepH h h' ∧ retOk h' 47 (h 1 4) ∧ sumZ h') (fun E h' => h' = h ∧ E = NSE ∧ ¬ (((0 ≤ e ∧ e < 3) ∧ (0 ≤ o ∧ o < 24) ∧ 0 ≤ t ∧ t < 400) ∧ 0 ≤ s ∧ s < h (h 1 4) 0))) := by
  refine Sp.mk yX11_loud_ok rfl rfl ?_
  have hn := he.now
  obtain ⟨hg, hd, hr, hz, hmk⟩ := id he
  have iG : isG (h 1 4) := by unfold isG; omega
  have cg := iG.cel
  refine bX11_loud_0 (hS := c_needMoment (by omega) re ro rt) (kk := ?_) (kx := ?_)
  rotate_left
  · rintro E h' ⟨rfl, rfl, z⟩
    exact ⟨rfl, Or.inr ⟨_, rfl, rfl, rfl, fun w => z w.1⟩⟩
  rintro h' ⟨rfl, me, mo, mt⟩
  refine bX11_loud_7 (hS := c_needSound (by omega) rs hn) (kk := ?_) (kx := ?_)
  rotate_left
  · rintro E h2 ⟨rfl, rfl, z⟩
    exact ⟨rfl, Or.inr ⟨_, rfl, rfl, rfl, fun w => by omega⟩⟩
  rintro h2 ⟨rfl, s0, s1⟩
  have hai : 0 ≤ h2 (h2 1 4 + 9) o ∧ h2 (h2 1 4 + 9) o ≤ 100 := hd.2.2.2.2.2.2.2.2.2.2.2.2.1 o mo.1 mo.2
  refine bX11_loud_13 (hS := c_build (by omega) (Or.inl rfl) iG hd hr me hai (by decide) (by decide)) (kk := ?_)
  rintro h3 ⟨b1, b2, b3⟩
  have e14 : h3 1 4 = h2 1 4 := by rw [b1 1 (by decide)]
  refine bX11_loud_36 (hS := c_attend) (kk := ?_)
  rintro h4 rfl
  rw [e14]
  obtain ⟨r1, r2, r3, r4, r5, r6, r7⟩ := ready he hai b1 b2 b3
  have d0 := hd.1
  rw [dC0] at d0
  refine bX11_loud_61 (hS := c_loudness r1 (by omega) (by omega)) (kk := ?_)
  rintro x h5 ⟨rfl, hx⟩
  refine bX11_loud_71 (hq := ⟨rfl, Or.inl ⟨_, rfl, ⟨⟨me, mo, mt⟩, s0, s1⟩, ?_, r4, r5, r3⟩⟩)
  rw [hx, r7 t s s0 s1]
  rfl
/-- a measurement leaves what is attended to -/
def same5 (h h' : AH) : Prop := (∀ c, c ≠ 51 → c ≠ 52 → c ≠ 53 → c ≠ 54 → h' c = h c) ∧ ∀ i, i ≠ 7 → i ≠ 8 → h' 51 i = h 51 i
theorem same5.tr {a b c : AH} (h1 : same5 a b) (h2 : same5 b c) : same5 a c := ⟨fun x p q r s => by rw [h2.1 x p q r s, h1.1 x p q r s], fun i p q => by rw [h2.2 i p q, h1.2 i p q]⟩
theorem same5.lam {h h' : AH} {N : Nat} (hs : same5 h h') (ha : att h N) (h5 : h 51 5 < 51 ∨ 54 < h 51 5) : att h' N ∧ lamH h' = lamH h ∧ h' (h 51 3) = h (h 51 3) := by
  obtain ⟨c, f⟩ := hs
  have iG := ha.1
  have iO := ha.2.1
  unfold isG at iG
  unfold isO at iO
  have f3 := f 3 (by decide) (by decide)
  have f4 := f 4 (by decide) (by decide)
  have f5 := f 5 (by decide) (by decide)
  have f6 := f 6 (by decide) (by decide)
  have cg : h' (h 51 3) = h (h 51 3) := c _ (by omega) (by omega) (by omega) (by omega)
  have c0 : h' (h 51 4) = h (h 51 4) := c _ (by omega) (by omega) (by omega) (by omega)
  have c1 : h' (h 51 4 + 1) = h (h 51 4 + 1) := c _ (by omega) (by omega) (by omega) (by omega)
  have c2 : h' (h 51 4 + 2) = h (h 51 4 + 2) := c _ (by omega) (by omega) (by omega) (by omega)
  have ca : h' (h 51 5) = h (h 51 5) := c _ (by omega) (by omega) (by omega) (by omega)
  refine ⟨?_, ?_, cg⟩
  · unfold att at *
    rw [f3, f4, f5, f6, cg, c0, c2, ca]
    exact ⟨ha.1, ha.2.1, ha.2.2.1, ha.2.2.2.1, ways_same (by rw [c0]) c1 ha.2.2.2.2.1, ha.2.2.2.2.2⟩
  · funext t s
    unfold lamH lamC
    rw [f4, f5, f6, c0, c1, c2, ca]
theorem measured.same {h h' : AH} {t : Int} (hm : measured h h' t) : same5 h h' := ⟨hm.1, hm.2.1⟩
theorem c_heard {fr : Nat} {e o t : Int} {h : AH} (hf : 10 ≤ fr) (re : R32 e) (ro : R32 o) (rt : R32 t) (he : earC h) :
    Sp mX11_heard true fr 8 48 [zR 1, zI e, zI o, zI t] 137 h (rIx (fun x h' => ((0 ≤ e ∧ e < 3) ∧ (0 ≤ o ∧ o < 24) ∧ 0 ≤ t ∧ t < 400) ∧ HeardR (lamS h e o) (h (h 1 4) 0) (h (h 1 4) 4) (h (h 1 4) 5) (h (h 1 4) 6) t x ∧ keepH h h' ∧ retOk h' 47 (h 1 4) ∧ sumZ h') (fun E h' => h' = h ∧ E = NSE ∧ ¬ ((0 ≤ e ∧ e < 3) ∧ (0 ≤ o ∧ o < 24) ∧ 0 ≤ t ∧ t < 400))) := by
  refine Sp.mk yX11_heard_ok rfl rfl ?_
  obtain ⟨hg, hd, hr, hz, hmk⟩ := id he
  have iG : isG (h 1 4) := by unfold isG; omega
  have cg := iG.cel
  refine bX11_heard_0 (hS := c_needMoment (by omega) re ro rt) (kk := ?_) (kx := ?_)
  rotate_left
  · rintro E h' ⟨rfl, rfl, z⟩
    exact ⟨rfl, Or.inr ⟨_, rfl, rfl, rfl, z⟩⟩
  rintro h2 ⟨rfl, me, mo, mt⟩
  have hai : 0 ≤ h2 (h2 1 4 + 9) o ∧ h2 (h2 1 4 + 9) o ≤ 100 := hd.2.2.2.2.2.2.2.2.2.2.2.2.1 o mo.1 mo.2
  refine bX11_heard_7 (hS := c_build (by omega) (Or.inl rfl) iG hd hr me hai (by decide) (by decide)) (kk := ?_)
  rintro h3 ⟨b1, b2, b3⟩
  have e14 : h3 1 4 = h2 1 4 := by rw [b1 1 (by decide)]
  refine bX11_heard_30 (hS := c_attend) (kk := ?_)
  rintro h4 rfl
  rw [e14]
  obtain ⟨r1, r2, r3, r4, r5, r6, r7⟩ := ready he hai b1 b2 b3
  revert r1 r2 r3 r4 r5 r6 r7
  generalize up (up (up (up (up (up h3 51 3 (h2 1 4)) 51 4 47) 51 5 35) 51 6 199) 51 7 0) 51 8 0 = h4
  intro r1 r2 r3 r4 r5 r6 r7
  have a5 : h4 51 5 < 51 ∨ 54 < h4 51 5 := by rw [r6.2]; decide
  have d0 := hd.1
  have d4 := hd.2.2.2.2.1
  have d5 := hd.2.2.2.2.2.1
  have d6 := hd.2.2.2.2.2.2.1
  rw [dC0] at d0 d4 d5 d6
  have g14 : h4 1 4 = h2 1 4 := by rw [r4 1 (by decide)]
  have gg : h4 (h2 1 4) = h2 (h2 1 4) := r4 _ (by omega)
  refine bX11_heard_55 (c1 := by rw [g14]; exact cg) (r2 := by rw [g14, gg]; omega) (kk := ?_)
  rw [g14, gg]
  suffices H : ∀ (d : Nat) (u : Int) (h5 : AH) (x1 x2 : AV), 0 ≤ u → u + d = t + 1 → same5 h4 h5 → ptr h5 u → sumZ h5 → (∀ t', 0 ≤ t' → t - h2 (h2 1 4) 5 ≤ t' → t' < u → (0 ≤ h5 52 t' ∧ h5 52 t' ≤ 1000000) ∧ bestOf (lamH h4) (h2 (h2 1 4) 0) t' (h5 52 t') (h5 53 t')) → Wp mX11_heard (kR fr 8 48) (rIx (fun x h' => ((0 ≤ e ∧ e < 3) ∧ (0 ≤ o ∧ o < 24) ∧ 0 ≤ t ∧ t < 400) ∧ HeardR (lamS h2 e o) (h2 (h2 1 4) 0) (h2 (h2 1 4) 4) (h2 (h2 1 4) 5) (h2 (h2 1 4) 6) t x ∧ keepH h2 h' ∧ retOk h' 47 (h2 1 4) ∧ sumZ h') (fun E h' => h' = h2 ∧ E = NSE ∧ ¬ ((0 ≤ e ∧ e < 3) ∧ (0 ≤ o ∧ o < 24) ∧ 0 ≤ t ∧ t < 400))) (8 - 3, 48 - 18) 70 [zR 1, x1, x2, zI t, zI u] [] 137 h5 by
    exact H (t + 1 - max 0 (t - h2 (h2 1 4) 5)).toNat _ h4 _ _ (by omega) (by omega) ⟨fun _ _ _ _ _ => rfl, fun _ _ _ => rfl⟩ (r2.later (by omega)) r3 (fun t' p q r => by omega)
  intro d
  induction d with
  | zero =>
    intro u h5 x1 x2 u0 hu s5 hp5 hz5 hbest
    refine bX11_heard_70 (kt := fun q => ?_) (kf := fun q => by omega)
    obtain ⟨at5, l5, g5⟩ := s5.lam r1 a5
    have k5 : keepH h2 h5 := fun c hc => by rw [s5.1 c (by omega) (by omega) (by omega) (by omega), r4 c hc]
    have e53 : h5 51 3 = h2 1 4 := by rw [s5.2 3 (by decide) (by decide), r6.1]
    have eg5 : h5 (h2 1 4) = h2 (h2 1 4) := k5 _ (by omega)
    refine bX11_heard_91 (hS := c_hears (Λ := lamH h4) (by omega) (by rw [e53]; exact iG) (by omega) (by rw [e53, eg5]; exact d4) (by rw [e53, eg5]; exact d5) (by rw [e53, eg5]; exact d6) (by rw [e53, eg5]; exact fun t' p q r => hbest t' p q (by omega))) (kk := ?_)
    rintro x h6 ⟨rfl, hx⟩
    rw [e53, eg5] at hx
    refine bX11_heard_99 (hq := ⟨rfl, Or.inl ⟨_, rfl, ⟨me, mo, mt⟩, ?_, k5, ?_, hz5⟩⟩)
    · exact hx.cong (fun t' s p q r s0 s1 => r7 t' s s0 s1) (by omega) (by omega)
    · exact retOk_same (s5.1 47 (by decide) (by decide) (by decide) (by decide)) (s5.1 (47 + 1) (by decide) (by decide) (by decide) (by decide)) (s5.1 (47 + 2) (by decide) (by decide) (by decide) (by decide)) (s5.1 _ (by omega) (by omega) (by omega) (by omega)) (fun k p q => s5.1 (h2 1 4 + k) (by omega) (by omega) (by omega) (by omega)) r5
  | succ d ih =>
    intro u h5 x1 x2 u0 hu s5 hp5 hz5 hbest
    refine bX11_heard_70 (kt := fun q => by omega) (kf := fun q => ?_)
    obtain ⟨at5, l5, g5⟩ := s5.lam r1 a5
    have k5 : keepH h2 h5 := fun c hc => by rw [s5.1 c (by omega) (by omega) (by omega) (by omega), r4 c hc]
    have e53 : h5 51 3 = h2 1 4 := by rw [s5.2 3 (by decide) (by decide), r6.1]
    have eg5 : h5 (h2 1 4) = h2 (h2 1 4) := k5 _ (by omega)
    refine bX11_heard_76 (hS := c_measure (by omega) at5 (by rw [s5.2 5 (by decide) (by decide)]; exact a5) (by omega) hp5 hz5) (kk := ?_)
    intro h6 hm
    refine bX11_heard_85 (kk := ih (u + 1) h6 _ _ (by omega) (by omega) (s5.tr hm.same) (hm.2.2.2.2.1.later (by omega)) hm.2.2.2.1 (fun t' p q r => ?_))
    by_cases c : t' = u
    · subst c
      refine ⟨hm.2.2.2.2.2.1, ?_⟩
      have := hm.2.2.2.2.2.2
      rw [l5, e53, eg5] at this
      exact this
    · rw [(hm.2.2.1 t' c).1, (hm.2.2.1 t' c).2]
      exact hbest t' p q (by omega)
