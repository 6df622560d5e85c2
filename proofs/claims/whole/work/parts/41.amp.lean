/-! ===== how loud a sound is by how much later; the model's says ===== -/
def sg (f : Nat → Int) : Nat → Int
  | 0 => 0
  | n + 1 => sg f n + f n
theorem sg_cong {f g : Nat → Int} : ∀ {n : Nat}, (∀ i, i < n → f i = g i) → sg f n = sg g n
  | 0, _ => rfl
  | n + 1, h => by rw [sg, sg, sg_cong (fun i hi => h i (by omega)), h n (by omega)]
theorem sg_zero {f : Nat → Int} : ∀ {n : Nat}, (∀ i, i < n → f i = 0) → sg f n = 0
  | 0, _ => rfl
  | n + 1, h => by rw [sg, sg_zero (fun i hi => h i (by omega)), h n (by omega)]; rfl
theorem sg_rng {f : Nat → Int} {B : Int} : ∀ {n : Nat}, (∀ i, i < n → 0 ≤ f i ∧ f i ≤ B) → 0 ≤ sg f n ∧ sg f n ≤ n * B
  | 0, _ => by simp [sg]
  | n + 1, h => by
    have h1 := sg_rng (f := f) (B := B) (n := n) (fun i hi => h i (by omega))
    have h2 := h n (by omega)
    have h3 : ((n + 1 : Nat) : Int) * B = n * B + B := by rw [Int.natCast_add, Int.add_mul]; simp
    rw [sg, h3]
    omega
theorem sg_add (f g : Nat → Int) : ∀ n, sg (fun i => f i + g i) n = sg f n + sg g n
  | 0 => rfl
  | n + 1 => by rw [sg, sg, sg, sg_add f g n]; omega
theorem mul_rng {a b A B : Int} (a0 : 0 ≤ a) (a1 : a ≤ A) (b0 : 0 ≤ b) (b1 : b ≤ B) : 0 ≤ a * b ∧ a * b ≤ A * B :=
  ⟨Int.mul_nonneg a0 b0, Int.mul_le_mul a1 b1 b0 (by omega)⟩
/-- of a sound a, n times by the share sh -/
def vol (a sh : Int) : Nat → Int
  | 0 => a
  | n + 1 => vol a sh n * sh / 100
theorem vol_rng {a sh : Int} (a0 : 0 ≤ a) (a1 : a ≤ 99) (s0 : 0 ≤ sh) (s1 : sh ≤ 100) : ∀ n, 0 ≤ vol a sh n ∧ vol a sh n ≤ 99
  | 0 => ⟨a0, a1⟩
  | n + 1 => by
    have h := vol_rng a0 a1 s0 s1 n
    have h2 := mul_rng h.1 h.2 s0 s1
    rw [vol]
    omega
/-- what a text told: 0 numbers, 1 loud, 2 sort, 3 sweet, 4 delay, 5 share, 6 swallows, 7 again, 8 straight, 9 air, 10 kind, 11 length, 12 spelling, 13 form length, 14 form kind -/
abbrev DT : Type := Int → Int → Int
abbrev dC (h : AH) (g : Int) : DT := fun k => h (g + k)
def dM (h : AH) : DT := fun k i => if k = 0 then (if 0 ≤ i ∧ i ≤ 6 then h 98 (i + 1) else 0) else if k = 1 then h 99 (2 * i) else if k = 2 then h 99 (2 * i + 1) else if k = 3 then h 105 i else if k = 4 then h 100 (6 * (i / 3) + i % 3) else if k = 5 then h 100 (6 * i + 3) else if k = 6 then h 100 (6 * i + 4) else if k = 7 then h 100 (6 * i + 5) else if k = 8 then h 103 i else if k = 9 then h 104 i else if k = 10 then h 101 (6 * i) else if k = 11 then h 101 (6 * i + 1) else if k = 12 then h 101 (6 * (i / 4) + 2 + i % 4) else if k = 13 then h 102 (4 * i) else h 102 (4 * (i / 3) + 1 + i % 3)
/-- all in their ranges -/
def okD (D : DT) : Prop := (0 ≤ D 0 0 ∧ D 0 0 ≤ 8) ∧ (0 ≤ D 0 1 ∧ D 0 1 ≤ 6) ∧ (0 ≤ D 0 2 ∧ D 0 2 ≤ 8) ∧ (0 ≤ D 0 3 ∧ D 0 3 ≤ 6) ∧ (1 ≤ D 0 4 ∧ D 0 4 ≤ 99) ∧ (0 ≤ D 0 5 ∧ D 0 5 ≤ 9) ∧ (0 ≤ D 0 6 ∧ D 0 6 ≤ 99) ∧
  (∀ s, 0 ≤ s → s < D 0 0 → (1 ≤ D 1 s ∧ D 1 s ≤ 99) ∧ (0 ≤ D 2 s ∧ D 2 s ≤ 3)) ∧ (∀ s, 0 ≤ s → s < 8 → 0 ≤ D 3 s ∧ D 3 s < 256) ∧
  (∀ w, 0 ≤ w → w < D 0 1 → (∀ e, 0 ≤ e → e < 3 → 1 ≤ D 4 (w * 3 + e) ∧ D 4 (w * 3 + e) ≤ 40) ∧ (0 ≤ D 5 w ∧ D 5 w ≤ 100) ∧ (0 ≤ D 6 w ∧ D 6 w < 16) ∧ (1 ≤ D 7 w ∧ D 7 w ≤ 3)) ∧
  (∀ e, 0 ≤ e → e < 3 → 0 ≤ D 8 e ∧ D 8 e ≤ 40) ∧ D 8 0 = 0 ∧ (∀ o, 0 ≤ o → o < 24 → 0 ≤ D 9 o ∧ D 9 o ≤ 100) ∧
  (∀ w, 0 ≤ w → w < D 0 2 → (0 ≤ D 10 w ∧ D 10 w ≤ 3) ∧ (1 ≤ D 11 w ∧ D 11 w ≤ 4) ∧ ∀ i, 0 ≤ i → i < D 11 w → 0 ≤ D 12 (w * 4 + i) ∧ D 12 (w * 4 + i) < D 0 0) ∧
  (∀ f, 0 ≤ f → f < D 0 3 → (1 ≤ D 13 f ∧ D 13 f ≤ 3) ∧ ∀ i, 0 ≤ i → i < D 13 f → 0 ≤ D 14 (f * 3 + i) ∧ D 14 (f * 3 + i) ≤ 3)
def foggy (D : DT) (fog : Int) (w : Int) : Int := D 5 w * (100 - fog) / 100
/-- one wall's returns, so much later -/
def ampN (D : DT) (ear air fog s d : Int) (w : Nat) : Nat → Int := fun n => if d = ((n : Int) + 1) * D 4 (w * 3 + ear) then vol (D 1 s) (foggy D fog w) (n + 1) * air / 100 else 0
def mute (D : DT) (gone s : Int) (w : Nat) : Bool := decide ((w : Int) = gone) || bt (D 6 w) (D 2 s).toNat
def ampW (D : DT) (ear air fog gone s d : Int) (w : Nat) : Int := if mute D gone s w = true then 0 else sg (ampN D ear air fog s d w) (D 7 w).toNat
/-- how loud s is, so much later than it was said -/
def amp (D : DT) (ear air fog gone s d : Int) : Int := (if d = D 8 ear then D 1 s else 0) + sg (ampW D ear air fog gone s d) (D 0 1).toNat
theorem foggy_rng {D : DT} {fog w : Int} (hd : okD D) (w0 : 0 ≤ w) (w1 : w < D 0 1) (f0 : 0 ≤ fog) (f1 : fog ≤ 100) : (0 ≤ D 5 w * (100 - fog) ∧ D 5 w * (100 - fog) ≤ 10000) ∧ 0 ≤ foggy D fog w ∧ foggy D fog w ≤ 100 := by
  obtain ⟨-, -, -, -, -, -, -, -, -, hw, -⟩ := hd
  obtain ⟨-, ⟨a, b⟩, -⟩ := hw w w0 w1
  have h := mul_rng (a := D 5 w) (b := 100 - fog) a b (by omega) (show 100 - fog ≤ 100 by omega)
  unfold foggy
  omega
theorem ampN_rng {D : DT} {ear air fog s d : Int} {w : Nat} (hd : okD D) (s0 : 0 ≤ s) (s1 : s < D 0 0) (w1 : (w : Int) < D 0 1) (f0 : 0 ≤ fog) (f1 : fog ≤ 100) (a0 : 0 ≤ air) (a1 : air ≤ 100) (n : Nat) : 0 ≤ ampN D ear air fog s d w n ∧ ampN D ear air fog s d w n ≤ 99 := by
  have hs := (hd.2.2.2.2.2.2.2.1 s s0 s1).1
  have hf := foggy_rng hd (by omega) w1 f0 f1
  have hv := vol_rng (a := D 1 s) (sh := foggy D fog w) (by omega) hs.2 hf.2.1 hf.2.2 (n + 1)
  have h := mul_rng hv.1 hv.2 a0 a1
  unfold ampN
  split <;> omega
theorem ampW_rng {D : DT} {ear air fog gone s d : Int} {w : Nat} (hd : okD D) (s0 : 0 ≤ s) (s1 : s < D 0 0) (w1 : (w : Int) < D 0 1) (f0 : 0 ≤ fog) (f1 : fog ≤ 100) (a0 : 0 ≤ air) (a1 : air ≤ 100) : 0 ≤ ampW D ear air fog gone s d w ∧ ampW D ear air fog gone s d w ≤ 297 := by
  have h3 := (hd.2.2.2.2.2.2.2.2.2.1 w (by omega) w1).2.2.2
  have h := sg_rng (f := ampN D ear air fog s d w) (B := 99) (n := (D 7 w).toNat) (fun i _ => ampN_rng hd s0 s1 w1 f0 f1 a0 a1 i)
  unfold ampW
  split <;> omega
theorem amp_rng {D : DT} {ear air fog gone s d : Int} (hd : okD D) (s0 : 0 ≤ s) (s1 : s < D 0 0) (f0 : 0 ≤ fog) (f1 : fog ≤ 100) (a0 : 0 ≤ air) (a1 : air ≤ 100) : 0 ≤ amp D ear air fog gone s d ∧ amp D ear air fog gone s d ≤ 1881 := by
  have h3 := hd.2.1
  have hs := (hd.2.2.2.2.2.2.2.1 s s0 s1).1
  have h := sg_rng (f := ampW D ear air fog gone s d) (B := 297) (n := (D 0 1).toNat) (fun i hi => ampW_rng hd s0 s1 (by omega) f0 f1 a0 a1)
  unfold amp
  split <;> omega
/-! the model -/
theorem m_comes {fr : Nat} {s t x : Int} {h : AH} (hs : 0 ≤ s ∧ s < 8) (rt : R32 t) (hr : 0 ≤ h 98 45 ∧ h 98 45 ≤ 400) : Sp mX12_comes true fr 0 0 [zR 98, zI s, zI t, zI x] 137 h (rV (fun h' => ((0 ≤ t ∧ t < h 98 45) ∧ h' = up h 115 (8 * t + s) (h 115 (8 * t + s) + x)) ∨ (¬ (0 ≤ t ∧ t < h 98 45) ∧ h' = h))) := by
  refine Sp.mk yX12_comes_ok rfl rfl ?_
  obtain ⟨t1, t2⟩ := id rt
  refine bX12_comes_0 (kt := fun q => ?_) (kf := fun q => ?_)
  · exact bX12_comes_27 (hq := ⟨rfl, rfl, Or.inr ⟨by omega, rfl⟩⟩)
  refine bX12_comes_4 (kt := fun q2 => ?_) (kf := fun q2 => ?_)
  · exact bX12_comes_27 (hq := ⟨rfl, rfl, Or.inr ⟨by omega, rfl⟩⟩)
  · exact bX12_comes_12 (kk := bX12_comes_27 (hq := ⟨rfl, rfl, Or.inl ⟨⟨q, q2⟩, rfl⟩⟩))
/-- the row has grown by f for sound s, said at t0 -/
def grown (h h' : AH) (s t0 : Int) (f : Int → Int) : Prop := (∀ c, c ≠ 115 → h' c = h c) ∧ ∀ t s', 0 ≤ t → t < h 98 45 → 0 ≤ s' → s' < 8 → h' 115 (8 * t + s') = h 115 (8 * t + s') + if s' = s then f (t - t0) else 0
theorem grown_0 (h : AH) (s t0 : Int) : grown h h s t0 (fun _ => 0) := ⟨fun _ _ => rfl, fun t s' _ _ _ _ => by dsimp only; split <;> omega⟩
theorem grown_s {h h1 h2 : AH} {s t0 δ x : Int} {f : Int → Int} (hs : 0 ≤ s ∧ s < 8) (hg : grown h h1 s t0 f) (h12 : ((0 ≤ t0 + δ ∧ t0 + δ < h1 98 45) ∧ h2 = up h1 115 (8 * (t0 + δ) + s) (h1 115 (8 * (t0 + δ) + s) + x)) ∨ (¬ (0 ≤ t0 + δ ∧ t0 + δ < h1 98 45) ∧ h2 = h1)) : grown h h2 s t0 (fun d => f d + if d = δ then x else 0) := by
  obtain ⟨g1, g2⟩ := hg
  have e45 : h1 98 45 = h 98 45 := by rw [g1 98 (by decide)]
  rw [e45] at h12
  rcases h12 with ⟨hr, rfl⟩ | ⟨hr, rfl⟩
  · refine ⟨fun c hc => by rw [up_n hc]; exact g1 c hc, fun t s' a b c d => ?_⟩
    by_cases e : s' = s ∧ t = t0 + δ
    · obtain ⟨rfl, rfl⟩ := e
      rw [up_ci, g2 _ _ a b c d, if_pos rfl, if_pos rfl]
      dsimp only
      rw [if_pos (by omega)]
      omega
    · rw [up_cn (by omega), g2 t s' a b c d]
      by_cases e2 : s' = s
      · rw [if_pos e2, if_pos e2]
        dsimp only
        rw [if_neg (by omega)]
        omega
      · rw [if_neg e2, if_neg e2]
  · refine ⟨g1, fun t s' a b c d => ?_⟩
    rw [g2 t s' a b c d]
    by_cases e2 : s' = s
    · rw [if_pos e2, if_pos e2]
      dsimp only
      rw [if_neg (by omega)]
      omega
    · rw [if_neg e2, if_neg e2]
theorem grown_eq {h h1 : AH} {s t0 : Int} {f g : Int → Int} (hg : grown h h1 s t0 f) (e : ∀ d, f d = g d) : grown h h1 s t0 g := by
  rw [show g = f from funext fun d => (e d).symm]
  exact hg
theorem m_says {fr : Nat} {s t0 : Int} {h : AH} (hf : 1 ≤ fr) (hd : okD (dM h)) (hs : 0 ≤ s ∧ s < h 98 1) (ht : 0 ≤ t0 ∧ t0 < 400) (hr : 0 ≤ h 98 45 ∧ h 98 45 ≤ 400) (he : 0 ≤ h 98 48 ∧ h 98 48 < 3) (ho : 0 ≤ h 98 49 ∧ h 98 49 < 24) (hfog : 0 ≤ h 98 46 ∧ h 98 46 ≤ 100) (hgo : -1 ≤ h 98 47 ∧ h 98 47 < 6) :
    Sp mX12_says true fr 0 0 [zR 98, zI s, zI t0] 137 h (rV (fun h' => grown h h' s t0 (amp (dM h) (h 98 48) (h 104 (h 98 49)) (h 98 46) (h 98 47) s))) := by
  refine Sp.mk yX12_says_ok rfl rfl ?_
  have hS8 : h 98 1 ≤ 8 := hd.1.2
  have hW6 : 0 ≤ h 98 2 ∧ h 98 2 ≤ 6 := hd.2.1
  have hsr : (1 ≤ h 99 (2 * s) ∧ h 99 (2 * s) ≤ 99) ∧ (0 ≤ h 99 (2 * s + 1) ∧ h 99 (2 * s + 1) ≤ 3) := hd.2.2.2.2.2.2.2.1 s hs.1 hs.2
  have hst : 0 ≤ h 103 (h 98 48) ∧ h 103 (h 98 48) ≤ 40 := hd.2.2.2.2.2.2.2.2.2.2.1 _ he.1 he.2
  have hai : 0 ≤ h 104 (h 98 49) ∧ h 104 (h 98 49) ≤ 100 := hd.2.2.2.2.2.2.2.2.2.2.2.2.1 _ ho.1 ho.2
  refine bX12_says_0 (hS := m_comes ⟨hs.1, by omega⟩ ⟨by omega, by omega⟩ hr) (kk := ?_)
  intro h1 h01
  have G0 := grown_s (x := h 99 (2 * s)) (δ := h 103 (h 98 48)) ⟨hs.1, by omega⟩ (grown_0 h s t0) h01
  refine bX12_says_24 (kk := ?_)
  have loop : ∀ (d w : Nat) (h1 : AH) {b1 b2 : Nat} {x4 x5 x6 : AV}, (w : Int) + d = h 98 2 → grown h h1 s t0 (fun δ => (if δ = h 103 (h 98 48) then h 99 (2 * s) else 0) + sg (ampW (dM h) (h 98 48) (h 104 (h 98 49)) (h 98 46) (h 98 47) s δ) w) →
      Wp mX12_says (kR fr 0 0) (rV (fun h' => grown h h' s t0 (amp (dM h) (h 98 48) (h 104 (h 98 49)) (h 98 46) (h 98 47) s))) (b1, b2) 26 [zR 98, zI s, zI t0, zI w, x4, x5, x6] [] 137 h1 := by
    intro d
    induction d with
    | zero =>
      intro w h1 b1 b2 x4 x5 x6 hw G
      have e2 : h1 98 = h 98 := G.1 98 (by decide)
      refine bX12_says_26 (r2 := by rw [e2]; omega) (kt := fun q => ?_) (kf := fun q => by rw [e2] at q; omega)
      refine bX12_says_187 (hq := ⟨rfl, rfl, grown_eq G (fun δ => ?_)⟩)
      have ew : (dM h 0 1).toNat = w := by show (h 98 2).toNat = w; omega
      unfold amp
      rw [ew]
      rfl
    | succ d ih =>
      intro w h1 b1 b2 x4 x5 x6 hw G
      have e98 : h1 98 = h 98 := G.1 98 (by decide)
      have e99 : h1 99 = h 99 := G.1 99 (by decide)
      have e100 : h1 100 = h 100 := G.1 100 (by decide)
      have e104 : h1 104 = h 104 := G.1 104 (by decide)
      have w6 : (w : Int) < h 98 2 := by omega
      obtain ⟨hdl, hsh, hsw, hag⟩ := hd.2.2.2.2.2.2.2.2.2.1 (w : Int) (by omega) w6
      have hsh' : 0 ≤ h 100 (6 * w + 3) ∧ h 100 (6 * w + 3) ≤ 100 := hsh
      have hsw' : 0 ≤ h 100 (6 * w + 4) ∧ h 100 (6 * w + 4) < 16 := hsw
      have hag' : 1 ≤ h 100 (6 * w + 5) ∧ h 100 (6 * w + 5) ≤ 3 := hag
      have edl : dM h 4 ((w : Int) * 3 + h 98 48) = h 100 (6 * w + h 98 48) := by
        show h 100 (6 * (((w : Int) * 3 + h 98 48) / 3) + ((w : Int) * 3 + h 98 48) % 3) = _
        congr 1
        omega
      have hdl' := hdl (h 98 48) he.1 he.2
      rw [edl] at hdl'
      have next : ∀ (h2 : AH) {b1 b2 : Nat} {x4 x5 x6 : AV}, grown h h2 s t0 (fun δ => (if δ = h 103 (h 98 48) then h 99 (2 * s) else 0) + sg (ampW (dM h) (h 98 48) (h 104 (h 98 49)) (h 98 46) (h 98 47) s δ) (w + 1)) → Wp mX12_says (kR fr 0 0) (rV (fun h' => grown h h' s t0 (amp (dM h) (h 98 48) (h 104 (h 98 49)) (h 98 46) (h 98 47) s))) (b1, b2) 181 [zR 98, zI s, zI t0, zI w, x4, x5, x6] [] 137 h2 :=
        fun h2 b1 b2 x4 x5 x6 G2 => bX12_says_181 (kk := ih (w + 1) h2 (by omega) G2)
      have skip : mute (dM h) (h 98 47) s w = true → grown h h1 s t0 (fun δ => (if δ = h 103 (h 98 48) then h 99 (2 * s) else 0) + sg (ampW (dM h) (h 98 48) (h 104 (h 98 49)) (h 98 46) (h 98 47) s δ) (w + 1)) := by
        intro hm
        refine grown_eq G (fun δ => ?_)
        rw [sg]
        have : ampW (dM h) (h 98 48) (h 104 (h 98 49)) (h 98 46) (h 98 47) s δ w = 0 := by unfold ampW; rw [if_pos hm]
        omega
      refine bX12_says_26 (r2 := by rw [e98]; omega) (kt := fun q => by rw [e98] at q; omega) (kf := fun _ => ?_)
      refine bX12_says_34 (r2 := by rw [e98]; omega) (kt := fun q => ?_) (kf := fun q => ?_)
      · rw [e98] at q
        exact next h1 (skip (by unfold mute; rw [decide_eq_true q]; rfl))
      rw [e98] at q
      have el : bAnd (h 100 (6 * w + 4) / 2 ^ (h 99 (2 * s + 1)).toNat) 1 = if bt (h 100 (6 * w + 4)) (h 99 (2 * s + 1)).toNat = true then 1 else 0 := bit_look hsw'.1 hsr.2.1
      refine bX12_says_42 (r3 := by rw [e99]; omega) (r4 := by rw [e100]; omega) (r5 := by rw [e100, e99, el]; split <;> omega) (kt := fun q2 => ?_) (kf := fun q2 => ?_)
      rotate_left
      · rw [e100, e99, el] at q2
        have hbt : bt (h 100 (6 * w + 4)) (h 99 (2 * s + 1)).toNat = true := by
          cases hb : bt (h 100 (6 * w + 4)) (h 99 (2 * s + 1)).toNat with
          | true => rfl
          | false => rw [hb] at q2; simp at q2
        have hm : mute (dM h) (h 98 47) s w = true := by
          unfold mute
          rw [show bt (dM h 6 w) (dM h 2 s).toNat = true from hbt, Bool.or_true]
        exact bX12_says_70 (kk := next h1 (skip hm))
      rw [e100, e99, el] at q2
      have hbt : bt (h 100 (6 * w + 4)) (h 99 (2 * s + 1)).toNat = false := by
        cases hb : bt (h 100 (6 * w + 4)) (h 99 (2 * s + 1)).toNat with
        | false => rfl
        | true => rw [hb] at q2; simp at q2
      have hm : mute (dM h) (h 98 47) s w = false := by
        unfold mute
        rw [show bt (dM h 6 w) (dM h 2 s).toNat = false from hbt, decide_eq_false q]
        rfl
      have hfo := foggy_rng (fog := h 98 46) hd (w := (w : Int)) (by omega) w6 hfog.1 hfog.2
      have hfo1 : 0 ≤ h 100 (6 * w + 3) * (100 - h 98 46) ∧ h 100 (6 * w + 3) * (100 - h 98 46) ≤ 10000 := hfo.1
      refine bX12_says_73 (r2 := by rw [e100, e98]; omega) (kk := ?_)
      rw [e100, e98, e99]
      have inner : ∀ (d2 n : Nat) (h2 : AH) {b1 b2 : Nat}, (n : Int) + d2 = h 100 (6 * w + 5) → grown h h2 s t0 (fun δ => ((if δ = h 103 (h 98 48) then h 99 (2 * s) else 0) + sg (ampW (dM h) (h 98 48) (h 104 (h 98 49)) (h 98 46) (h 98 47) s δ) w) + sg (ampN (dM h) (h 98 48) (h 104 (h 98 49)) (h 98 46) s δ w) n) →
          Wp mX12_says (kR fr 0 0) (rV (fun h' => grown h h' s t0 (amp (dM h) (h 98 48) (h 104 (h 98 49)) (h 98 46) (h 98 47) s))) (b1, b2) 110 [zR 98, zI s, zI t0, zI w, zI (h 100 (6 * w + 3) * (100 - h 98 46) / 100), zI (vol (h 99 (2 * s)) (h 100 (6 * w + 3) * (100 - h 98 46) / 100) n), zI ((n : Int) + 1)] [] 137 h2 := by
        intro d2
        induction d2 with
        | zero =>
          intro n h2 b1 b2 hn G2
          have f100 : h2 100 = h 100 := G2.1 100 (by decide)
          refine bX12_says_110 (r3 := by rw [f100]; omega) (kt := fun _ => ?_) (kf := fun q3 => by rw [f100] at q3; omega)
          refine next h2 (grown_eq G2 (fun δ => ?_))
          rw [sg]
          have : ampW (dM h) (h 98 48) (h 104 (h 98 49)) (h 98 46) (h 98 47) s δ w = sg (ampN (dM h) (h 98 48) (h 104 (h 98 49)) (h 98 46) s δ w) n := by
            unfold ampW
            rw [if_neg (by rw [hm]; decide)]
            congr 1
            show (h 100 (6 * w + 5)).toNat = n
            omega
          omega
        | succ d2 ih2 =>
          intro n h2 b1 b2 hn G2
          have f98 : h2 98 = h 98 := G2.1 98 (by decide)
          have f100 : h2 100 = h 100 := G2.1 100 (by decide)
          have f104 : h2 104 = h 104 := G2.1 104 (by decide)
          refine bX12_says_110 (r3 := by rw [f100]; omega) (kt := fun q3 => by rw [f100] at q3; omega) (kf := fun _ => ?_)
          have hv := vol_rng (a := h 99 (2 * s)) (sh := h 100 (6 * w + 3) * (100 - h 98 46) / 100) (by omega) hsr.1.2 hfo.2.1 hfo.2.2 n
          have hv1 := vol_rng (a := h 99 (2 * s)) (sh := h 100 (6 * w + 3) * (100 - h 98 46) / 100) (by omega) hsr.1.2 hfo.2.1 hfo.2.2 (n + 1)
          have hm1 := mul_rng hv.1 hv.2 hfo.2.1 hfo.2.2
          have hm2 := mul_rng hv1.1 hv1.2 hai.1 hai.2
          have hnd := mul_rng (a := (n : Int) + 1) (b := h 100 (6 * w + h 98 48)) (A := 3) (B := 40) (by omega) (by omega) (by omega) hdl'.2
          have hm1' : 0 ≤ vol (h 99 (2 * s)) (h 100 (6 * w + 3) * (100 - h 98 46) / 100) n * (h 100 (6 * w + 3) * (100 - h 98 46) / 100) ∧ vol (h 99 (2 * s)) (h 100 (6 * w + 3) * (100 - h 98 46) / 100) n * (h 100 (6 * w + 3) * (100 - h 98 46) / 100) < 2147483648 := ⟨hm1.1, Int.lt_of_le_of_lt hm1.2 (by decide)⟩
          have hm2' : 0 ≤ vol (h 99 (2 * s)) (h 100 (6 * w + 3) * (100 - h 98 46) / 100) n * (h 100 (6 * w + 3) * (100 - h 98 46) / 100) / 100 * h 104 (h 98 49) ∧ vol (h 99 (2 * s)) (h 100 (6 * w + 3) * (100 - h 98 46) / 100) n * (h 100 (6 * w + 3) * (100 - h 98 46) / 100) / 100 * h 104 (h 98 49) < 2147483648 := ⟨hm2.1, Int.lt_of_le_of_lt hm2.2 (by decide)⟩
          refine bX12_says_126 (r1 := hm1') (r2 := by rw [f98]; omega) (r3 := by rw [f98]; omega) (r4 := by rw [f104, f98]; exact hm2') (hS := m_comes ⟨hs.1, by omega⟩ (by rw [f100, f98]; constructor <;> omega) (by rw [f98]; exact hr)) (kk := ?_)
          intro h3 h23
          rw [f100, f98, f104] at h23
          refine bX12_says_175 (kk := ?_)
          have G3 := grown_s (x := vol (h 99 (2 * s)) (h 100 (6 * w + 3) * (100 - h 98 46) / 100) n * (h 100 (6 * w + 3) * (100 - h 98 46) / 100) / 100 * h 104 (h 98 49) / 100) (δ := ((n : Int) + 1) * h 100 (6 * w + h 98 48)) ⟨hs.1, by omega⟩ G2 (by rw [f98]; exact h23)
          have := ih2 (n + 1) h3 (b1 := b1) (b2 := b2) (by omega) (grown_eq G3 (fun δ => ?_))
          · have e9 : ((n + 1 : Nat) : Int) + 1 = (n : Int) + 1 + 1 := by omega
            rw [e9] at this
            exact this
          · rw [sg]
            have : ampN (dM h) (h 98 48) (h 104 (h 98 49)) (h 98 46) s δ w n = if δ = ((n : Int) + 1) * h 100 (6 * w + h 98 48) then vol (h 99 (2 * s)) (h 100 (6 * w + 3) * (100 - h 98 46) / 100) n * (h 100 (6 * w + 3) * (100 - h 98 46) / 100) / 100 * h 104 (h 98 49) / 100 else 0 := by
              unfold ampN
              rw [edl]
              rfl
            rw [this]
            omega
      exact inner (h 100 (6 * w + 5)).toNat 0 h1 (by omega) (grown_eq G (fun δ => by simp [sg]))
  exact loop (h 98 2).toNat 0 h1 (by omega) (grown_eq G0 (fun δ => by simp [sg]))
