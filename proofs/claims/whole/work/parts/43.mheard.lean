/-! ===== the model: heard, loud ===== -/
/-- cells, fields of the model that are not scratch -/
def perC (c : Int) : Prop := c ≤ 97 ∨ (99 ≤ c ∧ c ≤ 107) ∨ c = 116 ∨ c = 117 ∨ c = 123 ∨ c = 124 ∨ c = 128 ∨ 132 ≤ c
def perF (i : Int) : Prop := (1 ≤ i ∧ i ≤ 7) ∨ i = 16 ∨ i = 18 ∨ i = 46 ∨ i = 47 ∨ i = 50 ∨ i = 66 ∨ i = 68 ∨ (78 ≤ i ∧ i ≤ 81)
def keepM (h h' : AH) : Prop := (∀ c, perC c → h' c = h c) ∧ ∀ i, perF i → h' 98 i = h 98 i
theorem keepM.rf (h : AH) : keepM h h := ⟨fun _ _ => rfl, fun _ _ => rfl⟩
theorem keepM.tr {a b c : AH} (h1 : keepM a b) (h2 : keepM b c) : keepM a c := ⟨fun x hx => by rw [h2.1 x hx, h1.1 x hx], fun i hi => by rw [h2.2 i hi, h1.2 i hi]⟩
theorem keepM.up98 {h : AH} {i v : Int} (hi : ¬ perF i) : keepM h (up h 98 i v) := ⟨fun c hc => up_n (by unfold perC at hc; omega), fun j hj => up_cn (fun e => hi (e ▸ hj))⟩
theorem keepM.upC {h : AH} {c i v : Int} (hc : ¬ perC c) (h98 : c ≠ 98) : keepM h (up h c i v) := ⟨fun d hd => up_n (fun e => hc (e ▸ hd)), fun j _ => by rw [up_n (Ne.symm h98)]⟩
theorem keepM.opened (h : AH) (to e o : Int) : keepM h (opened h to e o) := ⟨fun c hc => opened_c (by unfold perC at hc; omega), fun i hi => opened_i (by unfold perF at hi; omega) (by unfold perF at hi; omega) (by unfold perF at hi; omega)⟩
theorem keepM.row {h0 h : AH} {Λ : Int → Int → Int} (hr : isRow h0 h Λ) : keepM h0 h := ⟨fun c hc => hr.1 c (by unfold perC at hc; omega), fun i _ => by rw [hr.1 98 (by decide)]⟩
theorem keepM.dM {h h' : AH} (hk : keepM h h') : dM h' = dM h := dM_eq (fun i a b => hk.2 i (by unfold perF; omega)) (fun c a b => hk.1 c (by unfold perC; omega))
/-- what the model's state is between calls -/
def okM (h : AH) : Prop := okD (dM h) ∧ h 98 46 = 0 ∧ h 98 47 = -1 ∧ (0 ≤ h 98 50 ∧ h 98 50 ≤ 200) ∧ (∀ k, 0 ≤ k → k < h 98 50 → (0 ≤ h 116 k ∧ h 116 k < h 98 1) ∧ 0 ≤ h 117 k ∧ h 117 k < 200) ∧ (0 ≤ h 98 66 ∧ h 98 66 ≤ 16) ∧ (∀ i, 0 ≤ i → i < 16 → -1 ≤ h 123 i ∧ h 123 i < h 98 1) ∧ (0 ≤ h 98 68 ∧ h 98 68 ≤ 60) ∧ (∀ i, 0 ≤ i → i < h 98 68 → -1 ≤ h 124 i ∧ h 124 i < h 98 1) ∧ (∀ i, 0 ≤ i → i < 6 → 0 ≤ h 128 i ∧ h 128 i ≤ 30)
theorem okM.keep {h h' : AH} (ho : okM h) (hk : keepM h h') : okM h' := by
  have eD := hk.dM
  have f : ∀ i, perF i → h' 98 i = h 98 i := hk.2
  have c : ∀ c, perC c → h' c = h c := hk.1
  unfold okM at ho ⊢
  rw [eD, f 46 (by unfold perF; omega), f 47 (by unfold perF; omega), f 50 (by unfold perF; omega), f 66 (by unfold perF; omega), f 68 (by unfold perF; omega), f 1 (by unfold perF; omega), c 116 (by unfold perC; omega), c 117 (by unfold perC; omega), c 123 (by unfold perC; omega), c 124 (by unfold perC; omega), c 128 (by unfold perC; omega)]
  exact ho
/-- all that is said, as the model has it -/
def lamM (h : AH) (e o : Int) : Int → Int → Int := lamL (fun s d => amp (dM h) e (h 104 o) 0 (-1) s d) (fun k => h 116 k) (fun k => h 117 k) (h 98 50).toNat
theorem lamM_keep {h h' : AH} (hk : keepM h h') (e o : Int) : lamM h' e o = lamM h e o := by
  unfold lamM
  rw [hk.dM, hk.2 50 (by unfold perF; omega), hk.1 104 (by unfold perC; omega), hk.1 116 (by unfold perC; omega), hk.1 117 (by unfold perC; omega)]
theorem lamM_rng {h : AH} {e o t s : Int} (ho : okM h) (o0 : 0 ≤ o) (o1 : o < 24) : 0 ≤ lamM h e o t s ∧ lamM h e o t s < 1000000 := by
  obtain ⟨hd, -, -, hm, hk, -⟩ := ho
  have hai := hd.2.2.2.2.2.2.2.2.2.2.2.2.1 o o0 o1
  have := sg_rng (f := fun k : Nat => if s = h 116 k then amp (dM h) e (h 104 o) 0 (-1) s (t - h 117 k) else 0) (B := 1881) (n := (h 98 50).toNat) (fun i hi => by
    split
    · rename_i es
      obtain ⟨⟨a, b⟩, -⟩ := hk i (by omega) (by omega)
      exact amp_rng hd (by omega) (show s < h 98 1 by omega) (by decide) (by decide) hai.1 hai.2
    · decide)
  unfold lamM lamL
  dsimp only
  omega
theorem whereM {h : AH} (e o t : Int) : ((0 ≤ e ∧ e ≤ 2) ∧ (0 ≤ o ∧ o ≤ 23) ∧ 0 ≤ t ∧ t ≤ 399) ↔ ((0 ≤ e ∧ e < 3) ∧ (0 ≤ o ∧ o < 24) ∧ 0 ≤ t ∧ t < 400) := by omega
theorem m_heard {fr : Nat} {e o t : Int} {h : AH} (hf : 3 ≤ fr) (re : R32 e) (ro : R32 o) (rt : R32 t) (ho : okM h) :
    Sp mX12_heard true fr 0 0 [zR 98, zI e, zI o, zI t] 137 h (rI (fun x h' => keepM h h' ∧ ((((0 ≤ e ∧ e < 3) ∧ (0 ≤ o ∧ o < 24) ∧ 0 ≤ t ∧ t < 400) ∧ h' 98 0 = 0 ∧ HeardR (lamM h e o) (h 98 1) (h 98 5) (h 98 6) (h 98 7) t x) ∨ (¬ ((0 ≤ e ∧ e < 3) ∧ (0 ≤ o ∧ o < 24) ∧ 0 ≤ t ∧ t < 400) ∧ h' 98 0 = 1)))) := by
  refine Sp.mk yX12_heard_ok rfl rfl ?_
  have k0 : keepM h (up h 98 0 0) := keepM.up98 (by unfold perF; omega)
  refine bX12_heard_0 (hS := m_isWhere (by omega) re ro rt rfl) (kk := ?_)
  rintro x h1 (⟨ok, rfl, rfl⟩ | ⟨ok, rfl, rfl⟩)
  rotate_left
  · refine bX12_heard_12 (kt := fun w => absurd rfl w) (kf := fun _ => ?_)
    exact bX12_heard_15 (hq := ⟨_, rfl, rfl, k0.tr (keepM.up98 (by unfold perF; omega)), Or.inr ⟨by omega, rfl⟩⟩)
  refine bX12_heard_12 (kt := fun _ => ?_) (kf := fun w => absurd w (by decide))
  have o1 := ho.keep k0
  obtain ⟨hd, h46, h47, hm, hk, -⟩ := id o1
  refine bX12_heard_17 (hS := m_allSaid (by omega) hd (by decide) (by omega) (by omega) h46 h47 hm hk) (kk := ?_)
  intro h2 hr
  have k2 : keepM h h2 := k0.tr ((keepM.opened _ 400 e o).tr (keepM.row hr))
  have o2 := ho.keep k2
  have e0 : h2 98 0 = 0 := by rw [hr.1 98 (by decide), opened_i (by decide) (by decide) (by decide)]; rfl
  have hlam : ∀ t' s, 0 ≤ t' → t' < 400 → 0 ≤ s → s < 8 → h2 115 (8 * t' + s) = lamM h e o t' s := by
    intro t' s a b c d
    have := hr.2 t' s a b c d
    rw [← lamM_keep k0 e o]
    exact this
  have f : ∀ i, perF i → h2 98 i = h 98 i := k2.2
  refine bX12_heard_26 (hS := m_hears (by omega) o2.1.1 o2.1.2.2.2.2.1 o2.1.2.2.2.2.2.1 o2.1.2.2.2.2.2.2.1 (fun t' s a b c d => by rw [hlam t' s a (by omega) c d]; exact lamM_rng ho (by omega) (by omega))) (kk := ?_)
  rintro y h3 ⟨rfl, hh⟩
  refine bX12_heard_31 (hq := ⟨_, rfl, rfl, k2, Or.inl ⟨by omega, e0, ?_⟩⟩)
  rw [f 1 (by unfold perF; omega), f 5 (by unfold perF; omega), f 6 (by unfold perF; omega), f 7 (by unfold perF; omega)] at hh
  have h1le : h 98 1 ≤ 8 := ho.1.1.2
  have h6 : 0 ≤ h 98 6 := ho.1.2.2.2.2.2.1.1
  exact hh.cong (fun t' s a b c d e2 => hlam t' s a (by omega) d (by omega)) (by omega) h6
theorem m_loud {fr : Nat} {e o t s : Int} {h : AH} (hf : 3 ≤ fr) (re : R32 e) (ro : R32 o) (rt : R32 t) (rs : R32 s) (ho : okM h) :
    Sp mX12_loud true fr 0 0 [zR 98, zI e, zI o, zI t, zI s] 137 h (rI (fun x h' => keepM h h' ∧ (((((0 ≤ e ∧ e < 3) ∧ (0 ≤ o ∧ o < 24) ∧ 0 ≤ t ∧ t < 400) ∧ 0 ≤ s ∧ s < h 98 1) ∧ h' 98 0 = 0 ∧ x = lamM h e o t s) ∨ (¬ (((0 ≤ e ∧ e < 3) ∧ (0 ≤ o ∧ o < 24) ∧ 0 ≤ t ∧ t < 400) ∧ 0 ≤ s ∧ s < h 98 1) ∧ h' 98 0 = 1)))) := by
  refine Sp.mk yX12_loud_ok rfl rfl ?_
  have k0 : keepM h (up h 98 0 0) := keepM.up98 (by unfold perF; omega)
  refine bX12_loud_0 (hS := m_isWhere (by omega) re ro rt rfl) (kk := ?_)
  rintro x h1 (⟨ok, rfl, rfl⟩ | ⟨ok, rfl, rfl⟩)
  rotate_left
  · refine bX12_loud_12 (kt := fun _ => ?_) (kf := fun w => absurd rfl w)
    exact bX12_loud_24 (hq := ⟨_, rfl, rfl, k0.tr (keepM.up98 (by unfold perF; omega)), Or.inr ⟨by omega, rfl⟩⟩)
  refine bX12_loud_12 (kt := fun w => absurd w (by decide)) (kf := fun _ => ?_)
  have o1 := ho.keep k0
  obtain ⟨hd, h46, h47, hm, hk, -⟩ := id o1
  refine bX12_loud_15 (hS := m_isSound (by omega) rs hd.1 rfl) (kk := ?_)
  rintro x h1 (⟨oks, rfl, rfl⟩ | ⟨oks, rfl, rfl⟩)
  rotate_left
  · refine bX12_loud_21 (kt := fun w => absurd rfl w) (kf := fun _ => ?_)
    have oks2 : ¬ (0 ≤ s ∧ s < h 98 1) := oks
    exact bX12_loud_24 (hq := ⟨_, rfl, rfl, k0.tr (keepM.up98 (by unfold perF; omega)), Or.inr ⟨by omega, rfl⟩⟩)
  refine bX12_loud_21 (kt := fun _ => ?_) (kf := fun w => absurd w (by decide))
  have oks2 : 0 ≤ s ∧ s < h 98 1 := oks
  have h8 : h 98 1 ≤ 8 := ho.1.1.2
  refine bX12_loud_26 (hS := m_allSaid (by omega) hd (by decide) (by omega) (by omega) h46 h47 hm hk) (kk := ?_)
  intro h2 hr
  have k2 : keepM h h2 := k0.tr ((keepM.opened _ 400 e o).tr (keepM.row hr))
  have e0 : h2 98 0 = 0 := by rw [hr.1 98 (by decide), opened_i (by decide) (by decide) (by decide)]; rfl
  refine bX12_loud_35 (hq := ⟨_, rfl, rfl, k2, Or.inl ⟨by omega, e0, ?_⟩⟩)
  rw [← lamM_keep k0 e o]
  exact hr.2 t s (by omega) (show t < 400 by omega) (by omega) (by omega)
