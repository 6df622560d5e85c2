/-! ===== feed(): both sides ===== -/
/-- four bytes of v, laid from place p on: as the class keeps them, as the model does -/
def lay4 (h : AH) (c : Int) (o k : Int) (f : Int → Int) : AH := up (up (up (up (up (up (up (up h c (h o k) (f 24)) o k (h o k + 1)) c (h o k + 1) (f 16)) o k (h o k + 2)) c (h o k + 2) (f 8)) o k (h o k + 3)) c (h o k + 3) (f 0)) o k (h o k + 4)
theorem c_tapeNumber {fr : Nat} {v : Int} {h : AH} (rv : R32 v) (ht : 0 ≤ h 1 1 ∧ h 1 1 + 4 ≤ 700) : Sp mX11_tapeNumber true fr 0 0 [zR 1, zI v] 137 h (rV (fun h' => h' = lay4 h 2 1 1 (fun s => w8 (v / 2 ^ s.toNat)))) := by
  refine Sp.mk yX11_tapeNumber_ok rfl rfl ?_
  have rv2 : -2147483648 ≤ v ∧ v < 2147483648 := rv
  refine bX11_tapeNumber_0 (kk := ?_)
  refine bX11_tapeNumber_3 (kt := fun q => absurd q (by decide)) (kf := fun _ => ?_)
  refine bX11_tapeNumber_7 (kt := fun q => by omega) (kf := fun _ => ?_)
  refine bX11_tapeNumber_17 (kk := ?_)
  refine bX11_tapeNumber_3 (kt := fun q => absurd q (by decide)) (kf := fun _ => ?_)
  refine bX11_tapeNumber_7 (r1 := by show _ ≤ h 1 1 + 1 ∧ h 1 1 + 1 < _; omega) (kt := fun q => by have : 700 ≤ h 1 1 + 1 := q; omega) (kf := fun _ => ?_)
  refine bX11_tapeNumber_17 (r3 := by show 0 ≤ h 1 1 + 1 ∧ h 1 1 + 1 < 700; omega) (kk := ?_)
  refine bX11_tapeNumber_3 (kt := fun q => absurd q (by decide)) (kf := fun _ => ?_)
  refine bX11_tapeNumber_7 (r1 := by show _ ≤ h 1 1 + 1 + 1 ∧ h 1 1 + 1 + 1 < _; omega) (kt := fun q => by have : 700 ≤ h 1 1 + 1 + 1 := q; omega) (kf := fun _ => ?_)
  refine bX11_tapeNumber_17 (r3 := by show 0 ≤ h 1 1 + 1 + 1 ∧ h 1 1 + 1 + 1 < 700; omega) (kk := ?_)
  refine bX11_tapeNumber_3 (kt := fun q => absurd q (by decide)) (kf := fun _ => ?_)
  refine bX11_tapeNumber_7 (r1 := by show _ ≤ h 1 1 + 1 + 1 + 1 ∧ h 1 1 + 1 + 1 + 1 < _; omega) (kt := fun q => by have : 700 ≤ h 1 1 + 1 + 1 + 1 := q; omega) (kf := fun _ => ?_)
  refine bX11_tapeNumber_17 (r3 := by show 0 ≤ h 1 1 + 1 + 1 + 1 ∧ h 1 1 + 1 + 1 + 1 < 700; omega) (kk := ?_)
  refine bX11_tapeNumber_3 (kt := fun _ => ?_) (kf := fun q => absurd q (by decide))
  refine bX11_tapeNumber_46 (hq := ⟨rfl, rfl, ?_⟩)
  unfold lay4
  have e2 : h 1 1 + 1 + 1 = h 1 1 + 2 := by omega
  have e3 : h 1 1 + 1 + 1 + 1 = h 1 1 + 3 := by omega
  have e4 : h 1 1 + 1 + 1 + 1 + 1 = h 1 1 + 4 := by omega
  show up (up (up (up (up (up (up (up h 2 (h 1 1) (w8 (v / 2 ^ (24 : Int).toNat))) 1 1 (h 1 1 + 1)) 2 (h 1 1 + 1) (w8 (v / 2 ^ (16 : Int).toNat))) 1 1 (h 1 1 + 1 + 1)) 2 (h 1 1 + 1 + 1) (w8 (v / 2 ^ (8 : Int).toNat))) 1 1 (h 1 1 + 1 + 1 + 1)) 2 (h 1 1 + 1 + 1 + 1) (w8 (v / 2 ^ (0 : Int).toNat))) 1 1 (h 1 1 + 1 + 1 + 1 + 1) = _
  rw [e4, e3, e2]
theorem m_lays {fr : Nat} {v : Int} {h : AH} (rv : R32 v) (ht : 0 ≤ h 98 16 ∧ h 98 16 + 4 ≤ 700) : Sp mX12_lays true fr 0 0 [zR 98, zI v] 137 h (rV (fun h' => h' = lay4 h 106 98 16 (fun s => bAnd (v / 2 ^ s.toNat) 255))) := by
  refine Sp.mk yX12_lays_ok rfl rfl ?_
  have rv2 : -2147483648 ≤ v ∧ v < 2147483648 := rv
  refine bX12_lays_0 (kk := ?_)
  refine bX12_lays_3 (kt := fun q => absurd q (by decide)) (kf := fun _ => ?_)
  refine bX12_lays_7 (kk := ?_)
  refine bX12_lays_3 (kt := fun q => absurd q (by decide)) (kf := fun _ => ?_)
  refine bX12_lays_7 (r3 := by show 0 ≤ h 98 16 + 1 ∧ h 98 16 + 1 < 700; omega) (kk := ?_)
  refine bX12_lays_3 (kt := fun q => absurd q (by decide)) (kf := fun _ => ?_)
  refine bX12_lays_7 (r3 := by show 0 ≤ h 98 16 + 1 + 1 ∧ h 98 16 + 1 + 1 < 700; omega) (kk := ?_)
  refine bX12_lays_3 (kt := fun q => absurd q (by decide)) (kf := fun _ => ?_)
  refine bX12_lays_7 (r3 := by show 0 ≤ h 98 16 + 1 + 1 + 1 ∧ h 98 16 + 1 + 1 + 1 < 700; omega) (kk := ?_)
  refine bX12_lays_3 (kt := fun _ => ?_) (kf := fun q => absurd q (by decide))
  refine bX12_lays_39 (hq := ⟨rfl, rfl, ?_⟩)
  unfold lay4
  have e2 : h 98 16 + 1 + 1 = h 98 16 + 2 := by omega
  have e3 : h 98 16 + 1 + 1 + 1 = h 98 16 + 3 := by omega
  have e4 : h 98 16 + 1 + 1 + 1 + 1 = h 98 16 + 4 := by omega
  show up (up (up (up (up (up (up (up h 106 (h 98 16) (bAnd (v / 2 ^ (24 : Int).toNat) 255)) 98 16 (h 98 16 + 1)) 106 (h 98 16 + 1) (bAnd (v / 2 ^ (16 : Int).toNat) 255)) 98 16 (h 98 16 + 1 + 1)) 106 (h 98 16 + 1 + 1) (bAnd (v / 2 ^ (8 : Int).toNat) 255)) 98 16 (h 98 16 + 1 + 1 + 1)) 106 (h 98 16 + 1 + 1 + 1) (bAnd (v / 2 ^ (0 : Int).toNat) 255)) 98 16 (h 98 16 + 1 + 1 + 1 + 1) = _
  rw [e4, e3, e2]
theorem lay4_len1 (h : AH) (f : Int → Int) : lay4 h 2 1 1 f 1 1 = h 1 1 + 4 := rfl
theorem lay4_len98 (h : AH) (f : Int → Int) : lay4 h 106 98 16 f 98 16 = h 98 16 + 4 := rfl
abbrev bC (v : Int) : Int → Int := fun s => w8 (v / 2 ^ s.toNat)
abbrev bM (v : Int) : Int → Int := fun s => bAnd (v / 2 ^ s.toNat) 255
theorem c_feed {fr : Nat} {a b c d e : Int} {h : AH} (hf : 1 ≤ fr) (ra : R32 a) (rb : R32 b) (rc : R32 c) (rd : R32 d) (re : R32 e) (ht : 0 ≤ h 1 1 ∧ h 1 1 ≤ 700) : Sp mX11_feed true fr 0 0 [zR 1, zI a, zI b, zI c, zI d, zI e] 137 h (rI (fun x h' => (700 < h 1 1 + 20 ∧ x = -1 ∧ h' = h) ∨ (h 1 1 + 20 ≤ 700 ∧ x = h 1 1 + 20 ∧ h' = lay4 (lay4 (lay4 (lay4 (lay4 h 2 1 1 (bC a)) 2 1 1 (bC b)) 2 1 1 (bC c)) 2 1 1 (bC d)) 2 1 1 (bC e)))) := by
  refine Sp.mk yX11_feed_ok rfl rfl ?_
  refine bX11_feed_0 (kt := fun q => ?_) (kf := fun q => ?_)
  · refine bX11_feed_15 (hS := c_tapeNumber ra (by omega)) (kk := ?_)
    rintro h1 rfl
    refine bX11_feed_20 (hS := c_tapeNumber rb (by rw [lay4_len1]; omega)) (kk := ?_)
    rintro h1 rfl
    refine bX11_feed_25 (hS := c_tapeNumber rc (by rw [lay4_len1, lay4_len1]; omega)) (kk := ?_)
    rintro h1 rfl
    refine bX11_feed_30 (hS := c_tapeNumber rd (by rw [lay4_len1, lay4_len1, lay4_len1]; omega)) (kk := ?_)
    rintro h1 rfl
    refine bX11_feed_36 (hS := c_tapeNumber re (by rw [lay4_len1, lay4_len1, lay4_len1, lay4_len1]; omega)) (kk := ?_)
    rintro h1 rfl
    exact bX11_feed_42 (hq := ⟨_, rfl, rfl, Or.inr ⟨q, by rw [lay4_len1, lay4_len1, lay4_len1, lay4_len1, lay4_len1]; omega, rfl⟩⟩)
  · exact bX11_feed_13 (hq := ⟨_, rfl, rfl, Or.inl ⟨q, rfl, rfl⟩⟩)
theorem m_feed {fr : Nat} {a b c d e : Int} {h : AH} (hf : 1 ≤ fr) (ra : R32 a) (rb : R32 b) (rc : R32 c) (rd : R32 d) (re : R32 e) (ht : 0 ≤ h 98 16 ∧ h 98 16 ≤ 700) : Sp mX12_feed true fr 0 0 [zR 98, zI a, zI b, zI c, zI d, zI e] 137 h (rI (fun x h' => (700 < h 98 16 + 20 ∧ x = -1 ∧ h' = up h 98 0 0) ∨ (h 98 16 + 20 ≤ 700 ∧ x = h 98 16 + 20 ∧ h' = lay4 (lay4 (lay4 (lay4 (lay4 (up h 98 0 0) 106 98 16 (bM a)) 106 98 16 (bM b)) 106 98 16 (bM c)) 106 98 16 (bM d)) 106 98 16 (bM e)))) := by
  refine Sp.mk yX12_feed_ok rfl rfl ?_
  have e0 : up h 98 0 0 98 16 = h 98 16 := rfl
  refine bX12_feed_0 (kt := fun q => ?_) (kf := fun q => ?_)
  · refine bX12_feed_20 (hS := m_lays ra (by rw [e0]; omega)) (kk := ?_)
    rintro h1 rfl
    refine bX12_feed_25 (hS := m_lays rb (by rw [lay4_len98, e0]; omega)) (kk := ?_)
    rintro h1 rfl
    refine bX12_feed_30 (hS := m_lays rc (by rw [lay4_len98, lay4_len98, e0]; omega)) (kk := ?_)
    rintro h1 rfl
    refine bX12_feed_35 (hS := m_lays rd (by rw [lay4_len98, lay4_len98, lay4_len98, e0]; omega)) (kk := ?_)
    rintro h1 rfl
    refine bX12_feed_41 (hS := m_lays re (by rw [lay4_len98, lay4_len98, lay4_len98, lay4_len98, e0]; omega)) (kk := ?_)
    rintro h1 rfl
    exact bX12_feed_47 (hq := ⟨_, rfl, rfl, Or.inr ⟨q, by rw [lay4_len98, lay4_len98, lay4_len98, lay4_len98, lay4_len98, e0]; omega, rfl⟩⟩)
  · exact bX12_feed_18 (hq := ⟨_, rfl, rfl, Or.inl ⟨q, rfl, rfl⟩⟩)
