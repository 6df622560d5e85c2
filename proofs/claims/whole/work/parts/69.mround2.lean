/-! ===== the model: round ===== -/
theorem m_round {fr : Nat} {k : Int} {h : AH} (hf : 2 ≤ fr) (rk : R32 k) (ho : okM h) :
    Sp mX12_round true fr 0 0 [zR 98, zI k] 137 h (rI (fun x h' => keepM h h' ∧ (((0 ≤ k ∧ k ≤ 2) ∧ h' 98 0 = 0 ∧ roundR (ampR h) (sngM h) (h 98 66) (h 98 1) (h 98 5) (fun s => h 105 s) k x) ∨ (¬ (0 ≤ k ∧ k ≤ 2) ∧ h' 98 0 = 1)))) := by
  refine Sp.mk yX12_round_ok rfl rfl ?_
  obtain ⟨rk1, rk2⟩ := id rk
  have e0 : up h 98 0 0 98 0 = 0 := rfl
  have kp : keepM h (up h 98 0 0) := keepM.up98 (by unfold perF; omega)
  obtain ⟨hd, -, -, -, -, hR, hrow, -⟩ := id ho
  refine bX12_round_0 (hS := m_within rk R32_0 (by constructor <;> decide)) (kk := ?_)
  rintro x h1 ⟨e1, z⟩
  rw [e1]; clear e1 h1
  refine bX12_round_12 (hS := m_right (by rcases z with ⟨rfl, -⟩ | ⟨rfl, -⟩ <;> constructor <;> decide) R32_1 (by decide) (by rw [e0]; exact R32_0)) (kk := ?_)
  rintro y h1 (⟨-, w, rfl, rfl⟩ | ⟨-, w, rfl, rfl⟩ | ⟨w, -⟩)
  rotate_left
  · refine bX12_round_16 (kt := fun w => absurd rfl w) (kf := fun _ => bX12_round_19 (hq := ⟨_, rfl, rfl, ?_, Or.inr ⟨by omega, rfl⟩⟩))
    exact kp.tr (keepM.up98 (by unfold perF; omega))
  · exact absurd e0 w
  have hk : 0 ≤ k ∧ k ≤ 2 := by omega
  refine bX12_round_16 (kt := fun _ => ?_) (kf := fun w => absurd w (by decide))
  have ho1 := ho.keep kp
  -- what clashes says in any heap that keeps
  have same : ∀ (h1 : AH), keepM h h1 → ∀ n, clashN (lamR (ampR h1) (sngM h1) (h1 98 66) n) (h1 98 1) (h1 98 5) (fun s => h1 105 s) n.toNat = clashN (lamR (ampR h) (sngM h) (h 98 66) n) (h 98 1) (h 98 5) (fun s => h 105 s) n.toNat := by
    intro h1 k1 n
    have a1 : ampR h1 = ampR h := by unfold ampR; rw [k1.dM, k1.1 104 (by unfold perC; omega)]
    have a2 : sngM h1 = sngM h := by unfold sngM; rw [k1.1 123 (by unfold perC; omega)]
    rw [a1, a2, k1.2 66 (by unfold perF; omega), k1.2 1 (by unfold perF; omega), k1.2 5 (by unfold perF; omega), k1.1 105 (by unfold perC; omega)]
  refine bX12_round_21 (kt := fun q => ?_) (kf := fun q => ?_)
  rotate_left
  · exact bX12_round_26 (hq := ⟨_, rfl, rfl, kp, Or.inl ⟨hk, rfl, Or.inr (Or.inr ⟨q, rfl⟩)⟩⟩)
  refine bX12_round_31 (kt := fun q1 => ?_) (kf := fun q1 => ?_)
  rotate_left
  · refine bX12_round_35 (hS := m_clashes (by omega) ho1 (Int.le_refl _) (by show h 98 66 ≤ 32; omega)) (kk := ?_)
    rintro x h1 ⟨⟨k1, t1⟩, hx⟩
    rw [same _ kp] at hx
    refine bX12_round_43 (hq := ⟨_, rfl, rfl, kp.tr k1, Or.inl ⟨hk, t1, Or.inl ⟨q1, ?_⟩⟩⟩)
    exact hx
  refine bX12_round_44 (kk := ?_)
  suffices H : ∀ (d m : Nat) (h1 : AH), m + d = 17 → keepM h h1 → h1 98 0 = 0 → (∀ y, 0 ≤ y → y < (m : Int) → ¬ clashN (lamR (ampR h) (sngM h) (h 98 66) (h 98 66 + y)) (h 98 1) (h 98 5) (fun s => h 105 s) (h 98 66 + y).toNat = 0) → Wp mX12_round (kR fr 0 0) (rI (fun x h' => keepM h h' ∧ (((0 ≤ k ∧ k ≤ 2) ∧ h' 98 0 = 0 ∧ roundR (ampR h) (sngM h) (h 98 66) (h 98 1) (h 98 5) (fun s => h 105 s) k x) ∨ (¬ (0 ≤ k ∧ k ≤ 2) ∧ h' 98 0 = 1)))) (0, 0) 46 [zR 98, none, zI m] [] 137 h1 by
    exact H 17 0 _ (by omega) kp rfl (fun y a b => by omega)
  intro d
  induction d with
  | zero =>
    intro m h1 hm k1 t1 hn
    refine bX12_round_46 (kt := fun _ => ?_) (kf := fun q => by omega)
    exact bX12_round_73 (hq := ⟨_, rfl, rfl, k1, Or.inl ⟨hk, t1, Or.inr (Or.inl ⟨by omega, Or.inr ⟨rfl, fun y a b => hn y a (by omega)⟩⟩)⟩⟩)
  | succ d ih =>
    intro m h1 hm k1 t1 hn
    have eR : h1 98 66 = h 98 66 := k1.2 66 (by unfold perF; omega)
    refine bX12_round_46 (kt := fun q => by omega) (kf := fun _ => ?_)
    refine bX12_round_52 (hS := m_clashes (by omega) (ho.keep k1) (by omega) (by rw [eR]; omega)) (kk := ?_)
    rintro x h2 ⟨⟨k2, t2⟩, hx⟩
    rw [same _ k1, eR] at hx
    have rx : R32 x := by rw [hx]; exact cnt_R _ (by omega)
    refine bX12_round_62 (r1 := rx) (kt := fun q => ?_) (kf := fun q => ?_)
    · refine bX12_round_67 (kk := ih (m + 1) h2 (by omega) (k1.tr k2) (by rw [t2, t1]) (fun y a b => ?_))
      by_cases e : y = m
      · rw [e, ← hx]; exact q
      · exact hn y a (by omega)
    · exact bX12_round_65 (hq := ⟨_, rfl, rfl, k1.tr k2, Or.inl ⟨hk, by rw [t2, t1], Or.inr (Or.inl ⟨by omega, Or.inl ⟨by omega, by omega, hx.symm.trans q, hn⟩⟩)⟩⟩)
theorem roundR.one {A B : Int → Int → Int} {row sow : Int → Int} {R nS least : Int} {SW SV : Int → Int} {k x y : Int} (eA : ∀ s d, 0 ≤ s → s < nS → A s d = B s d) (er : ∀ i, row i = sow i) (es : ∀ s, 0 ≤ s → s < nS → SW s = SV s) (h1 : roundR A row R nS least SW k x) (h2 : roundR B sow R nS least SV k y) : x = y := by
  have e : ∀ n, clashN (lamR A row R n) nS least SW n.toNat = clashN (lamR B sow R n) nS least SV n.toNat := fun n => by
    refine clashN_cong (fun t s _ _ s0 s1 => ?_) es
    have : row = sow := funext er
    unfold lamR
    rw [this]
    refine sg_cong (fun d _ => ?_)
    rw [eA s d s0 s1]
  rcases h1 with ⟨a, b⟩ | ⟨a, b⟩ | ⟨a, b⟩ <;> rcases h2 with ⟨c, d⟩ | ⟨c, d⟩ | ⟨c, d⟩ <;> first | omega | skip
  · rw [b, d, e]
  · exact restR.one (fun y _ _ => e _) b d
