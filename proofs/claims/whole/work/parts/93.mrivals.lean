/-! ===== the model: rivals ===== -/
theorem m_rivals {fr : Nat} {sh k : Int} {h : AH} (hf : 5 ≤ fr) (rs : R32 sh) (rk : R32 k) (ho : okM h) :
    Sp mX12_rivals true fr 0 0 [zR 98, zI sh, zI k] 137 h (rI (fun x h' => keepM h h' ∧ ((((0 ≤ k ∧ k ≤ 5) ∧ 1 ≤ sh ∧ sh ≤ 100) ∧ h' 98 0 = 0 ∧ rivalsR (RivM h sh) (EqM h sh) (h 98 1) k x) ∨ (¬ (0 ≤ k ∧ k ≤ 5) ∧ h' 98 0 = 1) ∨ ((0 ≤ k ∧ k ≤ 5) ∧ ¬ (1 ≤ sh ∧ sh ≤ 100) ∧ h' 98 0 = 2)))) := by
  refine Sp.mk yX12_rivals_ok rfl rfl ?_
  obtain ⟨rk1, rk2⟩ := id rk
  obtain ⟨rs1, rs2⟩ := id rs
  have e0 : up h 98 0 0 98 0 = 0 := rfl
  have kp : keepM h (up h 98 0 0) := keepM.up98 (by unfold perF; omega)
  have ho1 := ho.keep kp
  have hS : 0 ≤ h 98 1 ∧ h 98 1 ≤ 8 := ho.1.1
  refine bX12_rivals_0 (hS := m_within rk R32_0 (by constructor <;> decide)) (kk := ?_)
  rintro x h1 ⟨e, z⟩
  rw [e]; clear e h1
  refine bX12_rivals_12 (hS := m_right (by rcases z with ⟨rfl, -⟩ | ⟨rfl, -⟩ <;> constructor <;> decide) R32_1 (by decide) (by rw [e0]; exact R32_0)) (kk := ?_)
  rintro y h1 (⟨-, w, rfl, rfl⟩ | ⟨-, w, rfl, rfl⟩ | ⟨w, -⟩)
  rotate_left
  · refine bX12_rivals_16 (kt := fun _ => bX12_rivals_34 (hq := ⟨_, rfl, rfl, kp.tr (keepM.up98 (by unfold perF; omega)), Or.inr (Or.inl ⟨by omega, rfl⟩)⟩)) (kf := fun w => absurd rfl w)
  · exact absurd e0 w
  have hk : 0 ≤ k ∧ k ≤ 5 := by omega
  refine bX12_rivals_16 (kt := fun w => absurd w (by decide)) (kf := fun _ => ?_)
  refine bX12_rivals_19 (hS := m_within rs R32_1 (by constructor <;> decide)) (kk := ?_)
  rintro x h1 ⟨e, z2⟩
  rw [e]; clear e h1
  refine bX12_rivals_27 (hS := m_right (by rcases z2 with ⟨rfl, -⟩ | ⟨rfl, -⟩ <;> constructor <;> decide) (by constructor <;> decide) (by decide) (by rw [e0]; exact R32_0)) (kk := ?_)
  rintro y h1 (⟨-, w2, rfl, rfl⟩ | ⟨-, w2, rfl, rfl⟩ | ⟨w2, -⟩)
  rotate_left
  · refine bX12_rivals_31 (kt := fun w => absurd rfl w) (kf := fun _ => bX12_rivals_34 (hq := ⟨_, rfl, rfl, kp.tr (keepM.up98 (by unfold perF; omega)), Or.inr (Or.inr ⟨hk, by omega, rfl⟩)⟩))
  · exact absurd e0 w2
  have hsh : 1 ≤ sh ∧ sh ≤ 100 := by omega
  refine bX12_rivals_31 (kt := fun _ => ?_) (kf := fun w => absurd w (by decide))
  refine bX12_rivals_36 (hS := m_finds (by omega) hsh ho1) (kk := ?_)
  rintro h1 ⟨⟨k1, t1⟩, en⟩
  have eRM : RivM (up h 98 0 0) sh = RivM h sh := rfl
  rw [eRM] at en
  have kk1 := kp.tr k1
  have t1' : h1 98 0 = 0 := by rw [t1]; rfl
  generalize hRR : RivM h sh = RR at en
  have hR : ∀ y, RR y → m20 y := fun y hy => by rw [← hRR] at hy; exact hy.1.1
  have n1351 := en.1
  generalize hN : h1 98 72 = N at n1351
  obtain ⟨-, en1, en2, en3⟩ := id en
  rw [hN] at en1 en2 en3
  have emp : N = 0 → ∀ y, ¬ RR y := fun e y hy => by obtain ⟨j, p, -⟩ := en3 y hy; omega
  have cN : cntN RR = N := by
    have := en.cnt (P := fun _ => True) hR
    rw [hN, sg_cong (g := fun _ => 1) (fun i _ => by rw [if_pos (cl_pos trivial)])] at this
    have e1 : sg (fun _ => (1 : Int)) N.toNat = N := by
      have : ∀ n : Nat, sg (fun _ => (1 : Int)) n = n := fun n => by
        induction n with
        | zero => rfl
        | succ n ih => rw [sg, ih]; omega
      rw [this]; omega
    rw [e1] at this
    rw [← this]
    exact cntN_cong (fun y _ => ⟨fun z => ⟨z, trivial⟩, fun z => z.1⟩)
  have al : (0 ≤ k ∧ k ≤ 5) ∧ 1 ≤ sh ∧ sh ≤ 100 := ⟨hk, hsh⟩
  generalize hQ : (rI (fun x h' => keepM h h' ∧ ((((0 ≤ k ∧ k ≤ 5) ∧ 1 ≤ sh ∧ sh ≤ 100) ∧ h' 98 0 = 0 ∧ rivalsR RR (EqM h sh) (h 98 1) k x) ∨ (¬ (0 ≤ k ∧ k ≤ 5) ∧ h' 98 0 = 1) ∨ ((0 ≤ k ∧ k ≤ 5) ∧ ¬ (1 ≤ sh ∧ sh ≤ 100) ∧ h' 98 0 = 2)))) = Q
  have fin : ∀ (x : Int) (h2 : AH), keepM h h2 → h2 98 0 = 0 → rivalsR RR (EqM h sh) (h 98 1) k x → Q (.inl (some (zI x))) 137 h2 := fun x h2 a b c => by rw [← hQ]; exact ⟨_, rfl, rfl, a, Or.inl ⟨al, b, c⟩⟩
  -- behind the loop over the rivals
  have rest : ∀ su po : Int, (((∀ y, ¬ RR y) ∧ su = 0) ∨ ((∃ y, RR y) ∧ andR RR su)) → orR RR po → ∀ x5 x6 x7 x8 : AV, Wp mX12_rivals (kR fr 0 0) Q (0, 0) 99 [zR 98, zI sh, zI k, zI su, zI po, x5, x6, x7, x8] [] 137 h1 := by
    intro su po hsu hpo x5 x6 x7 x8
    refine bX12_rivals_99 (kt := fun q => ?_) (kf := fun q => ?_)
    rotate_left
    · refine bX12_rivals_104 (kt := fun q0 => ?_) (kf := fun q0 => bX12_rivals_108 (kk := bX12_rivals_151 (hq := fin _ h1 kk1 t1' (Or.inl ⟨q0, by rw [hN, cN]⟩))))
      refine bX12_rivals_115 (kt := fun q1 => ?_) (kf := fun q1 => bX12_rivals_120 (kk := bX12_rivals_151 (hq := fin _ h1 kk1 t1' (Or.inr (Or.inl ⟨q1, hsu⟩)))))
      refine bX12_rivals_124 (kt := fun q2 => ?_) (kf := fun q2 => bX12_rivals_129 (kk := bX12_rivals_151 (hq := fin _ h1 kk1 t1' (Or.inr (Or.inr (Or.inl ⟨q2, hpo⟩))))))
      refine bX12_rivals_134 (kt := fun q3 => ?_) (kf := fun q3 => bX12_rivals_141 (kk := bX12_rivals_151 (hq := fin _ h1 kk1 t1' (Or.inr (Or.inr (Or.inr (Or.inl ⟨by omega, Or.inl ⟨emp (by omega), rfl⟩⟩)))))))
      refine bX12_rivals_145 (kk := bX12_rivals_151 (hq := fin _ h1 kk1 t1' (Or.inr (Or.inr (Or.inr (Or.inl ⟨by omega, Or.inr ⟨en1 0 (by decide) (by omega), fun y hy => ?_⟩⟩))))))
      obtain ⟨j, p, e⟩ := en3 y hy
      by_cases c : j = 0
      · rw [← e, c]; exact Or.inr ⟨rfl, Int.le_refl _⟩
      · have := en2 0 j (by decide) (by omega) p.2
        rw [← e]
        unfold ordP at this
        omega
    · refine bX12_rivals_152 (kk := ?_)
      have finE : ∀ (b f : Int) (h2 : AH), keepM h h2 → h2 98 0 = 0 → nextR RR (EqM h sh) (h 98 1) b f → ∀ x0 x1 x3 x4 x7 x8 : AV, Wp mX12_rivals (kR fr 0 0) Q (0, 0) 216 [x0, x1, zI k, x3, x4, zI b, zI f, x7, x8] [] 137 h2 := fun b f h2 a c n x0 x1 x3 x4 x7 x8 => by
        refine bX12_rivals_216 (kt := fun w => ?_) (kf := fun w => ?_)
        · exact bX12_rivals_226 (kk := bX12_rivals_228 (hq := fin _ h2 a c (Or.inr (Or.inr (Or.inr (Or.inr (Or.inr ⟨by omega, _, n⟩)))))))
        · exact bX12_rivals_221 (kk := bX12_rivals_228 (hq := fin _ h2 a c (Or.inr (Or.inr (Or.inr (Or.inr (Or.inl ⟨w, _, n⟩)))))))
      suffices K : ∀ (d : Nat) (s b f : Int) (h2 : AH) (x3 x4 x8 : AV), 0 ≤ s → s + d = h 98 1 → (keepM h h2 ∧ h2 98 0 = 0) → enR RR h2 → h2 98 72 = N → nextR RR (EqM h sh) s b f → (0 ≤ f ∧ f ≤ 1351) → Wp mX12_rivals (kR fr 0 0) Q (0, 0) 161 [zR 98, zI sh, zI k, x3, x4, zI b, zI f, zI s, x8] [] 137 h2 by
        exact K (h 98 1).toNat 0 (-1) 0 h1 _ _ _ (by decide) (by omega) ⟨kk1, t1'⟩ en hN (Or.inl ⟨rfl, rfl, Or.inl (by decide)⟩) (by decide)
      intro d
      induction d with
      | zero =>
        intro s b f h2 x3 x4 x8 s0 hs k2 en' e72 n2 fr2
        have f1 := k2.1.2 1 (by unfold perF; omega)
        refine bX12_rivals_161 (kt := fun _ => finE b f h2 k2.1 k2.2 (by rw [show h 98 1 = s by omega]; exact n2) _ _ _ _ _ _) (kf := fun w => by omega)
      | succ d ih =>
        intro s b f h2 x3 x4 x8 s0 hs k2 en' e72 n2 fr2
        have f1 := k2.1.2 1 (by unfold perF; omega)
        refine bX12_rivals_161 (kt := fun w => by omega) (kf := fun _ => ?_)
        refine bX12_rivals_170 (kt := fun w => ?_) (kf := fun w => ?_)
        · refine finE b f h2 k2.1 k2.2 ?_ _ _ _ _ _ _
          have em := emp (by omega)
          rcases n2 with ⟨p1, p2, -⟩ | ⟨-, p2, -⟩
          · exact Or.inl ⟨p1, p2, Or.inr em⟩
          · obtain ⟨⟨y, hy, -⟩, -⟩ := p2; exact absurd hy (em y)
        have hne : ∃ y, RR y := ⟨_, en1 0 (by decide) (by omega)⟩
        refine bX12_rivals_177 (hS := m_group (by omega) hsh ho k2.1 s0 (by omega) en' hR (by omega)) (kk := ?_)
        rintro x h3 ⟨⟨⟨k3, t3⟩, en3', e3⟩, gx, x0, x1⟩
        have k3' : keepM h h3 ∧ h3 98 0 = 0 := ⟨k3, by rw [t3]; exact k2.2⟩
        have take : (∀ t f, 0 ≤ t → t < s → grpR RR (EqM h sh t) f → x < f) → ∀ x3 x4 x5 x6 : AV, Wp mX12_rivals (kR fr 0 0) Q (0, 0) 202 [zR 98, zI sh, zI k, x3, x4, x5, x6, zI s, zI x] [] 137 h3 := fun hb x3 x4 x5 x6 => by
          refine bX12_rivals_202 (kk := bX12_rivals_210 (kk := ih (s + 1) s x h3 _ _ _ (by omega) (by omega) k3' en3' (by rw [e3]; exact e72) (Or.inr ⟨by omega, gx, fun t g a b c => ?_, fun t g a b c => hb t g a b c⟩) ⟨x0, x1⟩))
          by_cases e : t = s
          · rw [e] at c
            have := gx.one c; omega
          · have := hb t g a (by omega) c; omega
        rcases id n2 with ⟨p1, p2, p3⟩ | ⟨p1, p2, p3, p4⟩
        · have s00 : s = 0 := by
            rcases p3 with p3 | p3
            · omega
            · obtain ⟨y, hy⟩ := hne; exact absurd hy (p3 y)
          exact bX12_rivals_184 (kt := fun _ => take (fun t f a b => by omega) _ _ _ _) (kf := fun w => absurd p1 w)
        · refine bX12_rivals_184 (kt := fun w => by omega) (kf := fun _ => ?_)
          refine bX12_rivals_192 (kt := fun w => take (fun t g a c e => by have := p3 t g a c e; omega) _ _ _ _) (kf := fun w => ?_)
          refine bX12_rivals_199 (kk := bX12_rivals_210 (kk := ih (s + 1) b f h3 _ _ _ (by omega) (by omega) k3' en3' (by rw [e3]; exact e72) (Or.inr ⟨by omega, p2, fun t g a c e => ?_, p4⟩) fr2))
          by_cases c2 : t = s
          · rw [c2] at e
            have := gx.one e; omega
          · exact p3 t g a (by omega) e
  suffices S : ∀ (su : Int), ((N = 0 ∧ su = 0) ∨ (0 < N ∧ su = 1048575)) → Wp mX12_rivals (kR fr 0 0) Q (0, 0) 55 [zR 98, zI sh, zI k, none, none, none, none, none, none] [zI su] 137 h1 by
    refine bX12_rivals_41 (kt := fun w => ?_) (kf := fun w => ?_)
    · exact bX12_rivals_52 (kk := S 1048575 (Or.inr ⟨by omega, rfl⟩))
    · exact bX12_rivals_48 (kk := S 0 (Or.inl ⟨by omega, rfl⟩))
  intro su hsu
  refine bX12_rivals_55 (kk := ?_)
  have full : ∀ j : Nat, bt 1048575 j = true ↔ j < 20 := fun j => by
    unfold bt
    rw [show (1048575 : Int).toNat = 2 ^ 20 - 1 by rfl, Nat.testBit_two_pow_sub_one]
    exact decide_eq_true_iff
  suffices K : ∀ (d : Nat) (r su po : Int) (x6 x7 x8 : AV), 0 ≤ r → r + d = N → m20 su → m20 po → (N = 0 → su = 0) → (0 < N → ∀ j : Nat, bt su j = true ↔ (j < 20 ∧ ∀ i, 0 ≤ i → i < r → bt (h1 125 i) j = true)) → (∀ j : Nat, bt po j = true ↔ ∃ i, (0 ≤ i ∧ i < r) ∧ bt (h1 125 i) j = true) → Wp mX12_rivals (kR fr 0 0) Q (0, 0) 62 [zR 98, zI sh, zI k, zI su, zI po, zI r, x6, x7, x8] [] 137 h1 by
    refine K N.toNat 0 su 0 _ _ _ (by decide) (by omega) (by rcases hsu with ⟨-, e⟩ | ⟨-, e⟩ <;> rw [e] <;> constructor <;> decide) (by constructor <;> decide) (fun e => by omega) (fun e j => ?_) (fun j => ?_)
    · rw [show su = 1048575 by omega, full]
      exact ⟨fun z => ⟨z, fun i a b => by omega⟩, fun z => z.1⟩
    · rw [bt_zero]
      refine ⟨fun z => absurd z (by decide), fun z => ?_⟩
      obtain ⟨i, p, -⟩ := z
      omega
  intro d
  induction d with
  | zero =>
    intro r su po x6 x7 x8 r0 hr msu mpo z0 zs zp
    refine bX12_rivals_62 (kt := fun _ => rest su po ?_ ⟨mpo, fun j => ?_⟩ _ _ _ _) (kf := fun w => by omega)
    · by_cases e : N = 0
      · exact Or.inl ⟨emp e, z0 e⟩
      · have hne : RR (h1 125 0) := en1 0 (by decide) (by omega)
        refine Or.inr ⟨⟨_, hne⟩, msu, fun j => ?_⟩
        rw [zs (by omega) j]
        constructor
        · rintro ⟨-, a⟩ y hy
          obtain ⟨i, p, e⟩ := en3 y hy
          rw [← e]; exact a i p.1 (by omega)
        · intro a
          exact ⟨bit_lt20 (hR _ hne) (a _ hne), fun i p q => a _ (en1 i p (by omega))⟩
    · rw [zp j]
      constructor
      · rintro ⟨i, p, q⟩
        exact ⟨_, en1 i p.1 (by omega), q⟩
      · rintro ⟨y, hy, q⟩
        obtain ⟨i, p, e⟩ := en3 y hy
        exact ⟨i, by omega, by rw [e]; exact q⟩
  | succ d ih =>
    intro r su po x6 x7 x8 r0 hr msu mpo z0 zs zp
    have mr := hR _ (en1 r r0 (by omega))
    obtain ⟨a1, a2⟩ := and20 msu mr
    obtain ⟨o1, o2⟩ := or20 mpo mr
    refine bX12_rivals_62 (kt := fun w => by omega) (kf := fun _ => ?_)
    refine bX12_rivals_71 (kk := ih (r + 1) _ _ _ _ _ (by omega) (by omega) a1 o1 (fun e => by omega) (fun e j => ?_) (fun j => ?_))
    · rw [a2, Bool.and_eq_true, zs e j]
      constructor
      · rintro ⟨⟨p, q⟩, w⟩
        refine ⟨p, fun i a b => ?_⟩
        by_cases c : i = r
        · rw [c]; exact w
        · exact q i a (by omega)
      · rintro ⟨p, q⟩
        exact ⟨⟨p, fun i a b => q i a (by omega)⟩, q r r0 (by omega)⟩
    · rw [o2, Bool.or_eq_true, zp j]
      constructor
      · rintro (⟨i, p, q⟩ | q)
        · exact ⟨i, by omega, q⟩
        · exact ⟨r, by omega, q⟩
      · rintro ⟨i, p, q⟩
        by_cases c : i = r
        · rw [c] at q; exact Or.inr q
        · exact Or.inl ⟨i, by omega, q⟩
