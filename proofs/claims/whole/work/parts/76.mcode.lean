/-! ===== the model: code ===== -/
def upTo (T : Int → Int) (N b n t : Int) : Prop := (0 ≤ b ∧ b < N) ∧ ind T b ∧ n = pop16 b ∧ t = sumM b ∧ ∀ y, 0 ≤ y → y < N → ind T y → leB y b
theorem and_zero16 {x y : Int} (hx : m16 x) (hy : m16 y) : bAnd x y = 0 ↔ ∀ j, bt y j = true → bt x j = false := by
  obtain ⟨w1, w2⟩ := and16 hx hy
  rw [zero16 w1]
  constructor
  · intro h j z
    have := h j
    rw [w2, z, Bool.and_true] at this
    exact this
  · intro h j
    rw [w2]
    cases e : bt y j with
    | false => rw [Bool.and_false]
    | true => rw [h j e, Bool.false_and]
abbrev cntS (x : Int) (g : Nat) : Int := cnt (fun j => bt x j) g
abbrev sumS (x : Int) (g : Nat) : Int := sg (fun j : Nat => if bt x j = true then (j : Int) + 2 else 0) g
theorem m_code {fr : Nat} {s k : Int} {h : AH} (hf : 3 ≤ fr) (rs : R32 s) (rk : R32 k) (ho : okM h) :
    Sp mX12_code true fr 0 0 [zR 98, zI s, zI k] 137 h (rI (fun x h' => keepM h h' ∧ ((((0 ≤ s ∧ s < h 98 1) ∧ 0 ≤ k ∧ k < 18) ∧ h' 98 0 = 0 ∧ codeR (gapH (ampR h) (h 98 1) (h 98 5) (h 98 6) (h 98 7) s) k x) ∨ (¬ ((0 ≤ s ∧ s < h 98 1) ∧ 0 ≤ k ∧ k < 18) ∧ h' 98 0 = 1)))) := by
  refine Sp.mk yX12_code_ok rfl rfl ?_
  obtain ⟨rk1, rk2⟩ := id rk
  have e0 : up h 98 0 0 98 0 = 0 := rfl
  have kp : keepM h (up h 98 0 0) := keepM.up98 (by unfold perF; omega)
  have ho1 := ho.keep kp
  have hS : 0 ≤ h 98 1 ∧ h 98 1 ≤ 8 := ho.1.1
  have e1 : up h 98 0 0 98 1 = h 98 1 := rfl
  refine bX12_code_0 (hS := m_isSound (by omega) rs hS e0) (kk := ?_)
  rintro x h1 (⟨hs, rfl, e⟩ | ⟨hs, rfl, e⟩)
  rotate_left
  · rw [e]; clear e h1
    refine bX12_code_10 (kt := fun _ => bX12_code_28 (hq := ⟨_, rfl, rfl, kp.tr (keepM.up98 (by unfold perF; omega)), Or.inr ⟨fun w => hs (by rw [e1]; exact w.1), rfl⟩⟩)) (kf := fun z => absurd rfl z)
  rw [e]; clear e h1
  rw [e1] at hs
  refine bX12_code_10 (kt := fun z => by omega) (kf := fun _ => ?_)
  refine bX12_code_13 (hS := m_within rk R32_0 (by constructor <;> decide)) (kk := ?_)
  rintro x h1 ⟨e, z⟩
  rw [e]; clear e h1
  refine bX12_code_21 (hS := m_right (by rcases z with ⟨rfl, -⟩ | ⟨rfl, -⟩ <;> constructor <;> decide) R32_1 (by decide) (by rw [e0]; exact R32_0)) (kk := ?_)
  rintro y h1 (⟨-, w, rfl, rfl⟩ | ⟨-, w, rfl, rfl⟩ | ⟨w, -⟩)
  rotate_left
  · refine bX12_code_25 (kt := fun w => absurd rfl w) (kf := fun _ => bX12_code_28 (hq := ⟨_, rfl, rfl, kp.tr (keepM.up98 (by unfold perF; omega)), Or.inr ⟨by omega, rfl⟩⟩))
  · exact absurd e0 w
  have hk : 0 ≤ k ∧ k < 18 := by omega
  refine bX12_code_25 (kt := fun _ => ?_) (kf := fun w => absurd w (by decide))
  refine bX12_code_30 (hS := m_falls (by omega) ho1 hs.1 hs.2) (kk := ?_)
  rintro h1 ⟨⟨k1, t1⟩, tg⟩
  have eA : ampR (up h 98 0 0) = ampR h := by unfold ampR; rw [kp.dM, kp.1 104 (by unfold perC; omega)]
  rw [eA] at tg
  change togP (gapH (ampR h) (h 98 1) (h 98 5) (h 98 6) (h 98 7) s) 16 (fun a => h1 131 a) at tg
  have kk1 := kp.tr k1
  have al : (0 ≤ s ∧ s < h 98 1) ∧ 0 ≤ k ∧ k < 18 := ⟨hs, hk⟩
  refine bX12_code_35 (kt := fun q => ?_) (kf := fun q => ?_)
  rotate_left
  · exact bX12_code_40 (hq := ⟨_, rfl, rfl, kk1, Or.inl ⟨al, t1, ⟨_, tg, Or.inl ⟨q, rfl⟩⟩⟩⟩)
  have mT : ∀ a : Nat, a < 16 → m16 (h1 131 a) := fun a ha => (tg a ha).1
  generalize hT : (fun a => h1 131 a) = T at tg
  have eT : ∀ a, h1 131 a = T a := fun a => by rw [← hT]
  refine bX12_code_49 (kk := ?_)
  suffices H : ∀ (d : Nat) (N b n t : Int) (x1 x7 x8 x9 x10 : AV), 1 ≤ N → N + d = 65536 → upTo T N b n t → Wp mX12_code (kR fr 0 0) (rI (fun x h' => keepM h h' ∧ ((((0 ≤ s ∧ s < h 98 1) ∧ 0 ≤ k ∧ k < 18) ∧ h' 98 0 = 0 ∧ codeR (gapH (ampR h) (h 98 1) (h 98 5) (h 98 6) (h 98 7) s) k x) ∨ (¬ ((0 ≤ s ∧ s < h 98 1) ∧ 0 ≤ k ∧ k < 18) ∧ h' 98 0 = 1)))) (0, 0) 60 [zR 98, x1, zI k, zI b, zI n, zI t, zI N, x7, x8, x9, x10] [] 137 h1 by
    refine H 65535 1 0 0 0 _ _ _ _ _ (by decide) (by decide) ⟨by decide, fun a b p => (by rw [bt_zero] at p; cases p), by decide, by decide, fun y a b _ => ?_⟩
    rw [show y = 0 by omega]; exact leB.rf _
  intro d
  induction d with
  | zero =>
    intro N b n t x1 x7 x8 x9 x10 N1 hN hu
    obtain ⟨u1, u2, u3, u4, u5⟩ := hu
    have hb : bestR T b := ⟨⟨u1.1, by omega⟩, u2, fun y hy iy => u5 y hy.1 (by have := hy.2; omega) iy⟩
    refine bX12_code_60 (kt := fun _ => ?_) (kf := fun q => by omega)
    refine bX12_code_189 (kt := fun q2 => ?_) (kf := fun q2 => ?_)
    · exact bX12_code_198 (kk := bX12_code_199 (hq := ⟨_, rfl, rfl, kk1, Or.inl ⟨al, t1, ⟨T, tg, Or.inr ⟨b, hb, Or.inr ⟨by omega, rfl⟩⟩⟩⟩⟩))
    · exact bX12_code_193 (kk := bX12_code_199 (hq := ⟨_, rfl, rfl, kk1, Or.inl ⟨al, t1, ⟨T, tg, Or.inr ⟨b, hb, Or.inl ⟨q2, u3⟩⟩⟩⟩⟩))
  | succ d ih =>
    intro N b n t x1 x7 x8 x9 x10 N1 hN hu
    obtain ⟨u1, u2, u3, u4, u5⟩ := id hu
    have mN : m16 N := ⟨by omega, by omega⟩
    have pb := pop16_rng b
    have sb := sumM_rng b
    have pN := pop16_rng N
    have sN := sumM_rng N
    refine bX12_code_60 (kt := fun q => by omega) (kf := fun _ => ?_)
    refine bX12_code_68 (kk := ?_)
    have next : ∀ (b n t : Int) (x7 x8 x9 x10 : AV), upTo T (N + 1) b n t → Wp mX12_code (kR fr 0 0) (rI (fun x h' => keepM h h' ∧ ((((0 ≤ s ∧ s < h 98 1) ∧ 0 ≤ k ∧ k < 18) ∧ h' 98 0 = 0 ∧ codeR (gapH (ampR h) (h 98 1) (h 98 5) (h 98 6) (h 98 7) s) k x) ∨ (¬ ((0 ≤ s ∧ s < h 98 1) ∧ 0 ≤ k ∧ k < 18) ∧ h' 98 0 = 1)))) (0, 0) 183 [zR 98, none, zI k, zI b, zI n, zI t, zI N, x7, x8, x9, x10] [] 137 h1 :=
      fun b n t x7 x8 x9 x10 hu2 => bX12_code_183 (kk := ih (N + 1) b n t _ _ _ _ _ (by omega) (by omega) hu2)
    have stay : (ind T N → leB N b) → upTo T (N + 1) b n t := fun hl => ⟨⟨u1.1, by omega⟩, u2, u3, u4, fun y a c iy => by
      by_cases e : y = N
      · rw [e] at iy ⊢; exact hl iy
      · exact u5 y a (by omega) iy⟩
    have take : ind T N → leB b N → upTo T (N + 1) N (pop16 N) (sumM N) := fun iN hl => ⟨⟨by omega, by omega⟩, iN, rfl, rfl, fun y a c iy => by
      by_cases e : y = N
      · rw [e]; exact leB.rf _
      · exact leB.tr (u5 y a (by omega) iy) hl⟩
    suffices K : ∀ (dg g : Nat) (c7 c8 c9 : Int) (x1 : AV), g + dg = 16 → ((c9 = 1 ∧ c7 = cntS N g ∧ c8 = sumS N g ∧ ∀ a : Nat, a < g → bt N a = true → ∀ j, bt N j = true → bt (T a) j = false) ∨ (c9 = 0 ∧ ¬ ind T N)) → Wp mX12_code (kR fr 0 0) (rI (fun x h' => keepM h h' ∧ ((((0 ≤ s ∧ s < h 98 1) ∧ 0 ≤ k ∧ k < 18) ∧ h' 98 0 = 0 ∧ codeR (gapH (ampR h) (h 98 1) (h 98 5) (h 98 6) (h 98 7) s) k x) ∨ (¬ ((0 ≤ s ∧ s < h 98 1) ∧ 0 ≤ k ∧ k < 18) ∧ h' 98 0 = 1)))) (0, 0) 80 [zR 98, x1, zI k, zI b, zI n, zI t, zI N, zI c7, zI c8, zI c9, zI g] [] 137 h1 by
      exact K 16 0 0 0 1 _ (by omega) (Or.inl ⟨rfl, rfl, rfl, fun a ha => by omega⟩)
    intro dg
    induction dg with
    | zero =>
      intro g c7 c8 c9 x1 hg hc
      refine bX12_code_80 (kt := fun _ => ?_) (kf := fun q => by omega)
      rcases hc with ⟨rfl, hc7, hc8, hall⟩ | ⟨rfl, hni⟩
      · have g16 : g = 16 := by omega
        rw [g16] at hc7 hc8 hall
        have iN : ind T N := fun a b p r => hall a (bit_lt mN p) p b r
        have hc7 : c7 = pop16 N := hc7
        have hc8 : c8 = sumM N := hc8
        refine bX12_code_143 (kt := fun z => by omega) (kf := fun _ => ?_)
        rw [hc7, hc8]
        refine bX12_code_148 (kt := fun q2 => next _ _ _ _ _ _ _ (stay (fun _ => by unfold leB; omega))) (kf := fun q2 => ?_)
        refine bX12_code_155 (kt := fun q3 => bX12_code_172 (kk := next _ _ _ _ _ _ _ (take iN (by unfold leB; omega)))) (kf := fun q3 => ?_)
        refine bX12_code_162 (kt := fun q4 => bX12_code_172 (kk := next _ _ _ _ _ _ _ (take iN (by unfold leB; omega)))) (kf := fun q4 => ?_)
        exact bX12_code_169 (kk := next _ _ _ _ _ _ _ (stay (fun _ => by unfold leB; omega)))
      · exact bX12_code_143 (kt := fun _ => next _ _ _ _ _ _ _ (stay (fun z => absurd z hni))) (kf := fun z => absurd rfl z)
    | succ dg ihg =>
      intro g c7 c8 c9 x1 hg hc
      refine bX12_code_80 (kt := fun q => by omega) (kf := fun _ => ?_)
      rcases hc with ⟨rfl, hc7, hc8, hall⟩ | ⟨rfl, hni⟩
      rotate_left
      · refine bX12_code_87 (kt := fun _ => ?_) (kf := fun z => absurd rfl z)
        exact bX12_code_143 (kt := fun _ => next _ _ _ _ _ _ _ (stay (fun z => absurd z hni))) (kf := fun z => absurd rfl z)
      refine bX12_code_87 (kt := fun z => by omega) (kf := fun _ => ?_)
      have el := bit_look (x := N) (s := (g : Int)) mN.1 (by omega)
      have nc : cntS N (g + 1) = cntS N g + if bt N g = true then 1 else 0 := rfl
      have ns : sumS N (g + 1) = sumS N g + if bt N g = true then (g : Int) + 2 else 0 := rfl
      refine bX12_code_92 (r3 := bAnd_R _ _) (kt := fun q => ?_) (kf := fun q => ?_)
      · rw [el] at q
        have hb : bt N g = true := by
          by_cases c : bt N (g : Int).toNat = true
          · rw [Int.toNat_natCast] at c; exact c
          · rw [if_neg c] at q; exact absurd rfl q
        rw [if_pos hb] at nc ns
        have az := and_zero16 (mT g (by omega)) mN
        rw [eT] at az
        refine bX12_code_105 (r2 := bAnd_R _ _) (kt := fun q2 => ?_) (kf := fun q2 => ?_)
        · rw [eT] at q2
          refine bX12_code_134 (kk := bX12_code_135 (kk := bX12_code_137 (kk := ihg (g + 1) _ _ 0 _ (by omega) (Or.inr ⟨rfl, fun iN => q2 (az.mpr (fun j z => iN g j hb z))⟩))))
        · rw [eT] at q2
          refine bX12_code_130 (kk := bX12_code_135 (kk := bX12_code_137 (kk := ihg (g + 1) _ _ 1 _ (by omega) (Or.inl ⟨rfl, by rw [nc, hc7], by rw [ns, hc8], fun a ha p j r => ?_⟩))))
          by_cases e : a = g
          · rw [e]; exact az.mp q2 j r
          · exact hall a (by omega) p j r
      · rw [el] at q
        have hb : ¬ bt N g = true := fun c => by
          rw [Int.toNat_natCast, if_pos c] at q; omega
        rw [if_neg hb, Int.add_zero] at nc ns
        refine bX12_code_102 (kk := bX12_code_137 (kk := ihg (g + 1) _ _ 1 _ (by omega) (Or.inl ⟨rfl, by rw [nc, hc7], by rw [ns, hc8], fun a ha p j r => ?_⟩)))
        by_cases e : a = g
        · rw [e] at p; exact absurd p hb
        · exact hall a (by omega) p j r
