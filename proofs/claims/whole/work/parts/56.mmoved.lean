/-! ===== the model: moved ===== -/
theorem sg_split (f : Nat → Int) (m : Nat) : ∀ n, sg f (m + n) = sg f m + sg (fun i => f (m + i)) n
  | 0 => by rw [Nat.add_zero, sg, Int.add_zero]
  | n + 1 => by
    rw [← Nat.add_assoc, sg, sg_split f m n, sg]
    omega
theorem sg_grid (f : Nat → Int) (w : Nat) : ∀ n, sg f (n * w) = sg (fun y => sg (fun x => f (y * w + x)) w) n
  | 0 => by rw [Nat.zero_mul, sg, sg]
  | n + 1 => by rw [Nat.succ_mul, sg_split, sg_grid f w n, sg]
def nearF (Q : Nat → Bool) (st : Int) (k : Nat) : Nat → Int := fun l => if Q l = true ∧ ad ((k : Int) % 31 - (l : Int) % 31) + ad ((k : Int) / 31 - (l : Int) / 31) ≤ st then 1 else 0
def coupF (P Q : Nat → Bool) (st : Int) : Nat → Int := fun k => if P k = true then sg (nearF Q st k) 961 else 0
/-- both ways of counting -/
theorem coup_eq (X Y : Int → Int) (a b c d st : Int) : sg (coupF (plc X Y a b) (plc X Y c d) st) 961 = coup (mat X Y a b) (mat X Y c d) st := by
  rw [show 961 = 31 * 31 from rfl, sg_grid]
  unfold coup
  refine sg_cong (fun y hy => sg_cong (fun x hx => ?_))
  have ex : (((y * 31 + x : Nat)) : Int) % 31 = x := by omega
  have ey : (((y * 31 + x : Nat)) : Int) / 31 = y := by omega
  unfold coupF coupRow
  rw [show plc X Y a b (y * 31 + x) = mat X Y a b x y from by unfold plc; rw [ex, ey]]
  have key : sg (nearF (plc X Y c d) st (y * 31 + x)) 961 = nearAll (mat X Y c d) st x y := by
    rw [show 961 = 31 * 31 from rfl, sg_grid]
    unfold nearAll nearRow
    refine sg_cong (fun v hv => sg_cong (fun u hu => ?_))
    have eu : (((v * 31 + u : Nat)) : Int) % 31 = u := by omega
    have ev : (((v * 31 + u : Nat)) : Int) / 31 = v := by omega
    unfold nearF
    rw [show plc X Y c d (v * 31 + u) = mat X Y c d u v from by unfold plc; rw [eu, ev], ex, ey, eu, ev]
  rw [key]
theorem m_moved {fr : Nat} {a b c d st : Int} {h : AH} (hf : 2 ≤ fr) (ra : R32 a) (rb : R32 b) (rc : R32 c) (rd : R32 d) (rs : R32 st) (hi : ∀ j, 0 ≤ j → j < 6 → 0 ≤ h 128 j ∧ h 128 j ≤ 30) : Sp mX12_moved true fr 0 0 [zR 98, zI a, zI b, zI c, zI d, zI st] 137 h (rI (fun x h' => ((0 ≤ st ∧ st ≤ 60) ∧ x = sg (coupF (plc (fun e => h 128 (2 * e)) (fun e => h 128 (2 * e + 1)) a b) (plc (fun e => h 128 (2 * e)) (fun e => h 128 (2 * e + 1)) c d) st) 961 ∧ ∀ c, c ≠ 129 → c ≠ 130 → h' c = up h 98 0 0 c) ∨ (¬ (0 ≤ st ∧ st ≤ 60) ∧ h' = up h 98 0 1))) := by
  refine Sp.mk yX12_moved_ok rfl rfl ?_
  obtain ⟨rs1, rs2⟩ := id rs
  have e0 : up h 98 0 0 98 0 = 0 := rfl
  have e128 : up h 98 0 0 128 = h 128 := up_n (by decide)
  generalize hP : plc (fun e => h 128 (2 * e)) (fun e => h 128 (2 * e + 1)) a b = P at *
  generalize hQ : plc (fun e => h 128 (2 * e)) (fun e => h 128 (2 * e + 1)) c d = Q at *
  refine bX12_moved_0 (hS := m_within rs R32_0 (by constructor <;> decide)) (kk := ?_)
  rintro x h1 ⟨e1, z⟩
  rw [e1]; clear e1 h1
  refine bX12_moved_14 (hS := m_right (by rcases z with ⟨rfl, -⟩ | ⟨rfl, -⟩ <;> constructor <;> decide) R32_1 (by decide) (by rw [e0]; exact R32_0)) (kk := ?_)
  rintro y h1 (⟨-, w, rfl, rfl⟩ | ⟨-, w, rfl, rfl⟩ | ⟨w, -⟩)
  rotate_left
  · refine bX12_moved_18 (kt := fun w => absurd rfl w) (kf := fun _ => bX12_moved_21 (hq := ⟨_, rfl, rfl, Or.inr ⟨by omega, up_up _ _ _ _ _⟩⟩))
  · exact absurd e0 w
  have hst : 0 ≤ st ∧ st ≤ 60 := by omega
  refine bX12_moved_18 (kt := fun _ => ?_) (kf := fun w => absurd w (by decide))
  refine bX12_moved_23 (kk := ?_)
  -- the pairs
  have L : ∀ h1 : AH, (∀ c, c ≠ 129 → c ≠ 130 → h1 c = up h 98 0 0 c) → (∀ k : Nat, k < 961 → (h1 129 k = if P k = true then 1 else 0) ∧ h1 130 k = if Q k = true then 1 else 0) → ∀ (dk k : Nat) (n : Int) (x1 x2 x3 x4 x8 x9 x10 : AV), k + dk = 961 → n = sg (coupF P Q st) k → Wp mX12_moved (kR fr 0 0) (rI (fun x h' => ((0 ≤ st ∧ st ≤ 60) ∧ x = sg (coupF P Q st) 961 ∧ ∀ c, c ≠ 129 → c ≠ 130 → h' c = up h 98 0 0 c) ∨ (¬ (0 ≤ st ∧ st ≤ 60) ∧ h' = up h 98 0 1))) (0, 0) 77 [zR 98, x1, x2, x3, x4, zI st, zI n, zI k, x8, x9, x10] [] 137 h1 := by
    intro h1 hc hb dk
    induction dk with
    | zero =>
      intro k n x1 x2 x3 x4 x8 x9 x10 hk hn
      refine bX12_moved_77 (kt := fun q => ?_) (kf := fun q => by omega)
      exact bX12_moved_202 (hq := ⟨_, rfl, rfl, Or.inl ⟨hst, by rw [hn, show k = 961 by omega], hc⟩⟩)
    | succ dk ih =>
      intro k n x1 x2 x3 x4 x8 x9 x10 hk hn
      refine bX12_moved_77 (kt := fun q => by omega) (kf := fun q => ?_)
      obtain ⟨b1, -⟩ := hb k (by omega)
      refine bX12_moved_85 (r2 := by rw [b1]; split <;> decide) (kt := fun q2 => ?_) (kf := fun q2 => ?_)
      rotate_left
      · have hp : ¬ P k = true := fun z => by rw [b1, if_pos z] at q2; omega
        exact bX12_moved_95 (kk := bX12_moved_196 (kk := ih (k + 1) n _ _ _ _ _ _ _ (by omega) (by rw [sg, hn, show coupF P Q st k = 0 from if_neg hp, Int.add_zero])))
      have hp : P k = true := by
        by_cases c : P k = true
        · exact c
        · rw [b1, if_neg c] at q2; exact absurd rfl q2
      refine bX12_moved_98 (kk := ?_)
      suffices K : ∀ (dl l : Nat) (m : Int) (x1 x2 x3 x4 x9 x10 : AV), l + dl = 961 → m = n + sg (nearF Q st k) l → Wp mX12_moved (kR fr 0 0) (rI (fun x h' => ((0 ≤ st ∧ st ≤ 60) ∧ x = sg (coupF P Q st) 961 ∧ ∀ c, c ≠ 129 → c ≠ 130 → h' c = up h 98 0 0 c) ∨ (¬ (0 ≤ st ∧ st ≤ 60) ∧ h' = up h 98 0 1))) (0, 0) 101 [zR 98, x1, x2, x3, x4, zI st, zI m, zI k, zI l, x9, x10] [] 137 h1 by
        exact K 961 0 n _ _ _ _ _ _ (by omega) (by show n = n + 0; omega)
      intro dl
      induction dl with
      | zero =>
        intro l m x1 x2 x3 x4 x9 x10 hl hm
        refine bX12_moved_101 (kt := fun _ => ?_) (kf := fun w => by omega)
        refine bX12_moved_196 (kk := ih (k + 1) m _ _ _ _ _ _ _ (by omega) ?_)
        rw [sg, ← hn, show coupF P Q st k = sg (nearF Q st k) 961 from if_pos hp, hm, show l = 961 by omega]
      | succ dl ihl =>
        intro l m x1 x2 x3 x4 x9 x10 hl hm
        refine bX12_moved_101 (kt := fun w => by omega) (kf := fun _ => ?_)
        obtain ⟨-, b2⟩ := hb l (by omega)
        refine bX12_moved_109 (r2 := by rw [b2]; split <;> decide) (kt := fun q3 => ?_) (kf := fun q3 => ?_)
        rotate_left
        · have hq : ¬ Q l = true := fun z => by rw [b2, if_pos z] at q3; omega
          exact bX12_moved_119 (kk := bX12_moved_190 (kk := ihl (l + 1) m _ _ _ _ _ _ (by omega) (by rw [sg, hm, show nearF Q st k l = 0 from if_neg (fun z => hq z.1), Int.add_zero])))
        have hq : Q l = true := by
          by_cases c : Q l = true
          · exact c
          · rw [b2, if_neg c] at q3; exact absurd rfl q3
        have fin : ∀ (u v : Int) (x1 x2 x3 x4 x6 x9 x10 : AV), u = ad ((k : Int) % 31 - (l : Int) % 31) → v = ad ((k : Int) / 31 - (l : Int) / 31) → Wp mX12_moved (kR fr 0 0) (rI (fun x h' => ((0 ≤ st ∧ st ≤ 60) ∧ x = sg (coupF P Q st) 961 ∧ ∀ c, c ≠ 129 → c ≠ 130 → h' c = up h 98 0 0 c) ∨ (¬ (0 ≤ st ∧ st ≤ 60) ∧ h' = up h 98 0 1))) (0, 0) 176 [zR 98, x1, x2, x3, x4, zI st, x6, zI k, zI l, x9, x10] [zI v, zI u, zI m] 137 h1 := by
          intro u v x1 x2 x3 x4 x6 x9 x10 hu hv
          have ru : 0 ≤ u ∧ u ≤ 31 := by rw [hu]; unfold ad; split <;> omega
          have rv : 0 ≤ v ∧ v ≤ 31 := by rw [hv]; unfold ad; split <;> omega
          refine bX12_moved_176 (kt := fun q4 => ?_) (kf := fun q4 => ?_)
          · refine bX12_moved_186 (kk := bX12_moved_187 (kk := bX12_moved_190 (kk := ihl (l + 1) _ _ _ _ _ _ _ (by omega) ?_)))
            rw [sg, hm, show nearF Q st k l = 0 from if_neg (fun z => by omega)]
            omega
          · refine bX12_moved_182 (kk := bX12_moved_187 (kk := bX12_moved_190 (kk := ihl (l + 1) _ _ _ _ _ _ _ (by omega) ?_)))
            rw [sg, hm, show nearF Q st k l = 1 from if_pos ⟨hq, by omega⟩]
            omega
        have mid : ∀ (u : Int) (x1 x2 x3 x4 x6 x9 : AV), u = ad ((k : Int) % 31 - (l : Int) % 31) → Wp mX12_moved (kR fr 0 0) (rI (fun x h' => ((0 ≤ st ∧ st ≤ 60) ∧ x = sg (coupF P Q st) 961 ∧ ∀ c, c ≠ 129 → c ≠ 130 → h' c = up h 98 0 0 c) ∨ (¬ (0 ≤ st ∧ st ≤ 60) ∧ h' = up h 98 0 1))) (0, 0) 163 [zR 98, x1, x2, x3, x4, zI st, x6, zI k, zI l, x9, zI ((k : Int) / 31 - (l : Int) / 31)] [zI u, zI m] 137 h1 := by
          intro u x1 x2 x3 x4 x6 x9 hu
          refine bX12_moved_163 (kt := fun q4 => ?_) (kf := fun q4 => ?_)
          · exact bX12_moved_174 (kk := fin _ _ _ _ _ _ _ _ _ hu (by unfold ad; rw [if_pos q4]))
          · exact bX12_moved_168 (kk := fin _ _ _ _ _ _ _ _ _ hu (by unfold ad; rw [if_neg (by omega)]))
        refine bX12_moved_122 (kt := fun q4 => ?_) (kf := fun q4 => ?_)
        · exact bX12_moved_161 (kk := mid _ _ _ _ _ _ _ (by unfold ad; rw [if_pos q4]))
        · exact bX12_moved_155 (kk := mid _ _ _ _ _ _ _ (by unfold ad; rw [if_neg (by omega)]))
  suffices H : ∀ (dk k : Nat) (h1 : AH) (x7 x8 x9 x10 : AV), k + dk = 961 → (∀ c, c ≠ 129 → c ≠ 130 → h1 c = up h 98 0 0 c) → (∀ j : Nat, j < k → (h1 129 j = if P j = true then 1 else 0) ∧ h1 130 j = if Q j = true then 1 else 0) → Wp mX12_moved (kR fr 0 0) (rI (fun x h' => ((0 ≤ st ∧ st ≤ 60) ∧ x = sg (coupF P Q st) 961 ∧ ∀ c, c ≠ 129 → c ≠ 130 → h' c = up h 98 0 0 c) ∨ (¬ (0 ≤ st ∧ st ≤ 60) ∧ h' = up h 98 0 1))) (0, 0) 26 [zR 98, zI a, zI b, zI c, zI d, zI st, zI k, x7, x8, x9, x10] [] 137 h1 by
    exact H 961 0 _ _ _ _ _ (by omega) (fun _ _ _ => rfl) (fun j hj => by omega)
  intro dk
  induction dk with
  | zero =>
    intro k h1 x7 x8 x9 x10 hk hc hb
    refine bX12_moved_26 (kt := fun _ => ?_) (kf := fun w => by omega)
    exact bX12_moved_71 (kk := L h1 hc (fun j hj => hb j (by omega)) 961 0 0 _ _ _ _ _ _ _ (by omega) rfl)
  | succ dk ih =>
    intro k h1 x7 x8 x9 x10 hk hc hb
    refine bX12_moved_26 (kt := fun w => by omega) (kf := fun q => ?_)
    have g128 : h1 128 = h 128 := by rw [hc 128 (by decide) (by decide), e128]
    refine bX12_moved_34 (hS := m_matches (by omega) q ra rb (by rw [g128]; exact hi)) (kk := ?_)
    rintro r h2 ⟨e1, hr1⟩
    rw [e1]; clear e1 h2
    rw [g128, hP] at hr1
    have g128b : up h1 129 k r 128 = h 128 := by rw [up_n (by decide), g128]
    refine bX12_moved_48 (c1 := e129) (r2 := by rw [hr1]; split <;> omega) (hS := m_matches (by omega) q rc rd (by rw [g128b]; exact hi)) (kk := ?_)
    rintro r2 h2 ⟨e1, hr2⟩
    rw [e1]; clear e1 h2
    rw [g128b, hQ] at hr2
    refine bX12_moved_64 (c1 := e130) (r2 := by rw [hr2]; split <;> omega) (kk := ih (k + 1) _ _ _ _ _ (by omega) (fun c p1 p2 => by rw [up_n p2, up_n p1, hc c p1 p2]) (fun j hj => ?_))
    by_cases e : j = k
    · subst e
      exact ⟨by rw [up_n (by decide), up_ci, hr1], by rw [up_ci, hr2]⟩
    · exact ⟨by rw [up_n (by decide), up_cn (by omega)]; exact (hb j (by omega)).1, by rw [up_cn (by omega), up_n (by decide)]; exact (hb j (by omega)).2⟩
