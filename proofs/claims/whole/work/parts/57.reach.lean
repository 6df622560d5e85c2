/-! ===== the class: longest, canReach ===== -/
theorem c_longest {fr : Nat} {o : Int} {h : AH} (ho : isO o) (hw : ways h o) : Sp mX7_longest true fr 0 0 [zR o] 137 h (rI (fun x h' => h' = h ∧ ((h o 2 = 0 ∧ x = 0) ∨ (0 < h o 2 ∧ x = h (o + 1) (h o 2 - 1))))) := by
  refine Sp.mk yX7_longest_ok rfl rfl ?_
  have co := ho.cel
  have hm := hw.1
  refine bX7_longest_0 (kt := fun q => ?_) (kf := fun q => ?_)
  · exact bX7_longest_21 (kk := bX7_longest_22 (hq := ⟨_, rfl, rfl, rfl, Or.inl ⟨by omega, rfl⟩⟩))
  · exact bX7_longest_7 (kk := bX7_longest_22 (hq := ⟨_, rfl, rfl, rfl, Or.inr ⟨q, rfl⟩⟩))
/-- all later returns of a sound, together -/
def laterF (h : AH) (o s : Int) : Nat → Int := fun i => if 0 < h (o + 1) i then h (o + 2) ((i : Int) * 8 + s) else 0
def canR (h : AH) (o least : Int) : Prop := ∃ s, 0 ≤ s ∧ s < 8 ∧ least ≤ sg (laterF h o s) (h o 2).toNat
theorem c_canReach {fr : Nat} {o least : Int} {h : AH} (ho : isO o) (hw : ways h o) (hl : R32 least) (hr : ∀ i s, 0 ≤ i → i < h o 2 → 0 ≤ s → s < 8 → 0 ≤ h (o + 2) (i * 8 + s) ∧ h (o + 2) (i * 8 + s) ≤ 1881) : Sp mX7_canReach true fr 0 0 [zR o, zI least] 137 h (rI (fun x h' => h' = h ∧ ((x = 1 ∧ canR h o least) ∨ (x = 0 ∧ ¬ canR h o least)))) := by
  refine Sp.mk yX7_canReach_ok rfl rfl ?_
  have co := ho.cel
  obtain ⟨hm, -, hin⟩ := hw
  obtain ⟨hl1, hl2⟩ := hl
  refine bX7_canReach_0 (kk := ?_)
  suffices H : ∀ (d s : Nat) (x3 x4 : AV), s + d = 8 → (∀ s' : Int, 0 ≤ s' → s' < s → ¬ least ≤ sg (laterF h o s') (h o 2).toNat) → Wp mX7_canReach (kR fr 0 0) (rI (fun x h' => h' = h ∧ ((x = 1 ∧ canR h o least) ∨ (x = 0 ∧ ¬ canR h o least)))) (0, 0) 2 [zR o, zI least, zI s, x3, x4] [] 137 h by
    exact H 8 0 _ _ (by omega) (fun s' a b => by omega)
  intro d
  induction d with
  | zero =>
    intro s x3 x4 hs hno
    refine bX7_canReach_2 (kt := fun _ => ?_) (kf := fun w => by omega)
    exact bX7_canReach_70 (hq := ⟨_, rfl, rfl, rfl, Or.inr ⟨rfl, fun ⟨s', a, b, z⟩ => hno s' a (by omega) z⟩⟩)
  | succ d ih =>
    intro s x3 x4 hs hno
    refine bX7_canReach_2 (kt := fun w => by omega) (kf := fun _ => ?_)
    refine bX7_canReach_8 (kk := ?_)
    have rng : ∀ n : Nat, (n : Int) ≤ h o 2 → 0 ≤ sg (laterF h o s) n ∧ sg (laterF h o s) n ≤ n * 1881 := fun n hn => sg_rng (fun i hi => by
      unfold laterF
      split
      · exact hr i s (by omega) (by omega) (by omega) (by omega)
      · decide)
    suffices K : ∀ (dk k : Nat), (k : Int) + dk = h o 2 → Wp mX7_canReach (kR fr 0 0) (rI (fun x h' => h' = h ∧ ((x = 1 ∧ canR h o least) ∨ (x = 0 ∧ ¬ canR h o least)))) (0, 0) 13 [zR o, zI least, zI s, zI (sg (laterF h o s) k), zI k] [] 137 h by
      exact K (h o 2).toNat 0 (by omega)
    intro dk
    induction dk with
    | zero =>
      intro k hk
      have hkr := rng k (by omega)
      refine bX7_canReach_13 (kt := fun _ => ?_) (kf := fun w => by omega)
      have ek : (h o 2).toNat = k := by omega
      refine bX7_canReach_57 (kt := fun q => ?_) (kf := fun q => ?_)
      · refine bX7_canReach_64 (kk := ih (s + 1) _ _ (by omega) (fun s' a b => ?_))
        by_cases e : s' = s
        · rw [e, ek]; omega
        · exact hno s' a (by omega)
      · exact bX7_canReach_62 (hq := ⟨_, rfl, rfl, rfl, Or.inl ⟨rfl, ⟨s, by omega, by omega, by rw [ek]; exact q⟩⟩⟩)
    | succ dk ihk =>
      intro k hk
      have hi := hin k (by omega) (by omega)
      refine bX7_canReach_13 (kt := fun w => by omega) (kf := fun _ => ?_)
      have this := ihk (k + 1) (by omega)
      rw [sg] at this
      refine bX7_canReach_22 (kt := fun q => ?_) (kf := fun q => ?_)
      · rw [show laterF h o s k = 0 from if_neg (by omega)] at this
        exact bX7_canReach_48 (kk := bX7_canReach_49 (kk := this))
      · rw [show laterF h o s k = h (o + 2) ((k : Int) * 8 + s) from if_pos q] at this
        exact bX7_canReach_33 (kk := bX7_canReach_49 (kk := this))
