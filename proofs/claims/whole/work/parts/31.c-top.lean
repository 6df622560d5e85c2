/-! ===== contracts: EchoGorge's small methods ===== -/
abbrev NSE : String := "java/util/NoSuchElementException"
abbrev IAE : String := "java/lang/IllegalArgumentException"
/-- the gorge that is told now is one of the two, its counts in their ranges -/
def nowOk (h : AH) : Prop := cel 137 (h 1 4) (2, 21) ∧ (0 ≤ h (h 1 4) 0 ∧ h (h 1 4) 0 ≤ 8) ∧ (0 ≤ h (h 1 4) 1 ∧ h (h 1 4) 1 ≤ 6) ∧ (0 ≤ h (h 1 4) 2 ∧ h (h 1 4) 2 ≤ 8) ∧ (0 ≤ h (h 1 4) 3 ∧ h (h 1 4) 3 ≤ 6)
theorem c_needSound {fr : Nat} {s : Int} {h : AH} (hf : 8 ≤ fr) (rs : R32 s) (hn : nowOk h) : Sp mX11_needSound true fr 1 6 [zR 1, zI s] 137 h (rVx (fun h' => h' = h ∧ 0 ≤ s ∧ s < h (h 1 4) 0) (fun E h' => h' = h ∧ E = NSE ∧ (s < 0 ∨ h (h 1 4) 0 ≤ s))) := by
  refine Sp.mk yX11_needSound_ok rfl rfl ?_
  obtain ⟨hc, h0, -⟩ := hn
  obtain ⟨rs1, rs2⟩ := rs
  refine bX11_needSound_0 (kt := fun q => ?_) (kf := fun q => ?_)
  · exact bX11_needSound_15 (hq := ⟨rfl, Or.inr ⟨_, rfl, rfl, rfl, Or.inl q⟩⟩)
  · refine bX11_needSound_4 (kt := fun q2 => ?_) (kf := fun q2 => ?_)
    · exact bX11_needSound_23 (hq := ⟨rfl, Or.inl ⟨rfl, rfl, q, q2⟩⟩)
    · exact bX11_needSound_15 (hq := ⟨rfl, Or.inr ⟨_, rfl, rfl, rfl, Or.inr q2⟩⟩)
theorem c_needWall {fr : Nat} {s : Int} {h : AH} (hf : 8 ≤ fr) (rs : R32 s) (hn : nowOk h) : Sp mX11_needWall true fr 1 6 [zR 1, zI s] 137 h (rVx (fun h' => h' = h ∧ 0 ≤ s ∧ s < h (h 1 4) 1) (fun E h' => h' = h ∧ E = NSE ∧ (s < 0 ∨ h (h 1 4) 1 ≤ s))) := by
  refine Sp.mk yX11_needWall_ok rfl rfl ?_
  obtain ⟨hc, -, h0, -⟩ := hn
  obtain ⟨rs1, rs2⟩ := rs
  refine bX11_needWall_0 (kt := fun q => ?_) (kf := fun q => ?_)
  · exact bX11_needWall_15 (hq := ⟨rfl, Or.inr ⟨_, rfl, rfl, rfl, Or.inl q⟩⟩)
  · refine bX11_needWall_4 (kt := fun q2 => ?_) (kf := fun q2 => ?_)
    · exact bX11_needWall_23 (hq := ⟨rfl, Or.inl ⟨rfl, rfl, q, q2⟩⟩)
    · exact bX11_needWall_15 (hq := ⟨rfl, Or.inr ⟨_, rfl, rfl, rfl, Or.inr q2⟩⟩)
theorem c_needEar {fr : Nat} {s : Int} {h : AH} (hf : 8 ≤ fr) (rs : R32 s) : Sp mX11_needEar true fr 1 6 [zR 1, zI s] 137 h (rVx (fun h' => h' = h ∧ 0 ≤ s ∧ s < 3) (fun E h' => h' = h ∧ E = NSE ∧ (s < 0 ∨ 3 ≤ s))) := by
  refine Sp.mk yX11_needEar_ok rfl rfl ?_
  obtain ⟨rs1, rs2⟩ := rs
  refine bX11_needEar_0 (kt := fun q => ?_) (kf := fun q => ?_)
  · exact bX11_needEar_9 (hq := ⟨rfl, Or.inr ⟨_, rfl, rfl, rfl, Or.inl q⟩⟩)
  · refine bX11_needEar_4 (kt := fun q2 => ?_) (kf := fun q2 => ?_)
    · exact bX11_needEar_17 (hq := ⟨rfl, Or.inl ⟨rfl, rfl, q, q2⟩⟩)
    · exact bX11_needEar_9 (hq := ⟨rfl, Or.inr ⟨_, rfl, rfl, rfl, Or.inr q2⟩⟩)
theorem c_needHour {fr : Nat} {s : Int} {h : AH} (hf : 8 ≤ fr) (rs : R32 s) : Sp mX11_needHour true fr 1 6 [zR 1, zI s] 137 h (rVx (fun h' => h' = h ∧ 0 ≤ s ∧ s < 24) (fun E h' => h' = h ∧ E = NSE ∧ (s < 0 ∨ 24 ≤ s))) := by
  refine Sp.mk yX11_needHour_ok rfl rfl ?_
  obtain ⟨rs1, rs2⟩ := rs
  refine bX11_needHour_0 (kt := fun q => ?_) (kf := fun q => ?_)
  · exact bX11_needHour_10 (hq := ⟨rfl, Or.inr ⟨_, rfl, rfl, rfl, Or.inl q⟩⟩)
  · refine bX11_needHour_4 (kt := fun q2 => ?_) (kf := fun q2 => ?_)
    · exact bX11_needHour_18 (hq := ⟨rfl, Or.inl ⟨rfl, rfl, q, q2⟩⟩)
    · exact bX11_needHour_10 (hq := ⟨rfl, Or.inr ⟨_, rfl, rfl, rfl, Or.inr q2⟩⟩)
theorem c_needMoment {fr : Nat} {e o t : Int} {h : AH} (hf : 9 ≤ fr) (re : R32 e) (ro : R32 o) (rt : R32 t) : Sp mX11_needMoment true fr 3 18 [zR 1, zI e, zI o, zI t] 137 h (rVx (fun h' => h' = h ∧ (0 ≤ e ∧ e < 3) ∧ (0 ≤ o ∧ o < 24) ∧ 0 ≤ t ∧ t < 400) (fun E h' => h' = h ∧ E = NSE ∧ ¬ ((0 ≤ e ∧ e < 3) ∧ (0 ≤ o ∧ o < 24) ∧ 0 ≤ t ∧ t < 400))) := by
  refine Sp.mk yX11_needMoment_ok rfl rfl ?_
  obtain ⟨rt1, rt2⟩ := rt
  refine bX11_needMoment_0 (hS := c_needEar (by omega) re) (kk := ?_) (kx := ?_)
  · rintro h' ⟨rfl, e1, e2⟩
    refine bX11_needMoment_5 (hS := c_needHour (by omega) ro) (kk := ?_) (kx := ?_)
    · rintro h' ⟨rfl, o1, o2⟩
      refine bX11_needMoment_10 (kt := fun q => ?_) (kf := fun q => ?_)
      · exact bX11_needMoment_21 (hq := ⟨rfl, Or.inr ⟨_, rfl, rfl, rfl, by omega⟩⟩)
      · refine bX11_needMoment_14 (kt := fun q2 => ?_) (kf := fun q2 => ?_)
        · exact bX11_needMoment_29 (hq := ⟨rfl, Or.inl ⟨rfl, rfl, ⟨e1, e2⟩, ⟨o1, o2⟩, q, q2⟩⟩)
        · exact bX11_needMoment_21 (hq := ⟨rfl, Or.inr ⟨_, rfl, rfl, rfl, by omega⟩⟩)
    · rintro E h' ⟨rfl, rfl, q⟩
      exact ⟨rfl, Or.inr ⟨_, rfl, rfl, rfl, by omega⟩⟩
  · rintro E h' ⟨rfl, rfl, q⟩
    exact ⟨rfl, Or.inr ⟨_, rfl, rfl, rfl, by omega⟩⟩
theorem c_fault {fr : Nat} {h : AH} : Sp mX11_fault true fr 0 0 [zR 1] 137 h (rI (fun x h' => h' = h ∧ x = h 1 2)) := by
  refine Sp.mk yX11_fault_ok rfl rfl ?_
  exact bX11_fault_0 (hq := ⟨_, rfl, rfl, rfl, rfl⟩)
/-- what wall() answers -/
def wallV (h : AH) (g w k : Int) : Int := if k < 3 then h (g + 4) (w * 3 + k) else if k = 3 then h (g + 5) w else if k = 4 then h (g + 6) w else h (g + 7) w
theorem c_wall {fr : Nat} {w k : Int} {h : AH} (hf : 9 ≤ fr) (rw_ : R32 w) (rk : R32 k) (hn : nowOk h) : Sp mX11_wall true fr 8 48 [zR 1, zI w, zI k] 137 h (rIx (fun x h' => h' = h ∧ ((0 ≤ w ∧ w < h (h 1 4) 1) ∧ 0 ≤ k ∧ k ≤ 5) ∧ x = wallV h (h 1 4) w k) (fun E h' => h' = h ∧ E = NSE ∧ ¬ ((0 ≤ w ∧ w < h (h 1 4) 1) ∧ 0 ≤ k ∧ k ≤ 5))) := by
  refine Sp.mk yX11_wall_ok rfl rfl ?_
  obtain ⟨hc, -, hw, -⟩ := id hn
  obtain ⟨k1, k2⟩ := rk
  refine bX11_wall_0 (hS := c_needWall (by omega) rw_ hn) (kk := ?_) (kx := ?_)
  · rintro h' ⟨rfl, w1, w2⟩
    refine bX11_wall_5 (k0 := fun q => ?_) (k1 := fun q => ?_) (k2 := fun q => ?_) (k3 := fun q => ?_) (k4 := fun q => ?_) (k5 := fun q => ?_) (kd := fun q => ?_)
    · exact bX11_wall_44 (hq := ⟨rfl, Or.inl ⟨_, rfl, rfl, by omega, by unfold wallV; rw [if_pos (by omega)]⟩⟩)
    · exact bX11_wall_44 (hq := ⟨rfl, Or.inl ⟨_, rfl, rfl, by omega, by unfold wallV; rw [if_pos (by omega)]⟩⟩)
    · exact bX11_wall_44 (hq := ⟨rfl, Or.inl ⟨_, rfl, rfl, by omega, by unfold wallV; rw [if_pos (by omega)]⟩⟩)
    · exact bX11_wall_58 (hq := ⟨rfl, Or.inl ⟨_, rfl, rfl, by omega, by unfold wallV; rw [if_neg (by omega), if_pos q]⟩⟩)
    · exact bX11_wall_68 (hq := ⟨rfl, Or.inl ⟨_, rfl, rfl, by omega, by unfold wallV; rw [if_neg (by omega), if_neg (by omega), if_pos q]⟩⟩)
    · exact bX11_wall_78 (hq := ⟨rfl, Or.inl ⟨_, rfl, rfl, by omega, by unfold wallV; rw [if_neg (by omega), if_neg (by omega), if_neg (by omega)]⟩⟩)
    · exact bX11_wall_88 (hq := ⟨rfl, Or.inr ⟨_, rfl, rfl, rfl, by omega⟩⟩)
  · rintro E h' ⟨rfl, rfl, q⟩
    exact ⟨rfl, Or.inr ⟨_, rfl, rfl, rfl, by omega⟩⟩
/-- what word() answers -/
def wordV (h : AH) (g w k : Int) : Int := if k = 0 then h (g + 10) w else if k = 1 then h (g + 11) w else h (g + 12) (w * 4 + k - 2)
theorem c_word {fr : Nat} {w k : Int} {h : AH} (hf : 8 ≤ fr) (rw_ : R32 w) (rk : R32 k) (hn : nowOk h) (hl : ∀ w, 0 ≤ w → w < h (h 1 4) 2 → 1 ≤ h (h 1 4 + 11) w ∧ h (h 1 4 + 11) w ≤ 4) : Sp mX11_word true fr 8 48 [zR 1, zI w, zI k] 137 h (rIx (fun x h' => h' = h ∧ ((0 ≤ w ∧ w < h (h 1 4) 2) ∧ 0 ≤ k ∧ k < 2 + h (h 1 4 + 11) w) ∧ x = wordV h (h 1 4) w k) (fun E h' => h' = h ∧ E = NSE ∧ ¬ ((0 ≤ w ∧ w < h (h 1 4) 2) ∧ 0 ≤ k ∧ k < 2 + h (h 1 4 + 11) w))) := by
  refine Sp.mk yX11_word_ok rfl rfl ?_
  obtain ⟨hc, -, -, hw, -⟩ := id hn
  obtain ⟨k1, k2⟩ := rk
  obtain ⟨w1, w2⟩ := rw_
  refine bX11_word_0 (kt := fun q => ?_) (kf := fun q => ?_)
  · exact bX11_word_19 (hq := ⟨rfl, Or.inr ⟨_, rfl, rfl, rfl, by omega⟩⟩)
  refine bX11_word_4 (kt := fun q2 => ?_) (kf := fun q2 => ?_)
  · exact bX11_word_19 (hq := ⟨rfl, Or.inr ⟨_, rfl, rfl, rfl, by omega⟩⟩)
  have hl9 := hl w q q2
  refine bX11_word_15 (kt := fun q3 => ?_) (kf := fun q3 => ?_)
  rotate_left
  · exact bX11_word_19 (hq := ⟨rfl, Or.inr ⟨_, rfl, rfl, rfl, by omega⟩⟩)
  refine bX11_word_27 (kt := fun q4 => ?_) (kf := fun q4 => ?_)
  rotate_left
  · exact bX11_word_31 (hq := ⟨rfl, Or.inl ⟨_, rfl, rfl, by omega, by unfold wordV; rw [if_pos q4]⟩⟩)
  refine bX11_word_41 (kt := fun q5 => ?_) (kf := fun q5 => ?_)
  rotate_left
  · exact bX11_word_46 (hq := ⟨rfl, Or.inl ⟨_, rfl, rfl, by omega, by unfold wordV; rw [if_neg q4, if_pos q5]⟩⟩)
  refine bX11_word_56 (kt := fun q6 => ?_) (kf := fun q6 => ?_)
  · exact bX11_word_79 (hq := ⟨rfl, Or.inl ⟨_, rfl, rfl, by omega, by unfold wordV; rw [if_neg q4, if_neg q5]⟩⟩)
  · exact bX11_word_71 (hq := ⟨rfl, Or.inr ⟨_, rfl, rfl, rfl, by omega⟩⟩)
theorem c_clearSaid {fr : Nat} {o : Int} {h : AH} (hf : 1 ≤ fr) (hc : cel 137 o (8, 8)) : Sp mX8_clearSaid true fr 0 0 [zR o] 137 h (rV (fun h' => h' = up (fil h (o + 1) 0 200) o 1 0)) := by
  refine Sp.mk yX8_clearSaid_ok rfl rfl ?_
  refine bX8_clearSaid_0 (hS := c_fill (fin_X8_0 hc)) (kk := ?_)
  rintro h' rfl
  exact bX8_clearSaid_8 (hq := ⟨rfl, rfl, rfl⟩)
theorem c_clearTold {fr : Nat} {o : Int} {h : AH} (hf : 1 ≤ fr) (hc : cel 137 o (8, 8)) : Sp mX8_clearTold true fr 0 0 [zR o] 137 h (rV (fun h' => h' = up (fil h (o + 2) (-1) 60) o 3 0)) := by
  refine Sp.mk yX8_clearTold_ok rfl rfl ?_
  refine bX8_clearTold_0 (hS := c_fill (fin_X8_2 hc)) (kk := ?_)
  rintro h' rfl
  exact bX8_clearTold_8 (hq := ⟨rfl, rfl, rfl⟩)
theorem c_clearScene {fr : Nat} {o : Int} {h : AH} (hf : 2 ≤ fr) (hc : cel 137 o (8, 8)) : Sp mX8_clear true fr 0 0 [zR o] 137 h (rV (fun h' => h' = fil (fil (up (fil (up (fil (up (fil h (o + 1) 0 200) o 1 0) (o + 2) (-1) 60) o 3 0) (o + 3) (-1) 16) o 5 0) (o + 4) 0 3) (o + 5) 0 3)) := by
  refine Sp.mk yX8_clear_ok rfl rfl ?_
  refine bX8_clear_0 (hS := c_clearSaid (by omega) hc) (kk := ?_)
  rintro h' rfl
  refine bX8_clear_4 (hS := c_clearTold (by omega) hc) (kk := ?_)
  rintro h' rfl
  refine bX8_clear_8 (hS := c_fill (fin_X8_4 hc)) (kk := ?_)
  rintro h' rfl
  refine bX8_clear_16 (hS := c_fill (fin_X8_6 hc)) (kk := ?_)
  rintro h' rfl
  refine bX8_clear_29 (hS := c_fill (fin_X8_7 hc)) (kk := ?_)
  rintro h' rfl
  exact bX8_clear_37 (hq := ⟨rfl, rfl, rfl⟩)
theorem c_forgetG {fr : Nat} {h : AH} : Sp mX3_forget true fr 0 0 [zR 82] 137 h (rV (fun h' => h' = up h 82 2 0)) :=
  Sp.mk yX3_forget_ok rfl rfl (bX3_forget_0 (hq := ⟨rfl, rfl, rfl⟩))
theorem c_forgetT {fr : Nat} {h : AH} : Sp mX9_forget true fr 0 0 [zR 88] 137 h (rV (fun h' => h' = up h 88 1 0)) :=
  Sp.mk yX9_forget_ok rfl rfl (bX9_forget_0 (hq := ⟨rfl, rfl, rfl⟩))
theorem c_forgetR {fr : Nat} {o : Int} {h : AH} (hc : cel 137 o (7, 9)) : Sp mX7_forget true fr 0 0 [zR o] 137 h (rV (fun h' => h' = up h o 4 0)) :=
  Sp.mk yX7_forget_ok rfl rfl (bX7_forget_0 (hq := ⟨rfl, rfl, rfl⟩))
theorem c_hush {fr : Nat} {h : AH} (hf : 2 ≤ fr) : Sp mX11_hush true fr 0 0 [zR 1] 137 h (rI (fun x h' => h' = up (up (fil h 35 0 200) 34 1 0) 82 2 0 ∧ x = h 34 1)) := by
  refine Sp.mk yX11_hush_ok rfl rfl ?_
  refine bX11_hush_0 (hS := c_clearSaid (by omega) e34) (kk := ?_)
  rintro h' rfl
  refine bX11_hush_15 (hS := c_forgetG) (kk := ?_)
  rintro h' rfl
  exact bX11_hush_22 (hq := ⟨_, rfl, rfl, rfl, rfl⟩)
theorem c_untell {fr : Nat} {h : AH} (hf : 2 ≤ fr) : Sp mX11_untell true fr 0 0 [zR 1] 137 h (rI (fun x h' => h' = up (up (up (fil h 36 (-1) 60) 34 3 0) 82 2 0) 88 1 0 ∧ x = h 34 3)) := by
  refine Sp.mk yX11_untell_ok rfl rfl ?_
  refine bX11_untell_0 (hS := c_clearTold (by omega) e34) (kk := ?_)
  rintro h' rfl
  refine bX11_untell_15 (hS := c_forgetG) (kk := ?_)
  rintro h' rfl
  refine bX11_untell_22 (hS := c_forgetT) (kk := ?_)
  rintro h' rfl
  exact bX11_untell_29 (hq := ⟨_, rfl, rfl, rfl, rfl⟩)
theorem c_tell {fr : Nat} {s : Int} {h : AH} (hf : 9 ≤ fr) (rs : R32 s) (hn : nowOk h) (ht : 0 ≤ h 34 3 ∧ h 34 3 ≤ 60) : Sp mX11_tell true fr 8 48 [zR 1, zI s] 137 h (rIx (fun x h' => (s = -1 ∨ 0 ≤ s ∧ s < h (h 1 4) 0) ∧ ((60 ≤ h 34 3 ∧ x = -1 ∧ h' = up h 3 2 (h 3 2 + 1)) ∨ (h 34 3 < 60 ∧ x = h 34 3 + 1 ∧ h' = up (up (up (up h 36 (h 34 3) s) 34 3 (h 34 3 + 1)) 82 2 0) 88 1 0))) (fun E h' => h' = h ∧ E = NSE ∧ ¬ (s = -1 ∨ 0 ≤ s ∧ s < h (h 1 4) 0))) := by
  refine Sp.mk yX11_tell_ok rfl rfl ?_
  obtain ⟨s1, s2⟩ := id rs
  have main : ∀ b1 b2 : Nat, (s = -1 ∨ 0 ≤ s ∧ s < h (h 1 4) 0) → Wp mX11_tell (kR fr 8 48) (rIx (fun x h' => (s = -1 ∨ 0 ≤ s ∧ s < h (h 1 4) 0) ∧ ((60 ≤ h 34 3 ∧ x = -1 ∧ h' = up h 3 2 (h 3 2 + 1)) ∨ (h 34 3 < 60 ∧ x = h 34 3 + 1 ∧ h' = up (up (up (up h 36 (h 34 3) s) 34 3 (h 34 3 + 1)) 82 2 0) 88 1 0))) (fun E h' => h' = h ∧ E = NSE ∧ ¬ (s = -1 ∨ 0 ≤ s ∧ s < h (h 1 4) 0))) (b1, b2) 10 [zR 1, zI s] [] 137 h := by
    intro b1 b2 hs
    refine bX11_tell_10 (kt := fun q => ?_) (kf := fun q => ?_)
    · refine bX11_tell_34 (hS := c_forgetG) (kk := ?_)
      rintro h' rfl
      refine bX11_tell_70 (hS := c_forgetT) (kk := ?_)
      rintro h' rfl
      exact bX11_tell_77 (hq := ⟨rfl, Or.inl ⟨_, rfl, hs, Or.inr ⟨q, rfl, rfl⟩⟩⟩)
    · exact bX11_tell_22 (hq := ⟨rfl, Or.inl ⟨_, rfl, hs, Or.inl ⟨q, rfl, rfl⟩⟩⟩)
  refine bX11_tell_0 (kt := fun q => main _ _ (Or.inl q)) (kf := fun q => ?_)
  refine bX11_tell_5 (hS := c_needSound (by omega) rs hn) (kk := ?_) (kx := ?_)
  · rintro h' ⟨rfl, a, c⟩
    exact main _ _ (Or.inr ⟨a, c⟩)
  · rintro E h' ⟨rfl, rfl, z⟩
    exact ⟨rfl, Or.inr ⟨_, rfl, rfl, rfl, by omega⟩⟩
theorem c_sing {fr : Nat} {t s : Int} {h : AH} (hf : 9 ≤ fr) (rt : R32 t) (rs : R32 s) (hn : nowOk h) (hr : 0 ≤ h 34 5 ∧ h 34 5 ≤ 16) : Sp mX11_sing true fr 8 48 [zR 1, zI t, zI s] 137 h (rIx (fun x h' => ((0 ≤ t ∧ t < 16) ∧ (s = -1 ∨ 0 ≤ s ∧ s < h (h 1 4) 0)) ∧ x = max (h 34 5) (t + 1) ∧ h' = up (up h 37 t s) 34 5 (max (h 34 5) (t + 1))) (fun E h' => h' = h ∧ E = NSE ∧ ¬ ((0 ≤ t ∧ t < 16) ∧ (s = -1 ∨ 0 ≤ s ∧ s < h (h 1 4) 0)))) := by
  refine Sp.mk yX11_sing_ok rfl rfl ?_
  obtain ⟨s1, s2⟩ := id rs
  obtain ⟨t1, t2⟩ := id rt
  refine bX11_sing_0 (kt := fun q => ?_) (kf := fun q => ?_)
  · exact bX11_sing_10 (hq := ⟨rfl, Or.inr ⟨_, rfl, rfl, rfl, by omega⟩⟩)
  refine bX11_sing_4 (kt := fun q2 => ?_) (kf := fun q2 => ?_)
  rotate_left
  · exact bX11_sing_10 (hq := ⟨rfl, Or.inr ⟨_, rfl, rfl, rfl, by omega⟩⟩)
  refine bX11_sing_18 (kt := fun q3 => ?_) (kf := fun q3 => ?_)
  · exact bX11_sing_28 (hq := ⟨rfl, Or.inl ⟨_, rfl, ⟨⟨q, q2⟩, Or.inl q3⟩, rfl, rfl⟩⟩)
  refine bX11_sing_23 (hS := c_needSound (by omega) rs hn) (kk := ?_) (kx := ?_)
  · rintro h' ⟨rfl, a, c⟩
    exact bX11_sing_28 (hq := ⟨rfl, Or.inl ⟨_, rfl, ⟨⟨q, q2⟩, Or.inr ⟨a, c⟩⟩, rfl, rfl⟩⟩)
  · rintro E h' ⟨rfl, rfl, z⟩
    exact ⟨rfl, Or.inr ⟨_, rfl, rfl, rfl, by omega⟩⟩
theorem c_stand {fr : Nat} {e x y : Int} {h : AH} (hf : 9 ≤ fr) (re : R32 e) (rx : R32 x) (ry : R32 y) : Sp mX11_stand true fr 8 48 [zR 1, zI e, zI x, zI y] 137 h (rIx (fun r h' => (0 ≤ e ∧ e < 3) ∧ ((((0 ≤ x ∧ x < 31) ∧ 0 ≤ y ∧ y < 31) ∧ r = 1 ∧ h' = up (up h 38 e x) 39 e y) ∨ (¬ ((0 ≤ x ∧ x < 31) ∧ 0 ≤ y ∧ y < 31) ∧ r = 0 ∧ h' = h))) (fun E h' => h' = h ∧ E = NSE ∧ ¬ (0 ≤ e ∧ e < 3))) := by
  refine Sp.mk yX11_stand_ok rfl rfl ?_
  obtain ⟨x1, x2⟩ := id rx
  obtain ⟨y1, y2⟩ := id ry
  refine bX11_stand_0 (hS := c_needEar (by omega) re) (kk := ?_) (kx := ?_)
  · rintro h' ⟨rfl, e1, e2⟩
    refine bX11_stand_5 (kt := fun q => ?_) (kf := fun q => ?_)
    · exact bX11_stand_25 (hq := ⟨rfl, Or.inl ⟨_, rfl, ⟨e1, e2⟩, Or.inr ⟨by omega, rfl, rfl⟩⟩⟩)
    refine bX11_stand_9 (kt := fun q2 => ?_) (kf := fun q2 => ?_)
    · exact bX11_stand_25 (hq := ⟨rfl, Or.inl ⟨_, rfl, ⟨e1, e2⟩, Or.inr ⟨by omega, rfl, rfl⟩⟩⟩)
    refine bX11_stand_15 (kt := fun q3 => ?_) (kf := fun q3 => ?_)
    · exact bX11_stand_25 (hq := ⟨rfl, Or.inl ⟨_, rfl, ⟨e1, e2⟩, Or.inr ⟨by omega, rfl, rfl⟩⟩⟩)
    refine bX11_stand_19 (kt := fun q4 => ?_) (kf := fun q4 => ?_)
    · exact bX11_stand_27 (hq := ⟨rfl, Or.inl ⟨_, rfl, ⟨e1, e2⟩, Or.inl ⟨by omega, rfl, rfl⟩⟩⟩)
    · exact bX11_stand_25 (hq := ⟨rfl, Or.inl ⟨_, rfl, ⟨e1, e2⟩, Or.inr ⟨by omega, rfl, rfl⟩⟩⟩)
  · rintro E h' ⟨rfl, rfl, z⟩
    exact ⟨rfl, Or.inr ⟨_, rfl, rfl, rfl, by omega⟩⟩
/-- what count() answers -/
def countV (h : AH) (k : Int) : Int := if k ≤ 3 then h (h 1 4) k else if k = 4 then h 34 1 else if k = 5 then h 34 3 else if k = 6 then h 1 1 else if k = 10 then h 55 1 else h 3 (k - 7)
theorem c_count {fr : Nat} {k : Int} {h : AH} (hf : 8 ≤ fr) (rk : R32 k) (hn : nowOk h) : Sp mX11_count true fr 8 48 [zR 1, zI k] 137 h (rIx (fun x h' => h' = h ∧ (0 ≤ k ∧ k ≤ 10) ∧ x = countV h k) (fun E h' => h' = h ∧ E = NSE ∧ ¬ (0 ≤ k ∧ k ≤ 10))) := by
  refine Sp.mk yX11_count_ok rfl rfl ?_
  obtain ⟨hc, -⟩ := hn
  obtain ⟨k1, k2⟩ := id rk
  refine bX11_count_0 (k0 := fun q => ?_) (k1 := fun q => ?_) (k2 := fun q => ?_) (k3 := fun q => ?_) (k4 := fun q => ?_) (k5 := fun q => ?_) (k6 := fun q => ?_) (k7 := fun q => ?_) (k8 := fun q => ?_) (k9 := fun q => ?_) (k10 := fun q => ?_) (kd := fun q => ?_)
  · exact bX11_count_60 (hq := ⟨rfl, Or.inl ⟨_, rfl, rfl, by omega, by rw [q]; rfl⟩⟩)
  · exact bX11_count_68 (hq := ⟨rfl, Or.inl ⟨_, rfl, rfl, by omega, by rw [q]; rfl⟩⟩)
  · exact bX11_count_76 (hq := ⟨rfl, Or.inl ⟨_, rfl, rfl, by omega, by rw [q]; rfl⟩⟩)
  · exact bX11_count_84 (hq := ⟨rfl, Or.inl ⟨_, rfl, rfl, by omega, by rw [q]; rfl⟩⟩)
  · exact bX11_count_92 (hq := ⟨rfl, Or.inl ⟨_, rfl, rfl, by omega, by rw [q]; rfl⟩⟩)
  · exact bX11_count_100 (hq := ⟨rfl, Or.inl ⟨_, rfl, rfl, by omega, by rw [q]; rfl⟩⟩)
  · exact bX11_count_108 (hq := ⟨rfl, Or.inl ⟨_, rfl, rfl, by omega, by rw [q]; rfl⟩⟩)
  · exact bX11_count_113 (hq := ⟨rfl, Or.inl ⟨_, rfl, rfl, by omega, by rw [q]; rfl⟩⟩)
  · exact bX11_count_113 (hq := ⟨rfl, Or.inl ⟨_, rfl, rfl, by omega, by rw [q]; rfl⟩⟩)
  · exact bX11_count_113 (hq := ⟨rfl, Or.inl ⟨_, rfl, rfl, by omega, by rw [q]; rfl⟩⟩)
  · exact bX11_count_123 (hq := ⟨rfl, Or.inl ⟨_, rfl, rfl, by omega, by rw [q]; rfl⟩⟩)
  · exact bX11_count_131 (hq := ⟨rfl, Or.inr ⟨_, rfl, rfl, rfl, by omega⟩⟩)
