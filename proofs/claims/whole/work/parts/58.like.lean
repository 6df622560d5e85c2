/-! ===== the class: layDelays ===== -/
def laid (h h' : AH) (o low mid high : Int) : Prop := (∀ c, c ≠ o → c ≠ o + 1 → h' c = h c) ∧ (∀ i, i ≠ 2 → h' o i = h o i) ∧ h' (o + 1) 0 = h (o + 1) 0 ∧
  ((high = 0 ∧ h' o 2 = 1) ∨ (0 < high ∧ mid = 0 ∧ h' o 2 = 2 ∧ h' (o + 1) 1 = high) ∨ (0 < mid ∧ low = 0 ∧ h' o 2 = 3 ∧ h' (o + 1) 1 = mid ∧ h' (o + 1) 2 = high) ∨ (0 < low ∧ h' o 2 = 4 ∧ h' (o + 1) 1 = low ∧ h' (o + 1) 2 = mid ∧ h' (o + 1) 3 = high))
theorem c_layDelays {fr : Nat} {o low mid high : Int} {h : AH} (ho : isO o) (l0 : 0 ≤ low ∧ low ≤ 20) (m0 : 0 ≤ mid ∧ mid ≤ 20) (g0 : 0 ≤ high ∧ high ≤ 20) (z1 : mid = 0 → low = 0) (z2 : high = 0 → mid = 0) : Sp mX7_layDelays true fr 0 0 [zR o, zI low, zI mid, zI high] 137 h (rV (fun h' => laid h h' o low mid high)) := by
  refine Sp.mk yX7_layDelays_ok rfl rfl ?_
  have co := ho.cel
  have ne : o ≠ o + 1 := by omega
  have ne' : o + 1 ≠ o := by omega
  have u1 : ∀ (k : AH) (v w : Int), up (up k o 2 v) (o + 1) w = up (up k o 2 v) (o + 1) w := fun _ _ _ => rfl
  have key : ∀ (k : AH) (v w : Int), (∀ c, c ≠ o → c ≠ o + 1 → k c = h c) → (∀ i, i ≠ 2 → k o i = h o i) → (∀ c, c ≠ o → c ≠ o + 1 → up (up k o 2 (v + 1)) (o + 1) v w c = h c) ∧ (∀ i, i ≠ 2 → up (up k o 2 (v + 1)) (o + 1) v w o i = h o i) ∧ up (up k o 2 (v + 1)) (o + 1) v w o 2 = v + 1 ∧ up (up k o 2 (v + 1)) (o + 1) v w (o + 1) v = w ∧ ∀ i, i ≠ v → up (up k o 2 (v + 1)) (o + 1) v w (o + 1) i = k (o + 1) i := by
    intro k v w k1 k2
    refine ⟨fun c a b => by rw [up_n b, up_n a, k1 c a b], fun i hi => by rw [up_n ne, up_cn hi, k2 i hi], by rw [up_n ne, up_ci], by rw [up_ci], fun i hi => by rw [up_cn hi, up_n ne']⟩
  have b1 : ∀ c, c ≠ o → c ≠ o + 1 → up h o 2 1 c = h c := fun c a _ => up_n a
  have b2 : ∀ i, i ≠ 2 → up h o 2 1 o i = h o i := fun i hi => up_cn hi
  have b3 : up h o 2 1 o 2 = 1 := up_ci _ _ _ _
  have b4 : up h o 2 1 (o + 1) = h (o + 1) := up_n ne'
  refine bX7_layDelays_0 (kt := fun q => ?_) (kf := fun q => ?_)
  · refine bX7_layDelays_26 (kt := fun q2 => ?_) (kf := fun q2 => ?_)
    · refine bX7_layDelays_47 (kt := fun q3 => ?_) (kf := fun q3 => ?_)
      · exact bX7_layDelays_68 (hq := ⟨rfl, rfl, b1, b2, by rw [b4], Or.inl ⟨by omega, b3⟩⟩)
      · refine bX7_layDelays_51 (r1 := by rw [b3]; decide) (kk := ?_)
        rw [b3]
        obtain ⟨t1, t2, t3, t4, t5⟩ := key (up h o 2 1) 1 high b1 b2
        exact bX7_layDelays_68 (hq := ⟨rfl, rfl, t1, t2, by rw [t5 0 (by decide), b4], Or.inr (Or.inl ⟨q3, by omega, t3, t4⟩)⟩)
    · refine bX7_layDelays_30 (r1 := by rw [b3]; decide) (kk := ?_)
      rw [b3]
      obtain ⟨t1, t2, t3, t4, t5⟩ := key (up h o 2 1) 1 mid b1 b2
      generalize up (up (up h o 2 1) o 2 (1 + 1)) (o + 1) 1 mid = k1 at *
      refine bX7_layDelays_47 (kt := fun q3 => by omega) (kf := fun q3 => ?_)
      refine bX7_layDelays_51 (r1 := by rw [t3]; decide) (kk := ?_)
      rw [t3]
      obtain ⟨s1, s2, s3, s4, s5⟩ := key k1 2 high t1 t2
      exact bX7_layDelays_68 (hq := ⟨rfl, rfl, s1, s2, (by rw [show up (up k1 o 2 (1 + 1 + 1)) (o + 1) (1 + 1) high (o + 1) 0 = k1 (o + 1) 0 from s5 0 (by decide), t5 0 (by decide), b4]), Or.inr (Or.inr (Or.inl ⟨q2, by omega, s3, (s5 1 (by decide)).trans t4, s4⟩))⟩)
  · refine bX7_layDelays_9 (r1 := by rw [b3]; decide) (kk := ?_)
    rw [b3]
    obtain ⟨t1, t2, t3, t4, t5⟩ := key (up h o 2 1) 1 low b1 b2
    generalize up (up (up h o 2 1) o 2 (1 + 1)) (o + 1) 1 low = k1 at *
    refine bX7_layDelays_26 (kt := fun q2 => by omega) (kf := fun q2 => ?_)
    refine bX7_layDelays_30 (r1 := by rw [t3]; decide) (kk := ?_)
    rw [t3]
    obtain ⟨s1, s2, s3, s4, s5⟩ := key k1 (1 + 1) mid t1 t2
    generalize up (up k1 o 2 (1 + 1 + 1)) (o + 1) (1 + 1) mid = k2 at *
    refine bX7_layDelays_47 (kt := fun q3 => by omega) (kf := fun q3 => ?_)
    refine bX7_layDelays_51 (r1 := by rw [s3]; decide) (kk := ?_)
    rw [s3]
    obtain ⟨p1, p2, p3, p4, p5⟩ := key k2 (1 + 1 + 1) high s1 s2
    exact bX7_layDelays_68 (hq := ⟨rfl, rfl, p1, p2, (by rw [p5 0 (by decide), s5 0 (by decide), t5 0 (by decide), b4]), Or.inr (Or.inr (Or.inr ⟨q, p3, ((p5 1 (by decide)).trans (s5 1 (by decide))).trans t4, (p5 2 (by decide)).trans s4, p4⟩))⟩)
