/-! ===== the model: all that is said; heard, loud ===== -/
theorem dM_eq {h h1 : AH} (h98 : ∀ i, 1 ≤ i → i ≤ 7 → h1 98 i = h 98 i) (hc : ∀ c, 99 ≤ c → c ≤ 105 → h1 c = h c) : dM h1 = dM h := by
  funext k i
  unfold dM
  rw [hc 99 (by decide) (by decide), hc 100 (by decide) (by decide), hc 101 (by decide) (by decide), hc 102 (by decide) (by decide), hc 103 (by decide) (by decide), hc 104 (by decide) (by decide), hc 105 (by decide) (by decide)]
  by_cases e : 0 ≤ i ∧ i ≤ 6
  · rw [if_pos e, if_pos e, h98 (i + 1) (by omega) (by omega)]
  · rw [if_neg e, if_neg e]
/-- the model's row of loudness is Λ -/
def isRow (h0 h : AH) (Λ : Int → Int → Int) : Prop := (∀ c, c ≠ 115 → h c = h0 c) ∧ ∀ t s, 0 ≤ t → t < h0 98 45 → 0 ≤ s → s < 8 → h 115 (8 * t + s) = Λ t s
def opened (h : AH) (to e o : Int) : AH := up (up (up h 98 45 to) 98 48 e) 98 49 o
theorem opened_c {h : AH} {to e o c : Int} (hc : c ≠ 98) : opened h to e o c = h c := by unfold opened; rw [up_n hc, up_n hc, up_n hc]
theorem opened_i {h : AH} {to e o i : Int} (h1 : i ≠ 45) (h2 : i ≠ 48) (h3 : i ≠ 49) : opened h to e o 98 i = h 98 i := by unfold opened; rw [up_cn h3, up_cn h2, up_cn h1]
theorem dM_opened (h : AH) (to e o : Int) : dM (opened h to e o) = dM h := dM_eq (fun i _ _ => opened_i (by omega) (by omega) (by omega)) (fun c _ _ => opened_c (by omega))
theorem m_opens {fr : Nat} {to e o : Int} {h : AH} (ht : 0 ≤ to ∧ to ≤ 400) : Sp mX12_opens true fr 0 0 [zR 98, zI to, zI e, zI o] 137 h (rV (fun h' => isRow (opened h to e o) h' (fun _ _ => 0))) := by
  refine Sp.mk yX12_opens_ok rfl rfl ?_
  refine bX12_opens_0 (kk := ?_)
  have loop : ∀ (d i : Nat) {b1 b2 : Nat} {x2 x3 : AV}, (i : Int) + d = 8 * to → Wp mX12_opens (kR fr 0 0) (rV (fun h' => isRow (opened h to e o) h' (fun _ _ => 0))) (b1, b2) 18 [zR 98, zI to, x2, x3, zI i] [] 137 (fil (opened h to e o) 115 0 i) := by
    intro d
    induction d with
    | zero =>
      intro i b1 b2 x2 x3 hi
      refine bX12_opens_18 (kt := fun _ => ?_) (kf := fun q => by omega)
      refine bX12_opens_41 (hq := ⟨rfl, rfl, fun c hc => by unfold fil; rw [if_neg hc], fun t s a b c d => ?_⟩)
      have b2 : t < to := b
      unfold fil
      rw [if_pos rfl]
      dsimp only
      rw [if_pos (by omega)]
    | succ d ih =>
      intro i b1 b2 x2 x3 hi
      refine bX12_opens_18 (kt := fun q => by omega) (kf := fun _ => ?_)
      refine bX12_opens_27 (kk := ?_)
      rw [fil_s]
      exact ih (i + 1) (by omega)
  have := loop (8 * to).toNat 0 (b1 := 0) (b2 := 0) (x2 := zI e) (x3 := zI o) (by omega)
  rw [fil_0] at this
  exact this
theorem isRow_says {h0 h1 h2 : AH} {Λ : Int → Int → Int} {s t0 : Int} {f : Int → Int} (hr : isRow h0 h1 Λ) (hg : grown h1 h2 s t0 f) : isRow h0 h2 (fun t s' => Λ t s' + if s' = s then f (t - t0) else 0) := by
  refine ⟨fun c hc => by rw [hg.1 c hc, hr.1 c hc], fun t s' a b c d => ?_⟩
  rw [hg.2 t s' a (by rw [hr.1 98 (by decide)]; exact b) c d, hr.2 t s' a b c d]
theorem isRow_eq {h0 h1 : AH} {Λ M : Int → Int → Int} (hr : isRow h0 h1 Λ) (e : ∀ t s, 0 ≤ t → t < h0 98 45 → 0 ≤ s → s < 8 → Λ t s = M t s) : isRow h0 h1 M :=
  ⟨hr.1, fun t s a b c d => by rw [hr.2 t s a b c d, e t s a b c d]⟩
/-- how loud it is at a tick, of the first n pairs of a list -/
def lamL (a : Int → Int → Int) (S T : Nat → Int) (n : Nat) (t s : Int) : Int := sg (fun k => if s = S k then a s (t - T k) else 0) n
/-- the state in which the model may say something -/
def sayAt (h : AH) : Prop := okD (dM h) ∧ (0 ≤ h 98 45 ∧ h 98 45 ≤ 400) ∧ (0 ≤ h 98 48 ∧ h 98 48 < 3) ∧ (0 ≤ h 98 49 ∧ h 98 49 < 24) ∧ (0 ≤ h 98 46 ∧ h 98 46 ≤ 100) ∧ (-1 ≤ h 98 47 ∧ h 98 47 < 6)
abbrev ampM (h : AH) (s d : Int) : Int := amp (dM h) (h 98 48) (h 104 (h 98 49)) (h 98 46) (h 98 47) s d
/-- one more is said into a row -/
theorem m_saysRow {fr : Nat} {s t0 : Int} {h0 h : AH} {Λ : Int → Int → Int} (hf : 1 ≤ fr) (hp : sayAt h0) (hr : isRow h0 h Λ) (hs : 0 ≤ s ∧ s < h0 98 1) (ht : 0 ≤ t0 ∧ t0 < 400) :
    Sp mX12_says true fr 0 0 [zR 98, zI s, zI t0] 137 h (rV (fun h' => isRow h0 h' (fun t s' => Λ t s' + if s' = s then ampM h0 s (t - t0) else 0))) := by
  obtain ⟨p1, p2, p3, p4, p5, p6⟩ := hp
  have e98 : h 98 = h0 98 := hr.1 98 (by decide)
  have e104 : h 104 = h0 104 := hr.1 104 (by decide)
  have eD : dM h = dM h0 := dM_eq (fun i _ _ => by rw [e98]) (fun c _ _ => hr.1 c (by omega))
  refine Sp.weak (m_says hf (by rw [eD]; exact p1) (by rw [e98]; exact hs) ht (by rw [e98]; exact p2) (by rw [e98]; exact p3) (by rw [e98]; exact p4) (by rw [e98]; exact p5) (by rw [e98]; exact p6)) ?_
  rintro r n' h' ⟨e1, e2, hg⟩
  refine ⟨e1, e2, ?_⟩
  rw [eD, e98, e104] at hg
  exact isRow_says hr hg
theorem m_allSaid {fr : Nat} {to e o : Int} {h : AH} (hf : 2 ≤ fr) (hd : okD (dM h)) (ht : 0 ≤ to ∧ to ≤ 400) (he : 0 ≤ e ∧ e < 3) (ho : 0 ≤ o ∧ o < 24) (h46 : h 98 46 = 0) (h47 : h 98 47 = -1) (hm : 0 ≤ h 98 50 ∧ h 98 50 ≤ 200) (hk : ∀ k, 0 ≤ k → k < h 98 50 → (0 ≤ h 116 k ∧ h 116 k < h 98 1) ∧ 0 ≤ h 117 k ∧ h 117 k < 200) :
    Sp mX12_allSaid true fr 0 0 [zR 98, zI to, zI e, zI o] 137 h (rV (fun h' => isRow (opened h to e o) h' (lamL (fun s d => amp (dM h) e (h 104 o) 0 (-1) s d) (fun k => h 116 k) (fun k => h 117 k) (h 98 50).toNat))) := by
  refine Sp.mk yX12_allSaid_ok rfl rfl ?_
  refine bX12_allSaid_0 (hS := m_opens ht) (kk := ?_)
  intro h1 hr1
  refine bX12_allSaid_7 (kk := ?_)
  have o50 : opened h to e o 98 50 = h 98 50 := opened_i (by decide) (by decide) (by decide)
  have o1 : opened h to e o 98 1 = h 98 1 := opened_i (by decide) (by decide) (by decide)
  have hsay : sayAt (opened h to e o) := by
    refine ⟨by rw [dM_opened]; exact hd, ht, he, ho, ?_, ?_⟩
    · rw [opened_i (by decide) (by decide) (by decide), h46]; decide
    · rw [opened_i (by decide) (by decide) (by decide), h47]; decide
  have eamp : ∀ s d, ampM (opened h to e o) s d = amp (dM h) e (h 104 o) 0 (-1) s d := by
    intro s d
    show amp (dM (opened h to e o)) e (opened h to e o 104 o) (opened h to e o 98 46) (opened h to e o 98 47) s d = _
    rw [dM_opened, opened_c (by decide), opened_i (i := 46) (by decide) (by decide) (by decide), opened_i (i := 47) (by decide) (by decide) (by decide), h46, h47]
  have loop : ∀ (d k : Nat) (h2 : AH) {b1 b2 : Nat} {x1 x2 x3 : AV}, (k : Int) + d = h 98 50 → isRow (opened h to e o) h2 (lamL (fun s d => amp (dM h) e (h 104 o) 0 (-1) s d) (fun k => h 116 k) (fun k => h 117 k) k) →
      Wp mX12_allSaid (kR fr 0 0) (rV (fun h' => isRow (opened h to e o) h' (lamL (fun s d => amp (dM h) e (h 104 o) 0 (-1) s d) (fun k => h 116 k) (fun k => h 117 k) (h 98 50).toNat))) (b1, b2) 10 [zR 98, x1, x2, x3, zI k] [] 137 h2 := by
    intro d
    induction d with
    | zero =>
      intro k h2 b1 b2 x1 x2 x3 hk2 hr
      have e50 : h2 98 50 = h 98 50 := by rw [hr.1 98 (by decide), o50]
      refine bX12_allSaid_10 (r2 := by rw [e50]; omega) (kt := fun _ => ?_) (kf := fun q => by rw [e50] at q; omega)
      refine bX12_allSaid_43 (hq := ⟨rfl, rfl, ?_⟩)
      rw [show (h 98 50).toNat = k by omega]
      exact hr
    | succ d ih =>
      intro k h2 b1 b2 x1 x2 x3 hk2 hr
      have e50 : h2 98 50 = h 98 50 := by rw [hr.1 98 (by decide), o50]
      have e116 : h2 116 = h 116 := by rw [hr.1 116 (by decide), opened_c (by decide)]
      have e117 : h2 117 = h 117 := by rw [hr.1 117 (by decide), opened_c (by decide)]
      obtain ⟨ks, kt⟩ := hk k (by omega) (by omega)
      refine bX12_allSaid_10 (r2 := by rw [e50]; omega) (kt := fun q => by rw [e50] at q; omega) (kf := fun _ => ?_)
      refine bX12_allSaid_19 (hS := m_saysRow (by omega) hsay hr (by rw [e116, o1]; exact ks) (by rw [e117]; omega)) (kk := ?_)
      intro h3 hr3
      refine bX12_allSaid_37 (kk := ih (k + 1) h3 (by omega) (isRow_eq hr3 (fun t s _ _ _ _ => ?_)))
      rw [e116, e117]
      unfold lamL
      rw [sg]
      congr 1
      by_cases es : s = h 116 k
      · rw [if_pos es, if_pos es, eamp, es]
      · rw [if_neg es, if_neg es]
  exact loop (h 98 50).toNat 0 h1 (by omega) hr1
