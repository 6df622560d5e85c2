/-! ===== the same told: all words of lines are the same ===== -/
def eqD (D E : DT) : Prop := ∀ k, 0 ≤ k → k ≤ 14 → E k = D k
theorem eqD.g {D E : DT} (e : eqD D E) : E 0 = D 0 ∧ E 10 = D 10 ∧ E 11 = D 11 ∧ E 12 = D 12 ∧ E 13 = D 13 ∧ E 14 = D 14 := ⟨e 0 (by decide) (by decide), e 10 (by decide) (by decide), e 11 (by decide) (by decide), e 12 (by decide) (by decide), e 13 (by decide) (by decide), e 14 (by decide) (by decide)⟩
theorem kindsD_c {D E : DT} (e : eqD D E) : kindsD E = kindsD D := by
  obtain ⟨e0, e10, -⟩ := e.g
  funext k; unfold kindsD; rw [e0, e10]
theorem linesD_c {D E : DT} (e : eqD D E) : linesD E = linesD D := by
  obtain ⟨e0, e10, e11, e12, e13, e14⟩ := e.g
  funext f; unfold linesD; rw [kindsD_c e, e13, e14]
theorem allD_c {D E : DT} (e : eqD D E) : allD E = allD D := by
  obtain ⟨e0, e10, e11, e12, e13, e14⟩ := e.g
  unfold allD; rw [linesD_c e, e0]
theorem begF_c {D E : DT} (e : eqD D E) : begF E = begF D := by
  obtain ⟨e0, e10, e11, e12, e13, e14⟩ := e.g
  funext f; unfold begF; rw [linesD_c e, kindsD_c e, e14]
theorem begD_c {D E : DT} (e : eqD D E) : begD E = begD D := by
  obtain ⟨e0, e10, e11, e12, e13, e14⟩ := e.g
  unfold begD; rw [begF_c e, e0]
theorem fitW_c {D E : DT} (e : eqD D E) : fitW E = fitW D := by
  obtain ⟨e0, e10, e11, e12, e13, e14⟩ := e.g
  funext B w p; unfold fitW; rw [e11, e12]
theorem reach_c {D E : DT} (e : eqD D E) (B : Int → Int) (n f : Int) : ∀ k, reach E B n f k = reach D B n f k
  | 0 => rfl
  | k + 1 => by
    obtain ⟨e0, e10, e11, e12, e13, e14⟩ := e.g
    funext p
    simp only [reach, reach_c e B n f k, fitW_c e, e0, e10, e11, e14]
theorem isLineB_c {D E : DT} (e : eqD D E) : isLineB E = isLineB D := by
  obtain ⟨e0, e10, e11, e12, e13, e14⟩ := e.g
  funext B n
  unfold isLineB
  simp only [reach_c e, e0, e13]
theorem reachL_c {D E : DT} (e : eqD D E) (f : Int) : ∀ k, reachL E f k = reachL D f k
  | 0 => rfl
  | k + 1 => by
    obtain ⟨e0, e10, e11, e12, e13, e14⟩ := e.g
    funext p
    simp only [reachL, reachL_c e f k, e0, e10, e11, e14]
theorem lensM_c {D E : DT} (e : eqD D E) : lensM E = lensM D := by
  obtain ⟨e0, e10, e11, e12, e13, e14⟩ := e.g
  funext L
  unfold lensM
  simp only [reachL_c e, e0, e13]
theorem kp_c {D E : DT} (e : eqD D E) : kp_ E = kp_ D := by
  obtain ⟨e0, e10, e11, e12, e13, e14⟩ := e.g
  funext k w; unfold kp_; rw [e10]
theorem vtab_c {D E : DT} (e : eqD D E) (h : AH) : vtab h E = vtab h D := by
  obtain ⟨e0, e10, e11, e12, e13, e14⟩ := e.g
  unfold vtab
  rw [kindsD_c e, kp_c e, e0, e10]
theorem vts_c {D E : DT} (e : eqD D E) (h : AH) : vts h E = vts h D := by
  obtain ⟨e0, e10, e11, e12, e13, e14⟩ := e.g
  unfold vts
  rw [vtab_c e, linesD_c e, allD_c e, begD_c e, lensM_c e, e0]
theorem cK_c {D E : DT} (e : eqD D E) : cK E = cK D := by
  obtain ⟨e0, e10, e11, e12, e13, e14⟩ := e.g
  funext f k; unfold cK; rw [kindsD_c e, e14]
theorem rsD_c {D E : DT} (e : eqD D E) (f i : Int) : ∀ m, rsD E f i m = rsD D f i m
  | 0 => rfl
  | m + 1 => by
    obtain ⟨e0, e10, e11, e12, e13, e14⟩ := e.g
    rw [rsD, rsD, rsD_c e f i m, cK_c e, e13]
theorem digD_c {D E : DT} (e : eqD D E) : digD E = digD D := by
  obtain ⟨e0, e10, e11, e12, e13, e14⟩ := e.g
  funext f i k; unfold digD; rw [rsD_c e, cK_c e, e13]
theorem lineW_c {D E : DT} (e : eqD D E) : lineW E = lineW D := by
  obtain ⟨e0, e10, e11, e12, e13, e14⟩ := e.g
  funext f i W; unfold lineW; rw [digD_c e, kp_c e, e0, e10, e13, e14]
theorem preW_c {D E : DT} (e : eqD D E) : preW E = preW D := by
  obtain ⟨e0, e10, e11, e12, e13, e14⟩ := e.g
  funext W k; unfold preW; rw [e11]
theorem isSay_c {D E : DT} (e : eqD D E) : isSay E = isSay D := by
  obtain ⟨e0, e10, e11, e12, e13, e14⟩ := e.g
  funext W L S; unfold isSay; rw [preW_c e, e11, e12]
theorem ampA_c {D E : DT} (e : eqD D E) (ear air fog gone : Int) : (fun s d => amp E ear air fog gone s d) = (fun s d => amp D ear air fog gone s d) := by
  funext s d; exact amp_cong e _ _ _ _ _ _
/-- the verses' state: of the gorge g, which told D -/
def vst (h : AH) (g : Int) (D : DT) : Prop := (isG g ∧ h 55 0 = g) ∧ eqD D (dC h g) ∧ okD D ∧ vts h D ∧ (∀ i, 0 ≤ i → i < 12 → 0 ≤ h 78 i ∧ h 78 i < 8) ∧ ∀ i, 0 ≤ i → i < 2304 → -2147483648 ≤ h 75 i ∧ h 75 i < 2147483648
theorem vst.eq {h : AH} {g : Int} {D : DT} (hv : vst h g D) : eqD D (dV h) := by
  have e := hv.1.2
  intro k a b
  show dC h (h 55 0) k = _
  rw [e]; exact hv.2.1 k a b
theorem vst.ok {h : AH} {g : Int} {D : DT} (hv : vst h g D) : okD (dV h) := okD_cong hv.eq hv.2.2.1
theorem vst.keep {h h' : AH} {g : Int} {D : DT} (hv : vst h g D) (ec : ∀ c, (c < 47 ∨ 55 < c) → (c < 74 ∨ 79 < c) → h' c = h c) (ej : ∀ j, j ≠ 12 → j ≠ 14 → h' 55 j = h 55 j) (e78 : ∀ i, 0 ≤ i → i < 12 → 0 ≤ h' 78 i ∧ h' 78 i < 8) (e75 : ∀ i, 0 ≤ i → i < 2304 → -2147483648 ≤ h' 75 i ∧ h' 75 i < 2147483648) : vst h' g D := by
  obtain ⟨⟨hg, h0⟩, he, hd, ht, -, -⟩ := hv
  have gs : ∀ k, 0 ≤ k → k ≤ 14 → (g + k < 47 ∨ (55 < g + k ∧ g + k < 74)) := by unfold isG at hg; exact fun k a b => by omega
  refine ⟨⟨hg, by rw [ej 0 (by decide) (by decide)]; exact h0⟩, fun k a b => ?_, hd, ?_, e78, e75⟩
  · have := gs k a b
    rw [← he k a b]
    exact ec (g + k) (by omega) (by omega)
  · unfold vts vtab
    rw [ej 1 (by decide) (by decide), ej 2 (by decide) (by decide), ej 3 (by decide) (by decide), ej 4 (by decide) (by decide), ec 71 (by decide) (by decide), ec 72 (by decide) (by decide), ec 73 (by decide) (by decide)]
    exact ht
