/-! ===== what is heard: the words of both sides ===== -/
/-- sounds 0 .. b-1 are fainter than b, those behind it no louder -/
def loudest (Λ : Int → Int → Int) (nS t b : Int) : Prop := (0 ≤ b ∧ b < nS) ∧ (∀ s, 0 ≤ s → s < nS → Λ t s ≤ Λ t b) ∧ ∀ s, 0 ≤ s → s < b → Λ t s < Λ t b
def heardAs (Λ : Int → Int → Int) (nS least win mar t b : Int) : Prop := loudest Λ nS t b ∧ least ≤ Λ t b ∧ ∀ t', 0 ≤ t' → t - win ≤ t' → t' < t → ∀ s, 0 ≤ s → s < nS → Λ t' s ≤ Λ t b + mar
def HeardR (Λ : Int → Int → Int) (nS least win mar t r : Int) : Prop := heardAs Λ nS least win mar t r ∨ (r = -1 ∧ ∀ b, ¬ heardAs Λ nS least win mar t b)
theorem loudest_one {Λ : Int → Int → Int} {nS t a b : Int} (ha : loudest Λ nS t a) (hb : loudest Λ nS t b) : a = b := by
  obtain ⟨a0, a1, a2⟩ := ha
  obtain ⟨b0, b1, b2⟩ := hb
  rcases Int.lt_trichotomy a b with h | h | h
  · have := b2 a a0.1 h
    have := a1 b b0.1 b0.2
    omega
  · exact h
  · have := a2 b b0.1 h
    have := b1 a a0.1 a0.2
    omega
theorem HeardR.one {Λ : Int → Int → Int} {nS least win mar t r q : Int} (h1 : HeardR Λ nS least win mar t r) (h2 : HeardR Λ nS least win mar t q) : r = q := by
  rcases h1 with h1 | ⟨rfl, h1⟩ <;> rcases h2 with h2 | ⟨rfl, h2⟩
  · exact loudest_one h1.1 h2.1
  · exact absurd h1 (h2 r)
  · exact absurd h2 (h1 q)
  · rfl
theorem HeardR.range {Λ : Int → Int → Int} {nS least win mar t r : Int} (h : HeardR Λ nS least win mar t r) : r = -1 ∨ 0 ≤ r ∧ r < nS := by
  rcases h with h | ⟨rfl, -⟩
  · exact Or.inr h.1.1
  · exact Or.inl rfl
theorem heardAs_cong {Λ M : Int → Int → Int} {nS least win mar t b : Int} (hc : ∀ t' s, 0 ≤ t' → t - win ≤ t' → t' ≤ t → 0 ≤ s → s < nS → Λ t' s = M t' s) (ht : 0 ≤ t) (hw : 0 ≤ win) (h : heardAs Λ nS least win mar t b) : heardAs M nS least win mar t b := by
  obtain ⟨⟨⟨b0, b1⟩, a1, a2⟩, c1, c2⟩ := h
  have e : ∀ s, 0 ≤ s → s < nS → Λ t s = M t s := fun s h0 h1 => hc t s ht (by omega) (by omega) h0 h1
  refine ⟨⟨⟨b0, b1⟩, fun s h0 h1 => ?_, fun s h0 h1 => ?_⟩, ?_, fun t' g0 g1 g2 s h0 h1 => ?_⟩
  · rw [← e s h0 h1, ← e b b0 b1]; exact a1 s h0 h1
  · rw [← e s h0 (by omega), ← e b b0 b1]; exact a2 s h0 h1
  · rw [← e b b0 b1]; exact c1
  · rw [← hc t' s g0 g1 (by omega) h0 h1, ← e b b0 b1]; exact c2 t' g0 g1 g2 s h0 h1
theorem HeardR.cong {Λ M : Int → Int → Int} {nS least win mar t r : Int} (hc : ∀ t' s, 0 ≤ t' → t - win ≤ t' → t' ≤ t → 0 ≤ s → s < nS → Λ t' s = M t' s) (ht : 0 ≤ t) (hw : 0 ≤ win) (h : HeardR Λ nS least win mar t r) : HeardR M nS least win mar t r := by
  rcases h with h | ⟨e, h⟩
  · exact Or.inl (heardAs_cong hc ht hw h)
  · exact Or.inr ⟨e, fun b hb => h b (heardAs_cong (fun t' s a1 a2 a3 a4 a5 => (hc t' s a1 a2 a3 a4 a5).symm) ht hw hb)⟩
/-- the model's row of loudness -/
abbrev lmM (h : AH) : Int → Int → Int := fun t s => h 115 (8 * t + s)
theorem m_hears {fr : Nat} {t : Int} {h : AH} (ht : 0 ≤ t ∧ t < 400) (hs : 0 ≤ h 98 1 ∧ h 98 1 ≤ 8) (hl : 1 ≤ h 98 5 ∧ h 98 5 ≤ 99) (hw : 0 ≤ h 98 6 ∧ h 98 6 ≤ 9) (hm : 0 ≤ h 98 7 ∧ h 98 7 ≤ 99) (hb : ∀ t' s, 0 ≤ t' → t' ≤ t → 0 ≤ s → s < 8 → 0 ≤ h 115 (8 * t' + s) ∧ h 115 (8 * t' + s) < 1000000) :
    Sp mX12_hears true fr 0 0 [zR 98, zI t] 137 h (rI (fun x h' => h' = h ∧ HeardR (lmM h) (h 98 1) (h 98 5) (h 98 6) (h 98 7) t x)) := by
  refine Sp.mk yX12_hears_ok rfl rfl ?_
  refine bX12_hears_0 (kk := ?_)
  -- behind the search for the loudest
  have rest : ∀ (l2 : Int) {b1 b2 : Nat} {x3 : AV}, 0 ≤ l2 → l2 < 8 → (0 < h 98 1 → loudest (lmM h) (h 98 1) t l2) → Wp mX12_hears (kR fr 0 0) (rI (fun x h' => h' = h ∧ HeardR (lmM h) (h 98 1) (h 98 5) (h 98 6) (h 98 7) t x)) (b1, b2) 49 [zR 98, zI t, zI l2, x3, none] [] 137 h := by
    intro l2 b1 b2 x3 g0 g8 hL
    refine bX12_hears_49 (kt := fun q => ?_) (kf := fun q => ?_)
    · refine bX12_hears_74 (hq := ⟨_, rfl, rfl, rfl, Or.inr ⟨rfl, fun b hbb => ?_⟩⟩)
      have := hbb.1.1
      omega
    have hL2 := hL (by omega)
    have v2 := hb t l2 ht.1 (by omega) g0 g8
    refine bX12_hears_56 (kt := fun q2 => ?_) (kf := fun q2 => ?_)
    rotate_left
    · refine bX12_hears_74 (hq := ⟨_, rfl, rfl, rfl, Or.inr ⟨rfl, fun b hbb => ?_⟩⟩)
      have e := loudest_one hbb.1 hL2
      have := hbb.2.1
      rw [e] at this
      simp only [lmM] at this
      omega
    have outer : ∀ (d : Nat) (l3 : Int) {b1 b2 : Nat}, 0 ≤ l3 → l3 + d = t → t - h 98 6 ≤ l3 → (∀ t', 0 ≤ t' → t - h 98 6 ≤ t' → t' < l3 → ∀ s, 0 ≤ s → s < h 98 1 → lmM h t' s ≤ lmM h t l2 + h 98 7) → Wp mX12_hears (kR fr 0 0) (rI (fun x h' => h' = h ∧ HeardR (lmM h) (h 98 1) (h 98 5) (h 98 6) (h 98 7) t x)) (b1, b2) 95 [zR 98, zI t, zI l2, zI l3, none] [] 137 h := by
      intro d
      induction d with
      | zero =>
        intro l3 b1 b2 a0 a1 a2 a3
        refine bX12_hears_95 (kt := fun _ => ?_) (kf := fun q => by omega)
        exact bX12_hears_157 (hq := ⟨_, rfl, rfl, rfl, Or.inl ⟨hL2, q2, fun t' c0 c1 c2 => a3 t' c0 c1 (by omega)⟩⟩)
      | succ d ih =>
        intro l3 b1 b2 a0 a1 a2 a3
        refine bX12_hears_95 (kt := fun q => by omega) (kf := fun q => ?_)
        refine bX12_hears_100 (kk := ?_)
        have inner : ∀ (d2 : Nat) (l4 : Int) {b1 b2 : Nat}, 0 ≤ l4 → l4 + d2 = h 98 1 → (∀ s, 0 ≤ s → s < l4 → lmM h l3 s ≤ lmM h t l2 + h 98 7) → Wp mX12_hears (kR fr 0 0) (rI (fun x h' => h' = h ∧ HeardR (lmM h) (h 98 1) (h 98 5) (h 98 6) (h 98 7) t x)) (b1, b2) 103 [zR 98, zI t, zI l2, zI l3, zI l4] [] 137 h := by
          intro d2
          induction d2 with
          | zero =>
            intro l4 b1 b2 c0 c1 c2
            refine bX12_hears_103 (kt := fun _ => ?_) (kf := fun q => by omega)
            refine bX12_hears_151 (kk := ih (l3 + 1) (by omega) (by omega) (by omega) (fun t' e0 e1 e2 s s0 s1 => ?_))
            by_cases e : t' = l3
            · subst e
              exact c2 s s0 (by omega)
            · exact a3 t' e0 e1 (by omega) s s0 s1
          | succ d2 ih2 =>
            intro l4 b1 b2 c0 c1 c2
            refine bX12_hears_103 (kt := fun q => by omega) (kf := fun q => ?_)
            have v3 := hb l3 l4 a0 (by omega) c0 (by omega)
            refine bX12_hears_112 (kt := fun q3 => ?_) (kf := fun q3 => ?_)
            · refine bX12_hears_145 (kk := ih2 (l4 + 1) (by omega) (by omega) (fun s s0 s1 => ?_))
              by_cases e : s = l4
              · subst e; exact q3
              · exact c2 s s0 (by omega)
            · refine bX12_hears_143 (hq := ⟨_, rfl, rfl, rfl, Or.inr ⟨rfl, fun b hbb => ?_⟩⟩)
              have e := loudest_one hbb.1 hL2
              have z := hbb.2.2 l3 a0 (by omega) (by omega) l4 c0 (by omega)
              rw [e] at z
              simp only [lmM] at z
              omega
        exact inner (h 98 1).toNat 0 (by omega) (by omega) (fun s s0 s1 => by omega)
    refine bX12_hears_76 (kt := fun q3 => ?_) (kf := fun q3 => ?_)
    · exact bX12_hears_88 (kk := bX12_hears_94 (kk := outer (h 98 6).toNat (t - h 98 6) (by omega) (by omega) (by omega) (fun t' c0 c1 c2 => by omega)))
    · exact bX12_hears_84 (kk := bX12_hears_94 (kk := outer t.toNat 0 (by omega) (by omega) (by omega) (fun t' c0 c1 c2 => by omega)))
  -- the search
  have search : ∀ (d : Nat) (l2 l3 : Int) {b1 b2 : Nat}, 1 ≤ l3 → (l3 + d = h 98 1 ∨ (h 98 1 ≤ 1 ∧ l3 = 1 ∧ d = 0)) → 0 ≤ l2 → l2 < l3 → (∀ s, 0 ≤ s → s < l3 → lmM h t s ≤ lmM h t l2) → (∀ s, 0 ≤ s → s < l2 → lmM h t s < lmM h t l2) → Wp mX12_hears (kR fr 0 0) (rI (fun x h' => h' = h ∧ HeardR (lmM h) (h 98 1) (h 98 5) (h 98 6) (h 98 7) t x)) (b1, b2) 4 [zR 98, zI t, zI l2, zI l3, none] [] 137 h := by
    intro d
    induction d with
    | zero =>
      intro l2 l3 b1 b2 a1 a2 a3 a4 a5 a6
      refine bX12_hears_4 (kt := fun q => ?_) (kf := fun q => by omega)
      exact rest l2 a3 (by omega) (fun hp => ⟨⟨a3, by omega⟩, fun s s0 s1 => a5 s s0 (by omega), a6⟩)
    | succ d ih =>
      intro l2 l3 b1 b2 a1 a2 a3 a4 a5 a6
      refine bX12_hears_4 (kt := fun q => by omega) (kf := fun q => ?_)
      have v2 := hb t l2 ht.1 (by omega) a3 (by omega)
      have v3 := hb t l3 ht.1 (by omega) (by omega) (by omega)
      refine bX12_hears_12 (kt := fun q2 => ?_) (kf := fun q2 => ?_)
      · refine bX12_hears_41 (kk := bX12_hears_42 (kk := ih l2 (l3 + 1) (by omega) (by omega) a3 (by omega) (fun s s0 s1 => ?_) a6))
        by_cases e : s = l3
        · subst e; exact q2
        · exact a5 s s0 (by omega)
      · refine bX12_hears_37 (kk := bX12_hears_42 (kk := ih l3 (l3 + 1) (by omega) (by omega) (by omega) (by omega) (fun s s0 s1 => ?_) (fun s s0 s1 => ?_)))
        · by_cases e : s = l3
          · subst e; exact Int.le_refl _
          · have := a5 s s0 (by omega)
            simp only [lmM] at this ⊢
            omega
        · have := a5 s s0 (by omega)
          simp only [lmM] at this ⊢
          omega
  exact search (h 98 1 - 1).toNat 0 1 (by omega) (by omega) (by omega) (by omega) (fun s s0 s1 => by rw [show s = 0 by omega]; exact Int.le_refl _) (fun s s0 s1 => by omega)
