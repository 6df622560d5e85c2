/-! ===== the class: code ===== -/
def codeR (H : Int → Int → Prop) (k x : Int) : Prop := ∃ T : Int → Int, togP H 16 T ∧ ((2 ≤ k ∧ x = T (k - 2)) ∨ ∃ b, bestR T b ∧ ((k = 0 ∧ x = pop16 b) ∨ (k = 1 ∧ x = b)))
theorem codeR.one {H G : Int → Int → Prop} {k x y : Int} (hk : k < 18) (e : ∀ a j : Nat, a < 16 → j < 16 → (H a j ↔ G a j)) (h1 : codeR H k x) (h2 : codeR G k y) : x = y := by
  obtain ⟨T, t1, r1⟩ := h1
  obtain ⟨U, u1, q1⟩ := h2
  have eT := togP.one e t1 u1
  rcases r1 with ⟨a, b⟩ | ⟨a, b, c⟩ <;> rcases q1 with ⟨a', b'⟩ | ⟨a', b', c'⟩
  · have := eT (k - 2).toNat (by omega)
    rw [show (((k - 2).toNat : Nat) : Int) = k - 2 by omega] at this
    rw [b, b', this]
  · omega
  · omega
  · have := bestR.one eT b b'
    rw [this] at c
    omega
theorem c_code {fr : Nat} {s k : Int} {h : AH} (hf : 30 ≤ fr) (rs : R32 s) (rk : R32 k) (he : earC h) :
    Sp mX11_code true fr 8 48 [zR 1, zI s, zI k] 137 h (rIx (fun x h' => ((0 ≤ s ∧ s < h (h 1 4) 0) ∧ 0 ≤ k ∧ k < 18) ∧ codeR (gapH (fun s d => amp (dC h (h 1 4)) 0 (h (h 1 4 + 9) 12) 0 (-1) s d) (h (h 1 4) 0) (h (h 1 4) 4) (h (h 1 4) 5) (h (h 1 4) 6) s) k x ∧ ((∀ c, (c < 47 ∨ 54 < c) → (c < 95 ∨ 97 < c) → h' c = h c) ∧ retOk h' 47 (h 1 4) ∧ sumZ h')) (fun E h' => h' = h ∧ E = NSE ∧ ¬ ((0 ≤ s ∧ s < h (h 1 4) 0) ∧ 0 ≤ k ∧ k < 18))) := by
  refine Sp.mk yX11_code_ok rfl rfl ?_
  obtain ⟨rk1, rk2⟩ := id rk
  have hn := he.now
  obtain ⟨hg, hd, hrt, hz, -⟩ := id he
  have iG : isG (h 1 4) := by unfold isG; omega
  have cg := iG.cel
  have hai : 0 ≤ h (h 1 4 + 9) 12 ∧ h (h 1 4 + 9) 12 ≤ 100 := hd.2.2.2.2.2.2.2.2.2.2.2.2.1 12 (by decide) (by decide)
  refine bX11_code_0 (hS := c_needSound (by omega) rs hn) (kk := ?_) (kx := ?_)
  rotate_left
  · rintro E h' ⟨rfl, rfl, z⟩
    exact ⟨rfl, Or.inr ⟨_, rfl, rfl, rfl, fun w => by omega⟩⟩
  rintro h' ⟨e', s0, s1⟩
  rw [e']; clear e' h'
  refine bX11_code_5 (kt := fun q => bX11_code_15 (hq := ⟨rfl, Or.inr ⟨_, rfl, rfl, rfl, fun w => by omega⟩⟩)) (kf := fun k0 => ?_)
  refine bX11_code_9 (kt := fun k1 => ?_) (kf := fun q => bX11_code_15 (hq := ⟨rfl, Or.inr ⟨_, rfl, rfl, rfl, fun w => by omega⟩⟩))
  refine bX11_code_23 (hS := c_build (by omega) (Or.inl rfl) iG hd hrt (by decide) hai (by decide) (by decide)) (kk := ?_)
  rintro h1 ⟨b1, b2, b3⟩
  have e14 : h1 1 4 = h 1 4 := by rw [b1 1 (by decide)]
  have eg : h1 (h 1 4) = h (h 1 4) := b1 _ (by omega)
  have eD : ∀ k, 0 ≤ k → k ≤ 14 → dC h1 (h 1 4) k = dC h (h 1 4) k := fun k a b => b1 (h 1 4 + k) (by omega)
  refine bX11_code_47 (hS := by rw [e14]; exact c_compare (by omega) iG (okD_cong eD hd) b2 hai (fun j a b => by rw [b1 54 (by decide)]; exact hz j a b) s0 (by rw [eg]; exact s1)) (kk := ?_)
  rintro h2 ⟨⟨k2, z2⟩, t2⟩
  have eA : (fun s d => amp (dC h1 (h 1 4)) 0 (h (h 1 4 + 9) 12) 0 (-1) s d) = (fun s d => amp (dC h (h 1 4)) 0 (h (h 1 4 + 9) 12) 0 (-1) s d) := by funext s d; rw [amp_cong eD]
  rw [eA, eg] at t2
  have kp : ∀ h3 : AH, (∀ c, c ≠ 95 → h3 c = h2 c) → (∀ c, (c < 47 ∨ 54 < c) → (c < 95 ∨ 97 < c) → h3 c = h c) ∧ retOk h3 47 (h 1 4) ∧ sumZ h3 := fun h3 k3 => by
    have k23 : ∀ c, c ≠ 51 → c ≠ 52 → c ≠ 53 → c ≠ 54 → c ≠ 95 → c ≠ 96 → c ≠ 97 → h3 c = h1 c := fun c c1 c2 c3 c4 c5 c6 c7 => by rw [k3 c c5, k2 c c1 c2 c3 c4 c6 c7]
    refine ⟨fun c a b => by rw [k23 c (by omega) (by omega) (by omega) (by omega) (by omega) (by omega) (by omega), b1 c (by omega)], ?_, fun j a b => by rw [k3 54 (by decide)]; exact z2 j a b⟩
    exact retOk_same (k23 _ (by decide) (by decide) (by decide) (by decide) (by decide) (by decide) (by decide)) (k23 _ (by decide) (by decide) (by decide) (by decide) (by decide) (by decide) (by decide)) (k23 _ (by decide) (by decide) (by decide) (by decide) (by decide) (by decide) (by decide)) (k23 _ (by omega) (by omega) (by omega) (by omega) (by omega) (by omega) (by omega)) (fun k a b => k23 (h 1 4 + k) (by omega) (by omega) (by omega) (by omega) (by omega) (by omega) (by omega)) b3
  have al : ((0 ≤ s ∧ s < h (h 1 4) 0) ∧ 0 ≤ k ∧ k < 18) := ⟨⟨s0, s1⟩, k0, k1⟩
  refine bX11_code_67 (kt := fun q => ?_) (kf := fun q => ?_)
  rotate_left
  · exact bX11_code_72 (hq := ⟨rfl, Or.inl ⟨_, rfl, al, ⟨_, t2, Or.inl ⟨q, rfl⟩⟩, kp h2 (fun _ _ => rfl)⟩⟩)
  refine bX11_code_84 (hS := c_choose (by omega) t2.sym (fun a p q => rfl)) (kk := ?_)
  rintro b h3 ⟨k3, hb⟩
  have b0 := hb.1.1
  have b1' := hb.1.2
  refine bX11_code_91 (kt := fun q2 => ?_) (kf := fun q2 => ?_)
  · exact bX11_code_103 (kk := bX11_code_104 (hq := ⟨rfl, Or.inl ⟨_, rfl, al, ⟨_, t2, Or.inr ⟨b, hb, Or.inr ⟨by omega, rfl⟩⟩⟩, kp h3 k3⟩⟩))
  · refine bX11_code_96 (hS := c_bits b0 (by omega)) (kk := ?_)
    rintro x h4 ⟨e4, hx⟩
    rw [e4]; clear e4 h4
    rw [pop_16 hb.1] at hx
    exact bX11_code_100 (kk := bX11_code_104 (hq := ⟨rfl, Or.inl ⟨_, rfl, al, ⟨_, t2, Or.inr ⟨b, hb, Or.inl ⟨q2, hx⟩⟩⟩, kp h3 k3⟩⟩))
