/-! ===== the class: gorge ===== -/
section FaultR
variable {T : Int → Int} {n p : Int} {E : DT} {a s m : Int} {k : Int × Int}
theorem numK_inl {lo hi : Int} {K : Int → RES} (hK : ∀ v, K v = .inl k → 1 ≤ k.1 ∧ k.1 ≤ 5) (h : numK T n p lo hi K = .inl k) : 1 ≤ k.1 ∧ k.1 ≤ 5 := by
  by_cases c : numF T n p lo hi = 0
  · rw [numK_ok c] at h; exact hK _ h
  · rw [numK_no c] at h
    have := numF_cases T n p lo hi
    cases h
    dsimp only
    omega
theorem sndK_inl {K : Int → RES} (hK : ∀ v, K v = .inl k → 1 ≤ k.1 ∧ k.1 ≤ 5) (h : sndK T n p E K = .inl k) : 1 ≤ k.1 ∧ k.1 ≤ 5 := by
  by_cases c : sndF T n p E = 0
  · rw [sndK_ok c] at h; exact hK _ h
  · rw [sndK_no c] at h
    have := sndF_cases T n p E
    cases h
    dsimp only
    omega
theorem lit_inl {x q : Int} (hx : 1 ≤ x ∧ x ≤ 5) (h : (Sum.inl (x, q) : RES) = .inl k) : 1 ≤ k.1 ∧ k.1 ≤ 5 := by cases h; exact hx
theorem endR_inl (h : endR T n p E a s m = .inl k) : 1 ≤ k.1 ∧ k.1 ≤ 5 := by
  unfold endR at h
  split at h
  · cases h
  · exact lit_inl (by decide) h
theorem formL_inl {f : Int} : ∀ (d : Nat) (q : Int) (E1 : DT), formL T n f a s m d q E1 = .inl k → 1 ≤ k.1 ∧ k.1 ≤ 5
  | 0, q, E1, h => lit_inl (by decide) h
  | d + 1, q, E1, h => by
    rw [formL] at h
    refine numK_inl (fun v hv => ?_) h
    split at hv
    · exact formL_inl d _ _ hv
    · exact endR_inl hv
theorem wordL_inl {f : Int} : ∀ (d : Nat) (q : Int) (E1 : DT), wordL T n f a s m d q E1 = .inl k → 1 ≤ k.1 ∧ k.1 ≤ 5
  | 0, q, E1, h => lit_inl (by decide) h
  | d + 1, q, E1, h => by
    rw [wordL] at h
    refine sndK_inl (fun v hv => ?_) h
    split at hv
    · exact wordL_inl d _ _ hv
    · exact endR_inl hv
theorem agR_inl {w q : Int} (h : agR T n w a s m q E = .inl k) : 1 ≤ k.1 ∧ k.1 ≤ 5 := by
  unfold agR at h
  split at h
  · exact numK_inl (fun v hv => endR_inl hv) h
  · exact endR_inl h
theorem swL_inl {w : Int} : ∀ (d : Nat) (q : Int) (E1 : DT), swL T n w (agR T n w a s m) d q E1 = .inl k → 1 ≤ k.1 ∧ k.1 ≤ 5
  | 0, q, E1, h => agR_inl h
  | d + 1, q, E1, h => by
    rw [swL] at h
    refine numK_inl (fun v hv => ?_) h
    split at hv
    · exact lit_inl (by decide) hv
    · split at hv
      · exact swL_inl d _ _ hv
      · exact agR_inl hv
theorem rLine_inl (h : rLine T n p E a s m = .inl k) : 1 ≤ k.1 ∧ k.1 ≤ 5 := by
  unfold rLine at h
  split at h
  · unfold rSound at h
    split at h
    · exact lit_inl (by decide) h
    · exact numK_inl (fun v hv => numK_inl (fun v hv => endR_inl hv) hv) h
  split at h
  · unfold rWall at h
    split at h
    · exact lit_inl (by decide) h
    · refine numK_inl (fun v hv => numK_inl (fun v hv => numK_inl (fun v hv => numK_inl (fun v hv => ?_) hv) hv) hv) h
      split at hv
      · exact swL_inl _ _ _ hv
      · exact agR_inl hv
  split at h
  · unfold rStraight at h
    split at h
    · exact lit_inl (by decide) h
    · exact numK_inl (fun v hv => numK_inl (fun v hv => endR_inl hv) hv) h
  split at h
  · unfold rAir at h
    refine numK_inl (fun v hv => ?_) h
    split at hv
    · exact lit_inl (by decide) hv
    · exact numK_inl (fun v hv => endR_inl hv) hv
  split at h
  · unfold rMask at h
    split at h
    · exact lit_inl (by decide) h
    · exact numK_inl (fun v hv => numK_inl (fun v hv => numK_inl (fun v hv => endR_inl hv) hv) hv) h
  split at h
  · unfold rSweet at h
    refine sndK_inl (fun v hv => sndK_inl (fun v hv => ?_) hv) h
    split at hv
    · exact lit_inl (by decide) hv
    · exact endR_inl hv
  split at h
  · unfold rWord at h
    split at h
    · exact lit_inl (by decide) h
    · exact numK_inl (fun v hv => wordL_inl _ _ _ hv) h
  split at h
  · unfold rForm at h
    split at h
    · exact lit_inl (by decide) h
    · exact formL_inl _ _ _ h
  · exact lit_inl (by decide) h
end FaultR
theorem rAll_rng {T : Int → Int} {n : Int} : ∀ (d : Nat) (S : PS) (k : Int × Int), rAll T n d S = .inl k → 1 ≤ k.1 ∧ k.1 ≤ 5
  | 0, S, k, h => by cases h
  | d + 1, ⟨q, E, a, s, m⟩, k, h => by
    by_cases c : kd T n q = 0
    · rw [rAll_end c] at h; cases h
    · cases e : rLine T n q E a s m with
      | inl k' =>
        rw [rAll_no c e] at h
        cases h
        exact rLine_inl e
      | inr S' =>
        rw [rAll_ok c e] at h
        exact rAll_rng d S' k h
def gorOk (h h' : AH) (g : Int) : Prop :=
  (∀ c, c ≠ 1 → ¬ (34 ≤ c ∧ c ≤ 39) → c ≠ 46 → c ≠ 47 → c ≠ 55 → ¬ (71 ≤ c ∧ c ≤ 74) → c ≠ 82 → c ≠ 88 → (c < g ∨ g + 14 < c) → h' c = h c) ∧ (h' 1 1 = 0 ∧ h' 1 2 = -1 ∧ h' 1 4 = g ∧ h' 1 5 = h 1 4 ∧ h' 1 8 = 0) ∧
  (h' 34 1 = 0 ∧ h' 34 3 = 0 ∧ h' 34 5 = 0 ∧ (∀ u, 0 ≤ u → u < 200 → h' 35 u = 0) ∧ (∀ t, 0 ≤ t → t < 60 → h' 36 t = -1) ∧ (∀ i, 0 ≤ i → i < 16 → h' 37 i = -1) ∧ ∀ e, 0 ≤ e → e < 3 → h' 38 e = 0 ∧ h' 39 e = 0) ∧
  (h' 47 4 = 0 ∧ ∀ j, j ≠ 4 → h' 47 j = h 47 j) ∧ (h' 55 0 = g ∧ vts h' (dC h' g) ∧ (∀ j, 5 ≤ j → h' 55 j = h 55 j) ∧ ∀ i, 0 ≤ i → i < 144 → h' 74 i = -2) ∧ (h' 82 2 = 0 ∧ ∀ j, j ≠ 2 → h' 82 j = h 82 j) ∧ (h' 88 1 = 0 ∧ ∀ j, j ≠ 1 → h' 88 j = h 88 j)
def gorNo (h h' : AH) (g q : Int) : Prop := (∀ c, c ≠ 1 → c ≠ 3 → c ≠ 46 → (c < g ∨ g + 14 < c) → h' c = h c) ∧ (∀ j, j ≠ 1 → j ≠ 2 → h' 1 j = h 1 j) ∧ h' 1 1 = 0 ∧ h' 1 2 = q ∧ h' 3 0 = h 3 0 + 1 ∧ ∀ j, j ≠ 0 → h' 3 j = h 3 j
theorem c_gorge {fr : Nat} {n : Int} {T : Int → Int} {h : AH} (hf : 30 ≤ fr) (rn : R32 n) (ht0 : 0 ≤ h 1 1 ∧ h 1 1 ≤ 700) (hg : (h 1 4 = 4 ∧ h 1 5 = 19) ∨ (h 1 4 = 19 ∧ h 1 5 = 4)) (ht : ∀ i, 0 ≤ i → i < h 1 1 → (-128 ≤ h 2 i ∧ h 2 i < 128) ∧ h 2 i % 256 = T i) :
    Sp mX11_gorge true fr 8 48 [zR 1, zI n] 137 h (rIx (fun x h' => (0 ≤ n ∧ n ≤ h 1 1) ∧ ∃ E0, clrD E0 ∧ ((x = 0 ∧ ∃ S : PS, rAll T n 700 (0, E0, 0, 0, 0) = .inr S ∧ okD S.2.1 ∧ eqD S.2.1 (dC h' (h 1 5)) ∧ gorOk h h' (h 1 5)) ∨ (x ≠ 0 ∧ ∃ q, rAll T n 700 (0, E0, 0, 0, 0) = .inl (x, q) ∧ gorNo h h' (h 1 5) q))) (fun E h' => h' = h ∧ E = IAE ∧ ¬ (0 ≤ n ∧ n ≤ h 1 1))) := by
  refine Sp.mk yX11_gorge_ok rfl rfl ?_
  obtain ⟨rn1, rn2⟩ := rn
  have bad : ∀ x0 x1 x2 x3 : AV, ¬ (0 ≤ n ∧ n ≤ h 1 1) → Wp mX11_gorge (kR fr 8 48) (rIx (fun x h' => (0 ≤ n ∧ n ≤ h 1 1) ∧ ∃ E0, clrD E0 ∧ ((x = 0 ∧ ∃ S : PS, rAll T n 700 (0, E0, 0, 0, 0) = .inr S ∧ okD S.2.1 ∧ eqD S.2.1 (dC h' (h 1 5)) ∧ gorOk h h' (h 1 5)) ∨ (x ≠ 0 ∧ ∃ q, rAll T n 700 (0, E0, 0, 0, 0) = .inl (x, q) ∧ gorNo h h' (h 1 5) q))) (fun E h' => h' = h ∧ E = IAE ∧ ¬ (0 ≤ n ∧ n ≤ h 1 1))) (8, 48) 12 [x0, x1, x2, x3] [] 137 h := fun _ _ _ _ z => bX11_gorge_12 (hq := ⟨rfl, Or.inr ⟨_, rfl, rfl, rfl, z⟩⟩)
  refine bX11_gorge_0 (kt := fun q => bad _ _ _ _ (by omega)) (kf := fun n0 => ?_)
  refine bX11_gorge_4 (kt := fun n1 => ?_) (kf := fun q => bad _ _ _ _ (by omega))
  have g5 : h 1 5 = 4 ∨ h 1 5 = 19 := by omega
  generalize hgg : h 1 5 = g at *
  refine bX11_gorge_20 (hS := by rw [hgg]; exact c_read (T := T) (by omega) g5 n0 (by omega) (fun i a b => by rw [up_n (by decide)]; exact ht i a (by omega))) (kk := ?_)
  rintro x h1 ⟨k1, E0, c0, hx⟩
  have kc : ∀ c, c ≠ 1 → c ≠ 46 → (c < g ∨ g + 14 < c) → h1 c = h c := fun c a b d => by rw [k1 c b d, up_n a]
  have kj : ∀ j, j ≠ 1 → h1 1 j = h 1 j := fun j a => by rw [k1 1 (by decide) (by clear hx; omega), up_cn a]
  have k11 : h1 1 1 = 0 := by rw [k1 1 (by decide) (by clear hx; omega), up_ci]
  have xr : R32 x := by
    rcases hx with ⟨rfl, -⟩ | ⟨nx, q, e, -⟩
    · exact R32_0
    · have := rAll_rng (T := T) (n := n) 700 (0, E0, 0, 0, 0) (x, q) e
      dsimp only at this
      constructor <;> omega
  refine bX11_gorge_41 (r1 := xr) (kt := fun z => ?_) (kf := fun z => ?_)
  rotate_left
  · rcases hx with ⟨y, -⟩ | ⟨nx, q, e, e11⟩
    · exact absurd y z
    refine bX11_gorge_46 (hq := ⟨rfl, Or.inl ⟨_, rfl, ⟨n0, n1⟩, E0, c0, Or.inr ⟨nx, q, e, ?_⟩⟩⟩)
    refine ⟨fun c a b d f => by rw [up_n b, up_n a]; exact kc c a d f, fun j a b => by rw [up_n (by decide), up_cn b]; exact kj j a, ?_, ?_, ?_, fun j a => ?_⟩
    · rw [up_n (by decide), up_cn (by decide)]; exact k11
    · rw [up_n (by decide), up_ci]; exact e11
    · rw [up_ci, kc 3 (by decide) (by decide) (by omega)]
    · rw [up_cn a, up_n (by decide), kc 3 (by decide) (by decide) (by omega)]
  rcases hx with ⟨-, S, e, eS, oS⟩ | ⟨y, -⟩
  rotate_left
  · exact absurd z y
  have f4 : h1 1 4 = h 1 4 := kj 4 (by decide)
  have f5 : h1 1 5 = g := by rw [kj 5 (by decide), hgg]
  refine bX11_gorge_69 (hS := c_clearScene (by omega) e34) (kk := ?_)
  rintro h2 e2
  generalize hh1 : up (up (up h1 1 2 (-1)) 1 4 (h1 1 5)) 1 5 (h1 1 4) = h1' at e2
  have a1 : ∀ c, c ≠ 1 → h1' c = h1 c := fun c a => by rw [← hh1, up_n a, up_n a, up_n a]
  have b1 : ∀ j, j ≠ 2 → j ≠ 4 → j ≠ 5 → h1' 1 j = h1 1 j := fun j a b c => by rw [← hh1, up_cn c, up_cn b, up_cn a]
  have fn : ∀ {k : AH} {b v : Int} {N : Nat} {c : Int}, c ≠ b → fil k b v N c = k c := fun z => by unfold fil; rw [if_neg z]
  have fi : ∀ {k : AH} {b v : Int} {N : Nat} {i : Int}, 0 ≤ i → i < N → fil k b v N b i = v := fun x y => by unfold fil; rw [if_pos rfl, if_pos ⟨x, y⟩]
  have a2 : ∀ c, ¬ (34 ≤ c ∧ c ≤ 39) → h2 c = h1' c := fun c a => by rw [e2, fn (by omega), fn (by omega), up_n (by omega), fn (by omega), up_n (by omega), fn (by omega), up_n (by omega), fn (by omega)]
  have s1 : h2 34 1 = 0 := by rw [e2, fn (by decide), fn (by decide), up_cn (by decide), fn (by decide), up_cn (by decide), fn (by decide), up_ci]
  have s3 : h2 34 3 = 0 := by rw [e2, fn (by decide), fn (by decide), up_cn (by decide), fn (by decide), up_ci]
  have s5 : h2 34 5 = 0 := by rw [e2, fn (by decide), fn (by decide), up_ci]
  have s35 : ∀ u, 0 ≤ u → u < 200 → h2 35 u = 0 := fun u a b => by rw [e2, fn (by decide), fn (by decide), up_n (by decide), fn (by decide), up_n (by decide), fn (by decide), up_n (by decide)]; exact fi a (by omega)
  have s36 : ∀ u, 0 ≤ u → u < 60 → h2 36 u = -1 := fun u a b => by rw [e2, fn (by decide), fn (by decide), up_n (by decide), fn (by decide), up_n (by decide)]; exact fi a (by omega)
  have s37 : ∀ u, 0 ≤ u → u < 16 → h2 37 u = -1 := fun u a b => by rw [e2, fn (by decide), fn (by decide), up_n (by decide)]; exact fi a (by omega)
  have s38 : ∀ u, 0 ≤ u → u < 3 → h2 38 u = 0 ∧ h2 39 u = 0 := fun u a b => by
    refine ⟨?_, ?_⟩
    · rw [e2, fn (by decide)]; exact fi a (by omega)
    · rw [e2]; exact fi a (by omega)
  clear e2
  refine bX11_gorge_99 (hS := c_forgetR e47) (kk := ?_)
  rintro h3 e3
  have a3 : ∀ c, c ≠ 1 → c ≠ 47 → h3 c = h2 c := fun c a b => by rw [e3, up_n b, up_n a]
  have b3 : ∀ j, j ≠ 8 → h3 1 j = h2 1 j := fun j a => by rw [e3, up_n (by decide), up_cn a]
  have c3 : h3 1 8 = 0 := by rw [e3, up_n (by decide), up_ci]
  have d3 : h3 47 4 = 0 := by rw [e3, up_ci]
  have d3' : ∀ j, j ≠ 4 → h3 47 j = h2 47 j := fun j a => by rw [e3, up_cn a, up_n (by decide)]
  clear e3
  have g3 : h3 1 4 = g := by rw [b3 4 (by decide), a2 1 (by decide), ← hh1, up_cn (by decide), up_ci, f5]
  have dG : ∀ k, 0 ≤ k → k ≤ 14 → h3 (g + k) = S.2.1 k := fun k a b => by rw [a3 _ (by omega) (by omega), a2 _ (by omega), a1 _ (by omega)]; exact eS k a b
  have isg : isG g := by unfold isG; omega
  have eqE : eqD S.2.1 (dC h3 g) := dG
  refine bX11_gorge_111 (hS := by rw [g3]; exact c_adopt (by omega) isg (okD_cong eqE oS)) (kk := ?_)
  rintro h4 ⟨⟨a4, b4⟩, c4, v4, w4⟩
  refine bX11_gorge_122 (hS := c_forgetG) (kk := ?_)
  rintro h5 rfl
  refine bX11_gorge_129 (hS := c_forgetT) (kk := ?_)
  rintro h6 rfl
  have all : ∀ c, c ≠ 82 → c ≠ 88 → up (up h4 82 2 0) 88 1 0 c = h4 c := fun c a b => by rw [up_n b, up_n a]
  have eD : ∀ k, 0 ≤ k → k ≤ 14 → up (up h4 82 2 0) 88 1 0 (g + k) = h3 (g + k) := fun k a b => by rw [all _ (by omega) (by omega), a4 _ (by omega) (by omega)]
  have eD4 : eqD (dC h3 g) (dC (up (up h4 82 2 0) 88 1 0) g) := eD
  refine bX11_gorge_136 (hq := ⟨rfl, Or.inl ⟨_, rfl, ⟨n0, n1⟩, E0, c0, Or.inl ⟨rfl, S, e, oS, fun k a b => ?_, ?_⟩⟩⟩)
  · show up (up h4 82 2 0) 88 1 0 (g + k) = _
    rw [eD k a b]; exact dG k a b
  have o1 : ∀ j, up (up h4 82 2 0) 88 1 0 1 j = h3 1 j := fun j => by rw [all 1 (by decide) (by decide), a4 1 (by decide) (by decide)]
  refine ⟨fun c n1 n2 n3 n4 n5 n6 n7 n8 n9 => ?_, ⟨?_, ?_, ?_, ?_, ?_⟩, ⟨?_, ?_, ?_, fun u a b => ?_, fun u a b => ?_, fun u a b => ?_, fun u a b => ?_⟩, ⟨?_, fun j a => ?_⟩, ⟨?_, ?_, fun j a => ?_, fun i a b => ?_⟩, ⟨?_, fun j a => ?_⟩, ?_, fun j a => ?_⟩
  · rw [all c n7 n8, a4 c (by omega) n5, a3 c n1 n4, a2 c n2, a1 c n1]; exact kc c n1 n3 n9
  · rw [o1, b3 1 (by decide), a2 1 (by decide), b1 1 (by decide) (by decide) (by decide)]; exact k11
  · rw [o1, b3 2 (by decide), a2 1 (by decide), ← hh1, up_cn (by decide), up_cn (by decide), up_ci]
  · rw [o1]; exact g3
  · rw [o1, b3 5 (by decide), a2 1 (by decide), ← hh1, up_ci]; exact f4
  · rw [o1]; exact c3
  · rw [all _ (by decide) (by decide), a4 _ (by decide) (by decide), a3 _ (by decide) (by decide)]; exact s1
  · rw [all _ (by decide) (by decide), a4 _ (by decide) (by decide), a3 _ (by decide) (by decide)]; exact s3
  · rw [all _ (by decide) (by decide), a4 _ (by decide) (by decide), a3 _ (by decide) (by decide)]; exact s5
  · rw [all _ (by decide) (by decide), a4 _ (by decide) (by decide), a3 _ (by decide) (by decide)]; exact s35 u a b
  · rw [all _ (by decide) (by decide), a4 _ (by decide) (by decide), a3 _ (by decide) (by decide)]; exact s36 u a b
  · rw [all _ (by decide) (by decide), a4 _ (by decide) (by decide), a3 _ (by decide) (by decide)]; exact s37 u a b
  · rw [all _ (by decide) (by decide), a4 _ (by decide) (by decide), a3 _ (by decide) (by decide), all _ (by decide) (by decide), a4 _ (by decide) (by decide), a3 _ (by decide) (by decide)]; exact s38 u a b
  · rw [all _ (by decide) (by decide), a4 _ (by decide) (by decide)]; exact d3
  · rw [all _ (by decide) (by decide), a4 _ (by decide) (by decide), d3' j a, a2 _ (by decide), a1 _ (by decide), kc 47 (by decide) (by decide) (by omega)]
  · rw [all _ (by decide) (by decide)]; exact c4
  · rw [vts_c eD4]
    unfold vts vtab at v4 ⊢
    rw [all 55 (by decide) (by decide), all 71 (by decide) (by decide), all 72 (by decide) (by decide), all 73 (by decide) (by decide)]
    exact v4
  · rw [all _ (by decide) (by decide), b4 j a, a3 _ (by decide) (by decide), a2 _ (by decide), a1 _ (by decide), kc 55 (by decide) (by decide) (by omega)]
  · rw [all _ (by decide) (by decide)]; exact w4 i a b
  · rw [up_n (by decide), up_ci]
  · rw [up_n (by decide), up_cn a, a4 _ (by decide) (by decide), a3 _ (by decide) (by decide), a2 _ (by decide), a1 _ (by decide), kc 82 (by decide) (by decide) (by omega)]
  · rw [up_ci]
  · rw [up_cn a, up_n (by decide), a4 _ (by decide) (by decide), a3 _ (by decide) (by decide), a2 _ (by decide), a1 _ (by decide), kc 88 (by decide) (by decide) (by omega)]
