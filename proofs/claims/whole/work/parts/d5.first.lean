/-! ===== the first heap keeps the relation ===== -/
section
variable {h : AH}
def numE (h : AH) : Prop := h 1 1 = 0 ∧ h 1 2 = -1 ∧ h 1 4 = 4 ∧ h 1 5 = 19 ∧ h 1 8 = 0 ∧ h 98 16 = 0 ∧ h 98 18 = -1 ∧ h 98 46 = 0 ∧ h 98 47 = -1 ∧ h 98 50 = 0 ∧ h 98 66 = 0 ∧ h 98 68 = 0 ∧ h 98 78 = 0 ∧ h 98 1 = 0 ∧ h 34 1 = 0 ∧ h 34 3 = 0 ∧ h 34 5 = 0 ∧ h 55 0 = 56 ∧ h 55 1 = 0 ∧ h 55 2 = 0 ∧ h 55 3 = 0 ∧ h 55 4 = 0 ∧ h 47 4 = 0 ∧ h 47 5 = 0 ∧ h 47 6 = 0 ∧ h 47 7 = 0 ∧ h 47 8 = 0 ∧ h 82 2 = 0 ∧ h 88 1 = 0
def cntE (h : AH) : Prop := (h 98 1 = 0 ∧ h 98 2 = 0 ∧ h 98 3 = 0 ∧ h 98 4 = 0 ∧ h 98 5 = 1 ∧ h 98 6 = 0 ∧ h 98 7 = 0) ∧ (h 4 0 = 0 ∧ h 4 1 = 0 ∧ h 4 2 = 0 ∧ h 4 3 = 0 ∧ h 4 4 = 1 ∧ h 4 5 = 0 ∧ h 4 6 = 0)
def zE_ (h : AH) : Prop := ∀ i : Int, h 107 i = 0 ∧ h 3 i = 0 ∧ h 105 i = 0 ∧ h 103 i = 0 ∧ h 128 i = 0 ∧ h 71 i = 0 ∧ h 78 i = 0 ∧ h 75 i = 0 ∧ h 54 i = 0 ∧ h 86 i = 0
def rowE (h : AH) : Prop := ∀ i : Int, (h 35 i = if 0 ≤ i ∧ i < ((200 : Nat) : Int) then 0 else 0) ∧ (h 36 i = if 0 ≤ i ∧ i < ((60 : Nat) : Int) then -1 else 0) ∧ (h 37 i = if 0 ≤ i ∧ i < ((16 : Nat) : Int) then -1 else 0) ∧ (h 38 i = if 0 ≤ i ∧ i < ((3 : Nat) : Int) then 0 else 0) ∧ (h 39 i = if 0 ≤ i ∧ i < ((3 : Nat) : Int) then 0 else 0) ∧ (h 74 i = if 0 ≤ i ∧ i < ((144 : Nat) : Int) then -2 else 0) ∧ (h 104 i = if 0 ≤ i ∧ i < ((24 : Nat) : Int) then 100 else 0) ∧ (h 13 i = if 0 ≤ i ∧ i < ((24 : Nat) : Int) then 100 else 0) ∧ (h 7 i = if 0 ≤ i ∧ i < ((8 : Nat) : Int) then 0 else 0) ∧ (h 12 i = if 0 ≤ i ∧ i < ((3 : Nat) : Int) then 0 else 0) ∧ h 93 i = if 0 ≤ i ∧ i < 961 then ((rootN ((i % 31) * (i % 31) + (i / 31) * (i / 31)).toNat : Nat) : Int) else 0
def sameE (h : AH) : Prop := ∀ i : Int, (h 56 i = h 4 i) ∧ (h 57 i = h 5 i) ∧ (h 58 i = h 6 i) ∧ (h 59 i = h 7 i) ∧ (h 60 i = h 8 i) ∧ (h 61 i = h 9 i) ∧ (h 62 i = h 10 i) ∧ (h 63 i = h 11 i) ∧ (h 64 i = h 12 i) ∧ (h 65 i = h 13 i) ∧ (h 66 i = h 14 i) ∧ (h 67 i = h 15 i) ∧ (h 68 i = h 16 i) ∧ (h 69 i = h 17 i) ∧ h 70 i = h 18 i
theorem E_eqD (S : sameE h) : eqD (dC h 56) (dC h 4) := fun k a b => by
  rcases (show k = 0 ∨ k = 1 ∨ k = 2 ∨ k = 3 ∨ k = 4 ∨ k = 5 ∨ k = 6 ∨ k = 7 ∨ k = 8 ∨ k = 9 ∨ k = 10 ∨ k = 11 ∨ k = 12 ∨ k = 13 ∨ k = 14 by omega) with e | e | e | e | e | e | e | e | e | e | e | e | e | e | e <;> rw [e]
  · exact funext fun i => (S i).1.symm
  · exact funext fun i => (S i).2.1.symm
  · exact funext fun i => (S i).2.2.1.symm
  · exact funext fun i => (S i).2.2.2.1.symm
  · exact funext fun i => (S i).2.2.2.2.1.symm
  · exact funext fun i => (S i).2.2.2.2.2.1.symm
  · exact funext fun i => (S i).2.2.2.2.2.2.1.symm
  · exact funext fun i => (S i).2.2.2.2.2.2.2.1.symm
  · exact funext fun i => (S i).2.2.2.2.2.2.2.2.1.symm
  · exact funext fun i => (S i).2.2.2.2.2.2.2.2.2.1.symm
  · exact funext fun i => (S i).2.2.2.2.2.2.2.2.2.2.1.symm
  · exact funext fun i => (S i).2.2.2.2.2.2.2.2.2.2.2.1.symm
  · exact funext fun i => (S i).2.2.2.2.2.2.2.2.2.2.2.2.1.symm
  · exact funext fun i => (S i).2.2.2.2.2.2.2.2.2.2.2.2.2.1.symm
  · exact funext fun i => (S i).2.2.2.2.2.2.2.2.2.2.2.2.2.2.symm
theorem E_clrC (c : cntE h) (r : rowE h) : clrD (dC h 4) := by
  obtain ⟨-, a0, a1, a2, a3, a4, a5, a6⟩ := c
  refine ⟨⟨a0, a1, a2, a3, a4, a5, a6⟩, fun t a b => ?_, fun e a b => ?_, fun o a b => ?_⟩
  · have := (r t).2.2.2.2.2.2.2.2.1
    show h 7 t = 0
    rw [this, if_pos ⟨a, by omega⟩]
  · have := (r e).2.2.2.2.2.2.2.2.2.1
    show h 12 e = 0
    rw [this, if_pos ⟨a, by omega⟩]
  · have := (r o).2.2.2.2.2.2.2.1
    show h 13 o = 100
    rw [this, if_pos ⟨a, by omega⟩]
theorem E_clrM (c : cntE h) (r : rowE h) (z : zE_ h) : clrD (dM h) := by
  obtain ⟨⟨a0, a1, a2, a3, a4, a5, a6⟩, -⟩ := c
  refine ⟨⟨a0, a1, a2, a3, a4, a5, a6⟩, fun t a b => (z t).2.2.1, fun e a b => (z e).2.2.2.1, fun o a b => ?_⟩
  have := (r o).2.2.2.2.2.2.1
  show h 104 o = 100
  rw [this, if_pos ⟨a, by omega⟩]
theorem REL_first (num : numE h) (c : cntE h) (z : zE_ h) (r : rowE h) (S : sameE h) (h123 : ∀ i : Fin 16, h 123 (i.val : Int) = -1) : REL h := by
  obtain ⟨n11, n12, n14, n15, n18, n16, n98_18, n46, n47, n50, n66, n68, n78, n1, s1, s3, s5, v0, v1, v2, v3, v4, r4, r5, r6, r7, r8, g2, t1⟩ := num
  have cD := E_clrC c r
  have cM := E_clrM c r z
  have okC := cD.ok
  have e35 : ∀ u, 0 ≤ u → u < 200 → h 35 u = 0 := fun u a b => by rw [(r u).1, if_pos ⟨a, by omega⟩]
  have e36 : ∀ u, 0 ≤ u → u < 60 → h 36 u = -1 := fun u a b => by rw [(r u).2.1, if_pos ⟨a, by omega⟩]
  have e37 : ∀ u, 0 ≤ u → u < 16 → h 37 u = -1 := fun u a b => by rw [(r u).2.2.1, if_pos ⟨a, by omega⟩]
  have e38 : ∀ u, 0 ≤ u → u < 3 → h 38 u = 0 := fun u a b => by rw [(r u).2.2.2.1, if_pos ⟨a, by omega⟩]
  have e39 : ∀ u, 0 ≤ u → u < 3 → h 39 u = 0 := fun u a b => by rw [(r u).2.2.2.2.1, if_pos ⟨a, by omega⟩]
  have e128 : ∀ u, h 128 u = 0 := fun u => (z u).2.2.2.2.1
  refine ⟨?_, ?_, ?_, ?_, ⟨n46, n47⟩, ?_, ?_, ?_, ?_, ?_, ?_⟩
  · exact Or.inl ⟨n14, n15⟩
  · refine ⟨by rw [n11]; decide, by rw [n16, n11], fun i a b => ?_⟩
    rw [n11] at b; omega
  · exact ⟨by rw [n98_18, n12], fun j _ _ => by rw [(z j).1, (z j).2.1]⟩
  · refine ⟨cM.ok, ?_⟩
    rw [n14]
    exact cD.sim cM
  · unfold liveR
    rw [n1, n50, n66, n68]
    refine ⟨⟨s1, s3, s5⟩, ⟨by decide, fun k a b => by omega, fun u a b => ?_, fun u s a b c => ?_⟩, ⟨by decide, fun i a b => by omega, fun t a b => ?_⟩, ⟨by decide, fun i a b => ?_⟩, fun e a b => ?_⟩
    · rw [e35 u a b]
      exact ⟨by decide, fun j hj => by rw [bt_zero] at hj; cases hj⟩
    · rw [e35 u (by omega) (by omega), bt_zero]; rfl
    · rw [e36 t a b, if_neg (by omega)]
    · have z1 := h123 ⟨i.toNat, by omega⟩
      have z2 : h 123 i = -1 := by rw [show ((i.toNat : Nat) : Int) = i by omega] at z1; exact z1
      rw [e37 i a b, z2]; decide
    · rw [e38 e a b, e39 e a b, e128, e128]
      decide
  · exact ⟨by rw [n78, n18], Or.inl n18, fun z => by rw [n18] at z; cases z⟩
  · intro y x a b c d
    have := (r (y * 31 + x)).2.2.2.2.2.2.2.2.2.2
    rw [this, if_pos ⟨by omega, by omega⟩, show (y * 31 + x) % 31 = x by omega, show (y * 31 + x) / 31 = y by omega]
  · have e56 := E_eqD S
    have ok56 : okD (dC h 56) := okD_cong e56.symm okC
    have c56 : dC h 56 0 2 = 0 ∧ dC h 56 0 3 = 0 := by
      have := e56 0 (by decide) (by decide)
      rw [← this]; exact ⟨cD.1.2.2.1, cD.1.2.2.2.1⟩
    refine ⟨56, dC h 56, ⟨⟨⟨Or.inr (Or.inr rfl), v0⟩, fun _ _ _ => rfl, ok56, ?_, fun i _ _ => by rw [(z i).2.2.2.2.2.2.1]; decide, fun i _ _ => by rw [(z i).2.2.2.2.2.2.2.1]; decide⟩, Or.inl n14, by rw [n14]; exact e56, ?_, fun s _ _ => (z s).2.2.2.2.2.2.2.2.1, fun l a b => Or.inl ⟨?_, ?_⟩⟩, Or.inl rfl⟩
    · have k0 : ∀ k, kindsD (dC h 56) k = 0 := fun k => by unfold kindsD; rw [c56.1]; rfl
      refine ⟨fun k a b => ⟨by rw [k0]; exact (z k).2.2.2.2.2.1, fun j p q => by rw [k0] at q; omega⟩, fun f hf => by rw [c56.2] at hf; omega, ?_, ?_, ?_, by rw [v4]; decide, fun j hj => by rw [v3, bt_zero] at hj; cases hj⟩
      · rw [v1]; unfold allD; rw [c56.2]; rfl
      · rw [v2]; unfold begD; rw [c56.2]; rfl
      · rw [v3]
        refine ⟨⟨by decide, by decide⟩, fun j => ?_⟩
        rw [bt_zero]
        refine ⟨(fun z => by cases z), (fun ⟨f, ⟨f0, f1⟩, _⟩ => ?_)⟩
        rw [c56.2] at f1; omega
    · exact ⟨Or.inl r4, by rw [r5]; exact R32_0, by rw [r6]; exact R32_0, by rw [r7]; exact R32_0, by rw [r8]; exact R32_0⟩
    · rw [(r (l * 6 + 0)).2.2.2.2.2.1, if_pos ⟨by omega, by omega⟩]
    · rw [(r (l * 6 + 5)).2.2.2.2.2.1, if_pos ⟨by omega, by omega⟩]
  · exact ⟨fun i _ _ => by rw [(z i).2.2.2.2.2.2.2.2.2]; decide, Or.inl g2⟩
  · exact Or.inl t1
end
theorem hE_REL : REL hE := REL_first hE_num hE_cnt hE_z hE_rows hE_same hE_123
theorem flags_at {h : AH} {n : Nat} (hf : flagsOk h n = true) : ∀ (j : Nat) (K : Nat × Nat), j < n → LAY[j]? = some K → ∀ (kf : Nat) (t : Nat × Int), (FT.getD K.1 [])[kf]? = some t → 4 ≤ t.1 → h ((j : Int) + 1) kf ≠ 0 := fun j K hj hK kf t ht h4 => by
  have a := List.all_eq_true.mp hf j (List.mem_range.mpr hj)
  have e : LAY.getD j (0, 0) = K := by rw [List.getD_eq_getElem?_getD, hK]; rfl
  rw [e] at a
  have b := List.all_eq_true.mp a (t, kf) (List.mem_zipIdx_iff_getElem?.mpr ht)
  simp only [Bool.or_eq_true, decide_eq_true_eq] at b
  rcases b with b | b
  · omega
  · exact b
