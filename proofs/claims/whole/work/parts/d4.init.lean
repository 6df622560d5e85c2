/-! ===== the first heap ===== -/
def hE : AH := hX12_init_98 (hX11_init_1 (fun _ _ => 0))
theorem hE_num : hE 1 1 = 0 ∧ hE 1 2 = -1 ∧ hE 1 4 = 4 ∧ hE 1 5 = 19 ∧ hE 1 8 = 0 ∧ hE 98 16 = 0 ∧ hE 98 18 = -1 ∧ hE 98 46 = 0 ∧ hE 98 47 = -1 ∧ hE 98 50 = 0 ∧ hE 98 66 = 0 ∧ hE 98 68 = 0 ∧ hE 98 78 = 0 ∧ hE 98 1 = 0 ∧ hE 34 1 = 0 ∧ hE 34 3 = 0 ∧ hE 34 5 = 0 ∧ hE 55 0 = 56 ∧ hE 55 1 = 0 ∧ hE 55 2 = 0 ∧ hE 55 3 = 0 ∧ hE 55 4 = 0 ∧ hE 47 4 = 0 ∧ hE 47 5 = 0 ∧ hE 47 6 = 0 ∧ hE 47 7 = 0 ∧ hE 47 8 = 0 ∧ hE 82 2 = 0 ∧ hE 88 1 = 0 := by decide +kernel
theorem hE_cnt : (hE 98 1 = 0 ∧ hE 98 2 = 0 ∧ hE 98 3 = 0 ∧ hE 98 4 = 0 ∧ hE 98 5 = 1 ∧ hE 98 6 = 0 ∧ hE 98 7 = 0) ∧ (hE 4 0 = 0 ∧ hE 4 1 = 0 ∧ hE 4 2 = 0 ∧ hE 4 3 = 0 ∧ hE 4 4 = 1 ∧ hE 4 5 = 0 ∧ hE 4 6 = 0) := by decide +kernel
set_option maxRecDepth 100000 in
theorem hE_z (i : Int) : hE 107 i = 0 ∧ hE 3 i = 0 ∧ hE 105 i = 0 ∧ hE 103 i = 0 ∧ hE 128 i = 0 ∧ hE 71 i = 0 ∧ hE 78 i = 0 ∧ hE 75 i = 0 ∧ hE 54 i = 0 ∧ hE 86 i = 0 := ⟨rfl, rfl, rfl, rfl, rfl, rfl, rfl, rfl, rfl, rfl⟩
set_option maxRecDepth 100000 in
theorem hE_rows (i : Int) : (hE 35 i = if 0 ≤ i ∧ i < ((200 : Nat) : Int) then 0 else 0) ∧ (hE 36 i = if 0 ≤ i ∧ i < ((60 : Nat) : Int) then -1 else 0) ∧ (hE 37 i = if 0 ≤ i ∧ i < ((16 : Nat) : Int) then -1 else 0) ∧ (hE 38 i = if 0 ≤ i ∧ i < ((3 : Nat) : Int) then 0 else 0) ∧ (hE 39 i = if 0 ≤ i ∧ i < ((3 : Nat) : Int) then 0 else 0) ∧ (hE 74 i = if 0 ≤ i ∧ i < ((144 : Nat) : Int) then -2 else 0) ∧ (hE 104 i = if 0 ≤ i ∧ i < ((24 : Nat) : Int) then 100 else 0) ∧ (hE 13 i = if 0 ≤ i ∧ i < ((24 : Nat) : Int) then 100 else 0) ∧ (hE 7 i = if 0 ≤ i ∧ i < ((8 : Nat) : Int) then 0 else 0) ∧ (hE 12 i = if 0 ≤ i ∧ i < ((3 : Nat) : Int) then 0 else 0) ∧ hE 93 i = if 0 ≤ i ∧ i < 961 then ((rootN ((i % 31) * (i % 31) + (i / 31) * (i / 31)).toNat : Nat) : Int) else 0 := ⟨rfl, rfl, rfl, rfl, rfl, rfl, rfl, rfl, rfl, rfl, rfl⟩
theorem hE_123 : ∀ i : Fin 16, hE 123 (i.val : Int) = -1 := by decide +kernel
set_option maxRecDepth 100000 in
theorem hE_same : ∀ i : Int, (hE 56 i = hE 4 i) ∧ (hE 57 i = hE 5 i) ∧ (hE 58 i = hE 6 i) ∧ (hE 59 i = hE 7 i) ∧ (hE 60 i = hE 8 i) ∧ (hE 61 i = hE 9 i) ∧ (hE 62 i = hE 10 i) ∧ (hE 63 i = hE 11 i) ∧ (hE 64 i = hE 12 i) ∧ (hE 65 i = hE 13 i) ∧ (hE 66 i = hE 14 i) ∧ (hE 67 i = hE 15 i) ∧ (hE 68 i = hE 16 i) ∧ (hE 69 i = hE 17 i) ∧ hE 70 i = hE 18 i := fun i => ⟨rfl, rfl, rfl, rfl, rfl, rfl, rfl, rfl, rfl, rfl, rfl, rfl, rfl, rfl, rfl⟩
/-- every final reference is there -/
def flagsOk (h : AH) (n : Nat) : Bool := (List.range n).all (fun j => ((FT.getD (LAY.getD j (0, 0)).1 []).zipIdx).all (fun q => decide (q.1.1 < 4) || decide (h ((j : Int) + 1) (q.2 : Int) ≠ 0)))
theorem hE_flags : flagsOk hE 137 = true := by decide +kernel
