theorem gwt {w : Cond} {i : Nat} (h : tables_1[i]? = some w) (g : goodWord w = true) : w ∈ GW := gw_in (List.mem_append_right _ (List.mem_of_getElem? h)) g
theorem gws {w : Cond} {i : Nat} (h : (k2_sels lw_privs)[i]? = some w) (g : goodWord w = true) : w ∈ GW := gw_in (List.mem_append_left _ (List.mem_of_getElem? h)) g
theorem ne0 {n : Nat} {c : Int} {K : Nat × Nat} (h : cel n c K) : c ≠ 0 := by have := h.1; omega
theorem w8_ok (x : Int) : (Int32.ofInt (w8 x)).toInt8.toInt32 = Int32.ofInt (w8 x) := by
  unfold w8
  rw [ofI]
  have := pk_vb (Int32.ofInt x)
  rw [vp_nar_byte] at this
  exact this
theorem bool_nar {x : Int} (h : x = 0 ∨ x = 1) : narrow .boolean (.int (Int32.ofInt x)) = .int (Int32.ofInt x) := by rcases h with rfl | rfl <;> decide
theorem bool_ok {x : Int} (h : x = 0 ∨ x = 1) : vp_nar .boolean (Int32.ofInt x) = Int32.ofInt x := by rcases h with rfl | rfl <;> decide

theorem e1 : cel 137 1 (11, 18) := ⟨by decide, by decide, rfl⟩
theorem e2 : cel 137 2 (101, 700) := ⟨by decide, by decide, rfl⟩
theorem e3 : cel 137 3 (100, 3) := ⟨by decide, by decide, rfl⟩
theorem e4 : cel 137 4 (2, 21) := ⟨by decide, by decide, rfl⟩
theorem e5 : cel 137 5 (100, 8) := ⟨by decide, by decide, rfl⟩
theorem e6 : cel 137 6 (100, 8) := ⟨by decide, by decide, rfl⟩
theorem e7 : cel 137 7 (100, 8) := ⟨by decide, by decide, rfl⟩
theorem e8 : cel 137 8 (100, 18) := ⟨by decide, by decide, rfl⟩
theorem e9 : cel 137 9 (100, 6) := ⟨by decide, by decide, rfl⟩
theorem e10 : cel 137 10 (100, 6) := ⟨by decide, by decide, rfl⟩
theorem e11 : cel 137 11 (100, 6) := ⟨by decide, by decide, rfl⟩
theorem e12 : cel 137 12 (100, 3) := ⟨by decide, by decide, rfl⟩
theorem e13 : cel 137 13 (100, 24) := ⟨by decide, by decide, rfl⟩
theorem e14 : cel 137 14 (100, 8) := ⟨by decide, by decide, rfl⟩
theorem e15 : cel 137 15 (100, 8) := ⟨by decide, by decide, rfl⟩
theorem e16 : cel 137 16 (100, 32) := ⟨by decide, by decide, rfl⟩
theorem e17 : cel 137 17 (100, 6) := ⟨by decide, by decide, rfl⟩
theorem e18 : cel 137 18 (100, 18) := ⟨by decide, by decide, rfl⟩
theorem e19 : cel 137 19 (2, 21) := ⟨by decide, by decide, rfl⟩
theorem e20 : cel 137 20 (100, 8) := ⟨by decide, by decide, rfl⟩
theorem e21 : cel 137 21 (100, 8) := ⟨by decide, by decide, rfl⟩
theorem e22 : cel 137 22 (100, 8) := ⟨by decide, by decide, rfl⟩
theorem e23 : cel 137 23 (100, 18) := ⟨by decide, by decide, rfl⟩
theorem e24 : cel 137 24 (100, 6) := ⟨by decide, by decide, rfl⟩
theorem e25 : cel 137 25 (100, 6) := ⟨by decide, by decide, rfl⟩
theorem e26 : cel 137 26 (100, 6) := ⟨by decide, by decide, rfl⟩
theorem e27 : cel 137 27 (100, 3) := ⟨by decide, by decide, rfl⟩
theorem e28 : cel 137 28 (100, 24) := ⟨by decide, by decide, rfl⟩
theorem e29 : cel 137 29 (100, 8) := ⟨by decide, by decide, rfl⟩
theorem e30 : cel 137 30 (100, 8) := ⟨by decide, by decide, rfl⟩
theorem e31 : cel 137 31 (100, 32) := ⟨by decide, by decide, rfl⟩
theorem e32 : cel 137 32 (100, 6) := ⟨by decide, by decide, rfl⟩
theorem e33 : cel 137 33 (100, 18) := ⟨by decide, by decide, rfl⟩
theorem e34 : cel 137 34 (8, 8) := ⟨by decide, by decide, rfl⟩
theorem e35 : cel 137 35 (100, 200) := ⟨by decide, by decide, rfl⟩
theorem e36 : cel 137 36 (100, 60) := ⟨by decide, by decide, rfl⟩
theorem e37 : cel 137 37 (100, 16) := ⟨by decide, by decide, rfl⟩
theorem e38 : cel 137 38 (100, 3) := ⟨by decide, by decide, rfl⟩
theorem e39 : cel 137 39 (100, 3) := ⟨by decide, by decide, rfl⟩
theorem e40 : cel 137 40 (8, 8) := ⟨by decide, by decide, rfl⟩
theorem e41 : cel 137 41 (100, 200) := ⟨by decide, by decide, rfl⟩
theorem e42 : cel 137 42 (100, 60) := ⟨by decide, by decide, rfl⟩
theorem e43 : cel 137 43 (100, 16) := ⟨by decide, by decide, rfl⟩
theorem e44 : cel 137 44 (100, 3) := ⟨by decide, by decide, rfl⟩
theorem e45 : cel 137 45 (100, 3) := ⟨by decide, by decide, rfl⟩
theorem e46 : cel 137 46 (6, 12) := ⟨by decide, by decide, rfl⟩
theorem e47 : cel 137 47 (7, 9) := ⟨by decide, by decide, rfl⟩
theorem e48 : cel 137 48 (100, 19) := ⟨by decide, by decide, rfl⟩
theorem e49 : cel 137 49 (100, 152) := ⟨by decide, by decide, rfl⟩
theorem e50 : cel 137 50 (100, 8) := ⟨by decide, by decide, rfl⟩
theorem e51 : cel 137 51 (4, 9) := ⟨by decide, by decide, rfl⟩
theorem e52 : cel 137 52 (100, 400) := ⟨by decide, by decide, rfl⟩
theorem e53 : cel 137 53 (100, 400) := ⟨by decide, by decide, rfl⟩
theorem e54 : cel 137 54 (100, 8) := ⟨by decide, by decide, rfl⟩
theorem e55 : cel 137 55 (10, 16) := ⟨by decide, by decide, rfl⟩
theorem e56 : cel 137 56 (2, 21) := ⟨by decide, by decide, rfl⟩
theorem e57 : cel 137 57 (100, 8) := ⟨by decide, by decide, rfl⟩
theorem e58 : cel 137 58 (100, 8) := ⟨by decide, by decide, rfl⟩
theorem e59 : cel 137 59 (100, 8) := ⟨by decide, by decide, rfl⟩
theorem e60 : cel 137 60 (100, 18) := ⟨by decide, by decide, rfl⟩
theorem e61 : cel 137 61 (100, 6) := ⟨by decide, by decide, rfl⟩
theorem e62 : cel 137 62 (100, 6) := ⟨by decide, by decide, rfl⟩
theorem e63 : cel 137 63 (100, 6) := ⟨by decide, by decide, rfl⟩
theorem e64 : cel 137 64 (100, 3) := ⟨by decide, by decide, rfl⟩
theorem e65 : cel 137 65 (100, 24) := ⟨by decide, by decide, rfl⟩
theorem e66 : cel 137 66 (100, 8) := ⟨by decide, by decide, rfl⟩
theorem e67 : cel 137 67 (100, 8) := ⟨by decide, by decide, rfl⟩
theorem e68 : cel 137 68 (100, 32) := ⟨by decide, by decide, rfl⟩
theorem e69 : cel 137 69 (100, 6) := ⟨by decide, by decide, rfl⟩
theorem e70 : cel 137 70 (100, 18) := ⟨by decide, by decide, rfl⟩
theorem e71 : cel 137 71 (100, 4) := ⟨by decide, by decide, rfl⟩
theorem e72 : cel 137 72 (100, 32) := ⟨by decide, by decide, rfl⟩
theorem e73 : cel 137 73 (100, 6) := ⟨by decide, by decide, rfl⟩
theorem e74 : cel 137 74 (100, 144) := ⟨by decide, by decide, rfl⟩
theorem e75 : cel 137 75 (100, 2304) := ⟨by decide, by decide, rfl⟩
theorem e76 : cel 137 76 (100, 3) := ⟨by decide, by decide, rfl⟩
theorem e77 : cel 137 77 (100, 12) := ⟨by decide, by decide, rfl⟩
theorem e78 : cel 137 78 (100, 12) := ⟨by decide, by decide, rfl⟩
theorem e79 : cel 137 79 (100, 8) := ⟨by decide, by decide, rfl⟩
theorem e80 : cel 137 80 (0, 1) := ⟨by decide, by decide, rfl⟩
theorem e81 : cel 137 81 (100, 8) := ⟨by decide, by decide, rfl⟩
theorem e82 : cel 137 82 (3, 8) := ⟨by decide, by decide, rfl⟩
theorem e83 : cel 137 83 (100, 6) := ⟨by decide, by decide, rfl⟩
theorem e84 : cel 137 84 (7, 9) := ⟨by decide, by decide, rfl⟩
theorem e85 : cel 137 85 (100, 19) := ⟨by decide, by decide, rfl⟩
theorem e86 : cel 137 86 (100, 152) := ⟨by decide, by decide, rfl⟩
theorem e87 : cel 137 87 (100, 8) := ⟨by decide, by decide, rfl⟩
theorem e88 : cel 137 88 (9, 9) := ⟨by decide, by decide, rfl⟩
theorem e89 : cel 137 89 (100, 3) := ⟨by decide, by decide, rfl⟩
theorem e90 : cel 137 90 (100, 60) := ⟨by decide, by decide, rfl⟩
theorem e91 : cel 137 91 (100, 14) := ⟨by decide, by decide, rfl⟩
theorem e92 : cel 137 92 (5, 2) := ⟨by decide, by decide, rfl⟩
theorem e93 : cel 137 93 (100, 961) := ⟨by decide, by decide, rfl⟩
theorem e94 : cel 137 94 (100, 992) := ⟨by decide, by decide, rfl⟩
theorem e95 : cel 137 95 (1, 5) := ⟨by decide, by decide, rfl⟩
theorem e96 : cel 137 96 (100, 16) := ⟨by decide, by decide, rfl⟩
theorem e97 : cel 137 97 (100, 18) := ⟨by decide, by decide, rfl⟩
theorem e98 : cel 137 98 (12, 87) := ⟨by decide, by decide, rfl⟩
theorem e99 : cel 137 99 (100, 16) := ⟨by decide, by decide, rfl⟩
theorem e100 : cel 137 100 (100, 36) := ⟨by decide, by decide, rfl⟩
theorem e101 : cel 137 101 (100, 48) := ⟨by decide, by decide, rfl⟩
theorem e102 : cel 137 102 (100, 24) := ⟨by decide, by decide, rfl⟩
theorem e103 : cel 137 103 (100, 3) := ⟨by decide, by decide, rfl⟩
theorem e104 : cel 137 104 (100, 24) := ⟨by decide, by decide, rfl⟩
theorem e105 : cel 137 105 (100, 8) := ⟨by decide, by decide, rfl⟩
theorem e106 : cel 137 106 (100, 700) := ⟨by decide, by decide, rfl⟩
theorem e107 : cel 137 107 (100, 3) := ⟨by decide, by decide, rfl⟩
theorem e108 : cel 137 108 (100, 16) := ⟨by decide, by decide, rfl⟩
theorem e109 : cel 137 109 (100, 36) := ⟨by decide, by decide, rfl⟩
theorem e110 : cel 137 110 (100, 48) := ⟨by decide, by decide, rfl⟩
theorem e111 : cel 137 111 (100, 24) := ⟨by decide, by decide, rfl⟩
theorem e112 : cel 137 112 (100, 3) := ⟨by decide, by decide, rfl⟩
theorem e113 : cel 137 113 (100, 24) := ⟨by decide, by decide, rfl⟩
theorem e114 : cel 137 114 (100, 8) := ⟨by decide, by decide, rfl⟩
theorem e115 : cel 137 115 (100, 3200) := ⟨by decide, by decide, rfl⟩
theorem e116 : cel 137 116 (100, 200) := ⟨by decide, by decide, rfl⟩
theorem e117 : cel 137 117 (100, 200) := ⟨by decide, by decide, rfl⟩
theorem e118 : cel 137 118 (100, 3) := ⟨by decide, by decide, rfl⟩
theorem e119 : cel 137 119 (100, 12) := ⟨by decide, by decide, rfl⟩
theorem e120 : cel 137 120 (100, 160) := ⟨by decide, by decide, rfl⟩
theorem e121 : cel 137 121 (100, 3) := ⟨by decide, by decide, rfl⟩
theorem e122 : cel 137 122 (100, 6) := ⟨by decide, by decide, rfl⟩
theorem e123 : cel 137 123 (100, 16) := ⟨by decide, by decide, rfl⟩
theorem e124 : cel 137 124 (100, 60) := ⟨by decide, by decide, rfl⟩
theorem e125 : cel 137 125 (100, 1351) := ⟨by decide, by decide, rfl⟩
theorem e126 : cel 137 126 (103, 1351) := ⟨by decide, by decide, rfl⟩
theorem e127 : cel 137 127 (100, 14) := ⟨by decide, by decide, rfl⟩
theorem e128 : cel 137 128 (100, 6) := ⟨by decide, by decide, rfl⟩
theorem e129 : cel 137 129 (102, 961) := ⟨by decide, by decide, rfl⟩
theorem e130 : cel 137 130 (102, 961) := ⟨by decide, by decide, rfl⟩
theorem e131 : cel 137 131 (100, 16) := ⟨by decide, by decide, rfl⟩
theorem e132 : cel 137 132 (100, 200) := ⟨by decide, by decide, rfl⟩
theorem e133 : cel 137 133 (100, 200) := ⟨by decide, by decide, rfl⟩
theorem e134 : cel 137 134 (100, 60) := ⟨by decide, by decide, rfl⟩
theorem e135 : cel 137 135 (100, 16) := ⟨by decide, by decide, rfl⟩
theorem e136 : cel 137 136 (100, 6) := ⟨by decide, by decide, rfl⟩
theorem e137 : cel 137 137 (103, 1) := ⟨by decide, by decide, rfl⟩
theorem fin_X2_7 {o : Int} (h : cel 137 o (2, 21)) : cel 137 (o + 1) (100, 8) := by
  have hh : ∀ j : Fin 137, LAY[(j : Nat)]? = some (2, 21) → LAY[(j : Nat) + 1]? = some (100, 8) := by decide +kernel
  have hm : ∀ j : Fin 137, LAY[(j : Nat)]? = some (2, 21) → (j : Nat) + 1 < 137 := by decide +kernel
  obtain ⟨h1, h2, h3⟩ := h
  have a := hh ⟨(o - 1).toNat, by omega⟩ h3
  have b := hm ⟨(o - 1).toNat, by omega⟩ h3
  exact ⟨by omega, by simp only at b; omega, by rw [show (o + 1 - 1).toNat = (o - 1).toNat + 1 by omega]; exact a⟩
theorem fin_X2_8 {o : Int} (h : cel 137 o (2, 21)) : cel 137 (o + 2) (100, 8) := by
  have hh : ∀ j : Fin 137, LAY[(j : Nat)]? = some (2, 21) → LAY[(j : Nat) + 2]? = some (100, 8) := by decide +kernel
  have hm : ∀ j : Fin 137, LAY[(j : Nat)]? = some (2, 21) → (j : Nat) + 2 < 137 := by decide +kernel
  obtain ⟨h1, h2, h3⟩ := h
  have a := hh ⟨(o - 1).toNat, by omega⟩ h3
  have b := hm ⟨(o - 1).toNat, by omega⟩ h3
  exact ⟨by omega, by simp only at b; omega, by rw [show (o + 2 - 1).toNat = (o - 1).toNat + 2 by omega]; exact a⟩
theorem fin_X2_9 {o : Int} (h : cel 137 o (2, 21)) : cel 137 (o + 3) (100, 8) := by
  have hh : ∀ j : Fin 137, LAY[(j : Nat)]? = some (2, 21) → LAY[(j : Nat) + 3]? = some (100, 8) := by decide +kernel
  have hm : ∀ j : Fin 137, LAY[(j : Nat)]? = some (2, 21) → (j : Nat) + 3 < 137 := by decide +kernel
  obtain ⟨h1, h2, h3⟩ := h
  have a := hh ⟨(o - 1).toNat, by omega⟩ h3
  have b := hm ⟨(o - 1).toNat, by omega⟩ h3
  exact ⟨by omega, by simp only at b; omega, by rw [show (o + 3 - 1).toNat = (o - 1).toNat + 3 by omega]; exact a⟩
theorem fin_X2_10 {o : Int} (h : cel 137 o (2, 21)) : cel 137 (o + 4) (100, 18) := by
  have hh : ∀ j : Fin 137, LAY[(j : Nat)]? = some (2, 21) → LAY[(j : Nat) + 4]? = some (100, 18) := by decide +kernel
  have hm : ∀ j : Fin 137, LAY[(j : Nat)]? = some (2, 21) → (j : Nat) + 4 < 137 := by decide +kernel
  obtain ⟨h1, h2, h3⟩ := h
  have a := hh ⟨(o - 1).toNat, by omega⟩ h3
  have b := hm ⟨(o - 1).toNat, by omega⟩ h3
  exact ⟨by omega, by simp only at b; omega, by rw [show (o + 4 - 1).toNat = (o - 1).toNat + 4 by omega]; exact a⟩
theorem fin_X2_11 {o : Int} (h : cel 137 o (2, 21)) : cel 137 (o + 5) (100, 6) := by
  have hh : ∀ j : Fin 137, LAY[(j : Nat)]? = some (2, 21) → LAY[(j : Nat) + 5]? = some (100, 6) := by decide +kernel
  have hm : ∀ j : Fin 137, LAY[(j : Nat)]? = some (2, 21) → (j : Nat) + 5 < 137 := by decide +kernel
  obtain ⟨h1, h2, h3⟩ := h
  have a := hh ⟨(o - 1).toNat, by omega⟩ h3
  have b := hm ⟨(o - 1).toNat, by omega⟩ h3
  exact ⟨by omega, by simp only at b; omega, by rw [show (o + 5 - 1).toNat = (o - 1).toNat + 5 by omega]; exact a⟩
theorem fin_X2_12 {o : Int} (h : cel 137 o (2, 21)) : cel 137 (o + 6) (100, 6) := by
  have hh : ∀ j : Fin 137, LAY[(j : Nat)]? = some (2, 21) → LAY[(j : Nat) + 6]? = some (100, 6) := by decide +kernel
  have hm : ∀ j : Fin 137, LAY[(j : Nat)]? = some (2, 21) → (j : Nat) + 6 < 137 := by decide +kernel
  obtain ⟨h1, h2, h3⟩ := h
  have a := hh ⟨(o - 1).toNat, by omega⟩ h3
  have b := hm ⟨(o - 1).toNat, by omega⟩ h3
  exact ⟨by omega, by simp only at b; omega, by rw [show (o + 6 - 1).toNat = (o - 1).toNat + 6 by omega]; exact a⟩
theorem fin_X2_13 {o : Int} (h : cel 137 o (2, 21)) : cel 137 (o + 7) (100, 6) := by
  have hh : ∀ j : Fin 137, LAY[(j : Nat)]? = some (2, 21) → LAY[(j : Nat) + 7]? = some (100, 6) := by decide +kernel
  have hm : ∀ j : Fin 137, LAY[(j : Nat)]? = some (2, 21) → (j : Nat) + 7 < 137 := by decide +kernel
  obtain ⟨h1, h2, h3⟩ := h
  have a := hh ⟨(o - 1).toNat, by omega⟩ h3
  have b := hm ⟨(o - 1).toNat, by omega⟩ h3
  exact ⟨by omega, by simp only at b; omega, by rw [show (o + 7 - 1).toNat = (o - 1).toNat + 7 by omega]; exact a⟩
theorem fin_X2_14 {o : Int} (h : cel 137 o (2, 21)) : cel 137 (o + 8) (100, 3) := by
  have hh : ∀ j : Fin 137, LAY[(j : Nat)]? = some (2, 21) → LAY[(j : Nat) + 8]? = some (100, 3) := by decide +kernel
  have hm : ∀ j : Fin 137, LAY[(j : Nat)]? = some (2, 21) → (j : Nat) + 8 < 137 := by decide +kernel
  obtain ⟨h1, h2, h3⟩ := h
  have a := hh ⟨(o - 1).toNat, by omega⟩ h3
  have b := hm ⟨(o - 1).toNat, by omega⟩ h3
  exact ⟨by omega, by simp only at b; omega, by rw [show (o + 8 - 1).toNat = (o - 1).toNat + 8 by omega]; exact a⟩
theorem fin_X2_15 {o : Int} (h : cel 137 o (2, 21)) : cel 137 (o + 9) (100, 24) := by
  have hh : ∀ j : Fin 137, LAY[(j : Nat)]? = some (2, 21) → LAY[(j : Nat) + 9]? = some (100, 24) := by decide +kernel
  have hm : ∀ j : Fin 137, LAY[(j : Nat)]? = some (2, 21) → (j : Nat) + 9 < 137 := by decide +kernel
  obtain ⟨h1, h2, h3⟩ := h
  have a := hh ⟨(o - 1).toNat, by omega⟩ h3
  have b := hm ⟨(o - 1).toNat, by omega⟩ h3
  exact ⟨by omega, by simp only at b; omega, by rw [show (o + 9 - 1).toNat = (o - 1).toNat + 9 by omega]; exact a⟩
theorem fin_X2_16 {o : Int} (h : cel 137 o (2, 21)) : cel 137 (o + 10) (100, 8) := by
  have hh : ∀ j : Fin 137, LAY[(j : Nat)]? = some (2, 21) → LAY[(j : Nat) + 10]? = some (100, 8) := by decide +kernel
  have hm : ∀ j : Fin 137, LAY[(j : Nat)]? = some (2, 21) → (j : Nat) + 10 < 137 := by decide +kernel
  obtain ⟨h1, h2, h3⟩ := h
  have a := hh ⟨(o - 1).toNat, by omega⟩ h3
  have b := hm ⟨(o - 1).toNat, by omega⟩ h3
  exact ⟨by omega, by simp only at b; omega, by rw [show (o + 10 - 1).toNat = (o - 1).toNat + 10 by omega]; exact a⟩
theorem fin_X2_17 {o : Int} (h : cel 137 o (2, 21)) : cel 137 (o + 11) (100, 8) := by
  have hh : ∀ j : Fin 137, LAY[(j : Nat)]? = some (2, 21) → LAY[(j : Nat) + 11]? = some (100, 8) := by decide +kernel
  have hm : ∀ j : Fin 137, LAY[(j : Nat)]? = some (2, 21) → (j : Nat) + 11 < 137 := by decide +kernel
  obtain ⟨h1, h2, h3⟩ := h
  have a := hh ⟨(o - 1).toNat, by omega⟩ h3
  have b := hm ⟨(o - 1).toNat, by omega⟩ h3
  exact ⟨by omega, by simp only at b; omega, by rw [show (o + 11 - 1).toNat = (o - 1).toNat + 11 by omega]; exact a⟩
theorem fin_X2_18 {o : Int} (h : cel 137 o (2, 21)) : cel 137 (o + 12) (100, 32) := by
  have hh : ∀ j : Fin 137, LAY[(j : Nat)]? = some (2, 21) → LAY[(j : Nat) + 12]? = some (100, 32) := by decide +kernel
  have hm : ∀ j : Fin 137, LAY[(j : Nat)]? = some (2, 21) → (j : Nat) + 12 < 137 := by decide +kernel
  obtain ⟨h1, h2, h3⟩ := h
  have a := hh ⟨(o - 1).toNat, by omega⟩ h3
  have b := hm ⟨(o - 1).toNat, by omega⟩ h3
  exact ⟨by omega, by simp only at b; omega, by rw [show (o + 12 - 1).toNat = (o - 1).toNat + 12 by omega]; exact a⟩
theorem fin_X2_19 {o : Int} (h : cel 137 o (2, 21)) : cel 137 (o + 13) (100, 6) := by
  have hh : ∀ j : Fin 137, LAY[(j : Nat)]? = some (2, 21) → LAY[(j : Nat) + 13]? = some (100, 6) := by decide +kernel
  have hm : ∀ j : Fin 137, LAY[(j : Nat)]? = some (2, 21) → (j : Nat) + 13 < 137 := by decide +kernel
  obtain ⟨h1, h2, h3⟩ := h
  have a := hh ⟨(o - 1).toNat, by omega⟩ h3
  have b := hm ⟨(o - 1).toNat, by omega⟩ h3
  exact ⟨by omega, by simp only at b; omega, by rw [show (o + 13 - 1).toNat = (o - 1).toNat + 13 by omega]; exact a⟩
theorem fin_X2_20 {o : Int} (h : cel 137 o (2, 21)) : cel 137 (o + 14) (100, 18) := by
  have hh : ∀ j : Fin 137, LAY[(j : Nat)]? = some (2, 21) → LAY[(j : Nat) + 14]? = some (100, 18) := by decide +kernel
  have hm : ∀ j : Fin 137, LAY[(j : Nat)]? = some (2, 21) → (j : Nat) + 14 < 137 := by decide +kernel
  obtain ⟨h1, h2, h3⟩ := h
  have a := hh ⟨(o - 1).toNat, by omega⟩ h3
  have b := hm ⟨(o - 1).toNat, by omega⟩ h3
  exact ⟨by omega, by simp only at b; omega, by rw [show (o + 14 - 1).toNat = (o - 1).toNat + 14 by omega]; exact a⟩
theorem fin_X7_0 {o : Int} (h : cel 137 o (7, 9)) : cel 137 (o + 1) (100, 19) := by
  have hh : ∀ j : Fin 137, LAY[(j : Nat)]? = some (7, 9) → LAY[(j : Nat) + 1]? = some (100, 19) := by decide +kernel
  have hm : ∀ j : Fin 137, LAY[(j : Nat)]? = some (7, 9) → (j : Nat) + 1 < 137 := by decide +kernel
  obtain ⟨h1, h2, h3⟩ := h
  have a := hh ⟨(o - 1).toNat, by omega⟩ h3
  have b := hm ⟨(o - 1).toNat, by omega⟩ h3
  exact ⟨by omega, by simp only at b; omega, by rw [show (o + 1 - 1).toNat = (o - 1).toNat + 1 by omega]; exact a⟩
theorem fin_X7_1 {o : Int} (h : cel 137 o (7, 9)) : cel 137 (o + 2) (100, 152) := by
  have hh : ∀ j : Fin 137, LAY[(j : Nat)]? = some (7, 9) → LAY[(j : Nat) + 2]? = some (100, 152) := by decide +kernel
  have hm : ∀ j : Fin 137, LAY[(j : Nat)]? = some (7, 9) → (j : Nat) + 2 < 137 := by decide +kernel
  obtain ⟨h1, h2, h3⟩ := h
  have a := hh ⟨(o - 1).toNat, by omega⟩ h3
  have b := hm ⟨(o - 1).toNat, by omega⟩ h3
  exact ⟨by omega, by simp only at b; omega, by rw [show (o + 2 - 1).toNat = (o - 1).toNat + 2 by omega]; exact a⟩
theorem fin_X7_3 {o : Int} (h : cel 137 o (7, 9)) : cel 137 (o + 3) (100, 8) := by
  have hh : ∀ j : Fin 137, LAY[(j : Nat)]? = some (7, 9) → LAY[(j : Nat) + 3]? = some (100, 8) := by decide +kernel
  have hm : ∀ j : Fin 137, LAY[(j : Nat)]? = some (7, 9) → (j : Nat) + 3 < 137 := by decide +kernel
  obtain ⟨h1, h2, h3⟩ := h
  have a := hh ⟨(o - 1).toNat, by omega⟩ h3
  have b := hm ⟨(o - 1).toNat, by omega⟩ h3
  exact ⟨by omega, by simp only at b; omega, by rw [show (o + 3 - 1).toNat = (o - 1).toNat + 3 by omega]; exact a⟩
theorem fin_X8_0 {o : Int} (h : cel 137 o (8, 8)) : cel 137 (o + 1) (100, 200) := by
  have hh : ∀ j : Fin 137, LAY[(j : Nat)]? = some (8, 8) → LAY[(j : Nat) + 1]? = some (100, 200) := by decide +kernel
  have hm : ∀ j : Fin 137, LAY[(j : Nat)]? = some (8, 8) → (j : Nat) + 1 < 137 := by decide +kernel
  obtain ⟨h1, h2, h3⟩ := h
  have a := hh ⟨(o - 1).toNat, by omega⟩ h3
  have b := hm ⟨(o - 1).toNat, by omega⟩ h3
  exact ⟨by omega, by simp only at b; omega, by rw [show (o + 1 - 1).toNat = (o - 1).toNat + 1 by omega]; exact a⟩
theorem fin_X8_2 {o : Int} (h : cel 137 o (8, 8)) : cel 137 (o + 2) (100, 60) := by
  have hh : ∀ j : Fin 137, LAY[(j : Nat)]? = some (8, 8) → LAY[(j : Nat) + 2]? = some (100, 60) := by decide +kernel
  have hm : ∀ j : Fin 137, LAY[(j : Nat)]? = some (8, 8) → (j : Nat) + 2 < 137 := by decide +kernel
  obtain ⟨h1, h2, h3⟩ := h
  have a := hh ⟨(o - 1).toNat, by omega⟩ h3
  have b := hm ⟨(o - 1).toNat, by omega⟩ h3
  exact ⟨by omega, by simp only at b; omega, by rw [show (o + 2 - 1).toNat = (o - 1).toNat + 2 by omega]; exact a⟩
theorem fin_X8_4 {o : Int} (h : cel 137 o (8, 8)) : cel 137 (o + 3) (100, 16) := by
  have hh : ∀ j : Fin 137, LAY[(j : Nat)]? = some (8, 8) → LAY[(j : Nat) + 3]? = some (100, 16) := by decide +kernel
  have hm : ∀ j : Fin 137, LAY[(j : Nat)]? = some (8, 8) → (j : Nat) + 3 < 137 := by decide +kernel
  obtain ⟨h1, h2, h3⟩ := h
  have a := hh ⟨(o - 1).toNat, by omega⟩ h3
  have b := hm ⟨(o - 1).toNat, by omega⟩ h3
  exact ⟨by omega, by simp only at b; omega, by rw [show (o + 3 - 1).toNat = (o - 1).toNat + 3 by omega]; exact a⟩
theorem fin_X8_6 {o : Int} (h : cel 137 o (8, 8)) : cel 137 (o + 4) (100, 3) := by
  have hh : ∀ j : Fin 137, LAY[(j : Nat)]? = some (8, 8) → LAY[(j : Nat) + 4]? = some (100, 3) := by decide +kernel
  have hm : ∀ j : Fin 137, LAY[(j : Nat)]? = some (8, 8) → (j : Nat) + 4 < 137 := by decide +kernel
  obtain ⟨h1, h2, h3⟩ := h
  have a := hh ⟨(o - 1).toNat, by omega⟩ h3
  have b := hm ⟨(o - 1).toNat, by omega⟩ h3
  exact ⟨by omega, by simp only at b; omega, by rw [show (o + 4 - 1).toNat = (o - 1).toNat + 4 by omega]; exact a⟩
theorem fin_X8_7 {o : Int} (h : cel 137 o (8, 8)) : cel 137 (o + 5) (100, 3) := by
  have hh : ∀ j : Fin 137, LAY[(j : Nat)]? = some (8, 8) → LAY[(j : Nat) + 5]? = some (100, 3) := by decide +kernel
  have hm : ∀ j : Fin 137, LAY[(j : Nat)]? = some (8, 8) → (j : Nat) + 5 < 137 := by decide +kernel
  obtain ⟨h1, h2, h3⟩ := h
  have a := hh ⟨(o - 1).toNat, by omega⟩ h3
  have b := hm ⟨(o - 1).toNat, by omega⟩ h3
  exact ⟨by omega, by simp only at b; omega, by rw [show (o + 5 - 1).toNat = (o - 1).toNat + 5 by omega]; exact a⟩
theorem in_X0 : ∀ w ∈ u_ws RX0 TX0 1, w ∈ GW := by
  have h : u_ws RX0 TX0 1 = ([421] : List Nat).filterMap (fun i => tables_1[i]?) := by decide +kernel
  have g : (u_ws RX0 TX0 1).all goodWord = true := by decide +kernel
  intro w hw
  refine gw_in ?_ (List.all_eq_true.mp g w hw)
  rw [h] at hw
  obtain ⟨i, -, hi⟩ := List.mem_filterMap.mp hw
  exact List.mem_append_right _ (List.mem_of_getElem? hi)
theorem ci_X0 : CI 0 1 RX0 TX0 tyX0 := ⟨rfl, in_X0, tyX0_ok, nmX0, rfl, by decide, by decide +kernel⟩
theorem in_X1 : ∀ w ∈ u_ws RX1 TX1 5, w ∈ GW := by
  have h : u_ws RX1 TX1 5 = ([518, 520, 522, 524, 526] : List Nat).filterMap (fun i => tables_1[i]?) := by decide +kernel
  have g : (u_ws RX1 TX1 5).all goodWord = true := by decide +kernel
  intro w hw
  refine gw_in ?_ (List.all_eq_true.mp g w hw)
  rw [h] at hw
  obtain ⟨i, -, hi⟩ := List.mem_filterMap.mp hw
  exact List.mem_append_right _ (List.mem_of_getElem? hi)
theorem ci_X1 : CI 1 5 RX1 TX1 tyX1 := ⟨rfl, in_X1, tyX1_ok, nmX1, rfl, by decide, by decide +kernel⟩
theorem in_X2 : ∀ w ∈ u_ws RX2 TX2 21, w ∈ GW := by
  have h : u_ws RX2 TX2 21 = ([131, 133, 135, 137, 139, 141, 143, 145, 147, 149, 151, 153, 155, 157, 159, 161, 163, 165, 167, 169, 171] : List Nat).filterMap (fun i => tables_1[i]?) := by decide +kernel
  have g : (u_ws RX2 TX2 21).all goodWord = true := by decide +kernel
  intro w hw
  refine gw_in ?_ (List.all_eq_true.mp g w hw)
  rw [h] at hw
  obtain ⟨i, -, hi⟩ := List.mem_filterMap.mp hw
  exact List.mem_append_right _ (List.mem_of_getElem? hi)
theorem ci_X2 : CI 2 21 RX2 TX2 tyX2 := ⟨rfl, in_X2, tyX2_ok, nmX2, rfl, by decide, by decide +kernel⟩
theorem in_X3 : ∀ w ∈ u_ws RX3 TX3 8, w ∈ GW := by
  have h : u_ws RX3 TX3 8 = ([441, 443, 445, 447, 449, 451, 453, 455] : List Nat).filterMap (fun i => tables_1[i]?) := by decide +kernel
  have g : (u_ws RX3 TX3 8).all goodWord = true := by decide +kernel
  intro w hw
  refine gw_in ?_ (List.all_eq_true.mp g w hw)
  rw [h] at hw
  obtain ⟨i, -, hi⟩ := List.mem_filterMap.mp hw
  exact List.mem_append_right _ (List.mem_of_getElem? hi)
theorem ci_X3 : CI 3 8 RX3 TX3 tyX3 := ⟨rfl, in_X3, tyX3_ok, nmX3, rfl, by decide, by decide +kernel⟩
theorem in_X4 : ∀ w ∈ u_ws RX4 TX4 9, w ∈ GW := by
  have h : u_ws RX4 TX4 9 = ([335, 337, 339, 341, 343, 345, 347, 349, 351] : List Nat).filterMap (fun i => tables_1[i]?) := by decide +kernel
  have g : (u_ws RX4 TX4 9).all goodWord = true := by decide +kernel
  intro w hw
  refine gw_in ?_ (List.all_eq_true.mp g w hw)
  rw [h] at hw
  obtain ⟨i, -, hi⟩ := List.mem_filterMap.mp hw
  exact List.mem_append_right _ (List.mem_of_getElem? hi)
theorem ci_X4 : CI 4 9 RX4 TX4 tyX4 := ⟨rfl, in_X4, tyX4_ok, nmX4, rfl, by decide, by decide +kernel⟩
theorem in_X5 : ∀ w ∈ u_ws RX5 TX5 2, w ∈ GW := by
  have h : u_ws RX5 TX5 2 = ([501, 503] : List Nat).filterMap (fun i => tables_1[i]?) := by decide +kernel
  have g : (u_ws RX5 TX5 2).all goodWord = true := by decide +kernel
  intro w hw
  refine gw_in ?_ (List.all_eq_true.mp g w hw)
  rw [h] at hw
  obtain ⟨i, -, hi⟩ := List.mem_filterMap.mp hw
  exact List.mem_append_right _ (List.mem_of_getElem? hi)
theorem ci_X5 : CI 5 2 RX5 TX5 tyX5 := ⟨rfl, in_X5, tyX5_ok, nmX5, rfl, by decide, by decide +kernel⟩
theorem in_X6 : ∀ w ∈ u_ws RX6 TX6 12, w ∈ GW := by
  have h : u_ws RX6 TX6 12 = ([254, 256, 258, 260, 262, 264, 266, 268, 270, 272, 274, 276] : List Nat).filterMap (fun i => tables_1[i]?) := by decide +kernel
  have g : (u_ws RX6 TX6 12).all goodWord = true := by decide +kernel
  intro w hw
  refine gw_in ?_ (List.all_eq_true.mp g w hw)
  rw [h] at hw
  obtain ⟨i, -, hi⟩ := List.mem_filterMap.mp hw
  exact List.mem_append_right _ (List.mem_of_getElem? hi)
theorem ci_X6 : CI 6 12 RX6 TX6 tyX6 := ⟨rfl, in_X6, tyX6_ok, nmX6, rfl, by decide, by decide +kernel⟩
theorem in_X7 : ∀ w ∈ u_ws RX7 TX7 9, w ∈ GW := by
  have h : u_ws RX7 TX7 9 = ([301, 303, 305, 307, 309, 311, 313, 315, 317] : List Nat).filterMap (fun i => tables_1[i]?) := by decide +kernel
  have g : (u_ws RX7 TX7 9).all goodWord = true := by decide +kernel
  intro w hw
  refine gw_in ?_ (List.all_eq_true.mp g w hw)
  rw [h] at hw
  obtain ⟨i, -, hi⟩ := List.mem_filterMap.mp hw
  exact List.mem_append_right _ (List.mem_of_getElem? hi)
theorem ci_X7 : CI 7 9 RX7 TX7 tyX7 := ⟨rfl, in_X7, tyX7_ok, nmX7, rfl, by decide, by decide +kernel⟩
theorem in_X8 : ∀ w ∈ u_ws RX8 TX8 8, w ∈ GW := by
  have h : u_ws RX8 TX8 8 = ([218, 220, 222, 224, 226, 228, 230, 232] : List Nat).filterMap (fun i => tables_1[i]?) := by decide +kernel
  have g : (u_ws RX8 TX8 8).all goodWord = true := by decide +kernel
  intro w hw
  refine gw_in ?_ (List.all_eq_true.mp g w hw)
  rw [h] at hw
  obtain ⟨i, -, hi⟩ := List.mem_filterMap.mp hw
  exact List.mem_append_right _ (List.mem_of_getElem? hi)
theorem ci_X8 : CI 8 8 RX8 TX8 tyX8 := ⟨rfl, in_X8, tyX8_ok, nmX8, rfl, by decide, by decide +kernel⟩
theorem in_X9 : ∀ w ∈ u_ws RX9 TX9 9, w ∈ GW := by
  have h : u_ws RX9 TX9 9 = ([474, 476, 478, 480, 482, 484, 486, 488, 490] : List Nat).filterMap (fun i => tables_1[i]?) := by decide +kernel
  have g : (u_ws RX9 TX9 9).all goodWord = true := by decide +kernel
  intro w hw
  refine gw_in ?_ (List.all_eq_true.mp g w hw)
  rw [h] at hw
  obtain ⟨i, -, hi⟩ := List.mem_filterMap.mp hw
  exact List.mem_append_right _ (List.mem_of_getElem? hi)
theorem ci_X9 : CI 9 9 RX9 TX9 tyX9 := ⟨rfl, in_X9, tyX9_ok, nmX9, rfl, by decide, by decide +kernel⟩
theorem in_X10 : ∀ w ∈ u_ws RX10 TX10 16, w ∈ GW := by
  have h : u_ws RX10 TX10 16 = ([381, 383, 385, 387, 389, 391, 393, 395, 397, 399, 401, 403, 405, 407, 409, 411] : List Nat).filterMap (fun i => tables_1[i]?) := by decide +kernel
  have g : (u_ws RX10 TX10 16).all goodWord = true := by decide +kernel
  intro w hw
  refine gw_in ?_ (List.all_eq_true.mp g w hw)
  rw [h] at hw
  obtain ⟨i, -, hi⟩ := List.mem_filterMap.mp hw
  exact List.mem_append_right _ (List.mem_of_getElem? hi)
theorem ci_X10 : CI 10 16 RX10 TX10 tyX10 := ⟨rfl, in_X10, tyX10_ok, nmX10, rfl, by decide, by decide +kernel⟩
theorem in_X11 : ∀ w ∈ u_ws RX11 TX11 18, w ∈ GW := by
  have h : u_ws RX11 TX11 18 = ([547, 549, 551, 553, 555, 557, 559, 561, 563, 565, 567, 569, 571, 573, 575, 577, 579, 581] : List Nat).filterMap (fun i => tables_1[i]?) := by decide +kernel
  have g : (u_ws RX11 TX11 18).all goodWord = true := by decide +kernel
  intro w hw
  refine gw_in ?_ (List.all_eq_true.mp g w hw)
  rw [h] at hw
  obtain ⟨i, -, hi⟩ := List.mem_filterMap.mp hw
  exact List.mem_append_right _ (List.mem_of_getElem? hi)
theorem ci_X11 : CI 11 18 RX11 TX11 tyX11 := ⟨rfl, in_X11, tyX11_ok, nmX11, rfl, by decide, by decide +kernel⟩
theorem in_X12 : ∀ w ∈ u_ws RX12 TX12 87, w ∈ GW := by
  have h : u_ws RX12 TX12 87 = ([1402, 1404, 1406, 1408, 1410, 1412, 1414, 1416, 1418, 1420, 1422, 1424, 1426, 1428, 1430, 1432, 1434, 1436, 1438, 1440, 1442, 1444, 1446, 1448, 1450, 1452, 1454, 1456, 1458, 1460, 1462, 1464, 1466, 1468, 1470, 1472, 1474, 1476, 1478, 1480, 1482, 1484, 1486, 1488, 1490, 1492, 1494, 1496, 1498, 1500, 1502, 1504, 1506, 1508, 1510, 1512, 1514, 1516, 1518, 1520, 1522, 1524, 1526, 1528, 1530, 1532, 1534, 1536, 1538, 1540, 1542, 1544, 1546, 1548, 1550, 1552, 1554, 1556, 1558, 1560, 1562, 1564, 1566, 1568, 1570, 1572, 1574] : List Nat).filterMap (fun i => tables_1[i]?) := by decide +kernel
  have g : (u_ws RX12 TX12 87).all goodWord = true := by decide +kernel
  intro w hw
  refine gw_in ?_ (List.all_eq_true.mp g w hw)
  rw [h] at hw
  obtain ⟨i, -, hi⟩ := List.mem_filterMap.mp hw
  exact List.mem_append_right _ (List.mem_of_getElem? hi)
theorem ci_X12 : CI 12 87 RX12 TX12 tyX12 := ⟨rfl, in_X12, tyX12_ok, nmX12, rfl, by decide, by decide +kernel⟩
abbrev mX0_init : YD := (RX0, yX0_init, cX0_init, 1, none, [], true, false)
abbrev mX0_clashes : YD := (RX0, yX0_clashes, cX0_clashes, 7, (some .int), [], false, false)
abbrev mX0_rests : YD := (RX0, yX0_rests, cX0_rests, 5, (some .int), [], false, false)
abbrev mX0_listen : YD := (RX0, yX0_listen, cX0_listen, 9, (some .int), [], false, false)
abbrev mX0_isClash : YD := (RX0, yX0_isClash, cX0_isClash, 4, (some .boolean), [], false, false)
abbrev mX1_init : YD := (RX1, yX1_init, cX1_init, 1, none, [], true, false)
abbrev mX1_compare : YD := (RX1, yX1_compare, cX1_compare, 9, none, [], false, false)
abbrev mX1_heardGaps : YD := (RX1, yX1_heardGaps, cX1_heardGaps, 4, (some .int), [], false, false)
abbrev mX1_choose : YD := (RX1, yX1_choose, cX1_choose, 1, (some .int), [], false, false)
abbrev mX1_extend : YD := (RX1, yX1_extend, cX1_extend, 5, none, [], false, false)
abbrev mX1_weigh : YD := (RX1, yX1_weigh, cX1_weigh, 5, none, [], false, false)
abbrev mX2_init : YD := (RX2, yX2_init, cX2_init, 1, none, [], true, false)
abbrev mX2_clear : YD := (RX2, yX2_clear, cX2_clear, 1, none, [], false, false)
abbrev mX2_swallowsSound : YD := (RX2, yX2_swallowsSound, cX2_swallowsSound, 3, (some .boolean), [], false, false)
abbrev mX2_foggedShare : YD := (RX2, yX2_foggedShare, cX2_foggedShare, 3, (some .int), [], false, false)
abbrev mX3_init : YD := (RX3, yX3_init, cX3_init, 1, none, [], true, false)
abbrev mX3_forget : YD := (RX3, yX3_forget, cX3_forget, 1, none, [], false, false)
abbrev mX3_find : YD := (RX3, yX3_find, cX3_find, 5, none, [], false, false)
abbrev mX3_searchAll : YD := (RX3, yX3_searchAll, cX3_searchAll, 9, none, [], false, false)
abbrev mX3_firstMiss : YD := (RX3, yX3_firstMiss, cX3_firstMiss, 5, (some .int), [], false, false)
abbrev mX3_take : YD := (RX3, yX3_take, cX3_take, 5, none, [], false, false)
abbrev mX3_findNext : YD := (RX3, yX3_findNext, cX3_findNext, 4, none, [], false, false)
abbrev mX3_greatestGroup : YD := (RX3, yX3_greatestGroup, cX3_greatestGroup, 4, (some .int), [], false, false)
abbrev mX4_init : YD := (RX4, yX4_init, cX4_init, 1, none, [], true, false)
abbrev mX4_attend : YD := (RX4, yX4_attend, cX4_attend, 5, none, [], false, false)
abbrev mX4_measure : YD := (RX4, yX4_measure, cX4_measure, 7, none, [], false, false)
abbrev mX4_hears : YD := (RX4, yX4_hears, cX4_hears, 5, (some .int), [], false, false)
abbrev mX4_loudness : YD := (RX4, yX4_loudness, cX4_loudness, 6, (some .int), [], false, false)
abbrev mX5_init : YD := (RX5, yX5_init, cX5_init, 4, none, [], true, false)
abbrev mX5_ticksTo : YD := (RX5, yX5_ticksTo, cX5_ticksTo, 5, (some .int), [], false, false)
abbrev mX5_matches : YD := (RX5, yX5_matches, cX5_matches, 7, (some .boolean), [], false, false)
abbrev mX5_countMatching : YD := (RX5, yX5_countMatching, cX5_countMatching, 6, (some .int), [], false, false)
abbrev mX5_findMatching : YD := (RX5, yX5_findMatching, cX5_findMatching, 7, (some .int), [], false, false)
abbrev mX5_chart : YD := (RX5, yX5_chart, cX5_chart, 7, none, [], false, false)
abbrev mX5_countCouples : YD := (RX5, yX5_countCouples, cX5_countCouples, 8, (some .int), [], false, false)
abbrev mX5_chartedNear : YD := (RX5, yX5_chartedNear, cX5_chartedNear, 10, (some .int), [], false, false)
abbrev mX6_init : YD := (RX6, yX6_init, cX6_init, 1, none, [], true, false)
abbrev mX6_read : YD := (RX6, yX6_read, cX6_read, 6, (some .int), [], false, false)
abbrev mX6_fail : YD := (RX6, yX6_fail, cX6_fail, 2, (some .boolean), [], false, false)
abbrev mX6_step : YD := (RX6, yX6_step, cX6_step, 1, none, [], false, false)
abbrev mX6_isLetter : YD := (RX6, yX6_isLetter, cX6_isLetter, 1, (some .boolean), [], false, false)
abbrev mX6_isDigit : YD := (RX6, yX6_isDigit, cX6_isDigit, 1, (some .boolean), [], false, false)
abbrev mX6_spells : YD := (RX6, yX6_spells, cX6_spells, 3, (some .boolean), [], false, false)
abbrev mX6_isNumber : YD := (RX6, yX6_isNumber, cX6_isNumber, 3, (some .boolean), [], false, false)
abbrev mX6_isToldSound : YD := (RX6, yX6_isToldSound, cX6_isToldSound, 1, (some .boolean), [], false, false)
abbrev mX6_readLine : YD := (RX6, yX6_readLine, cX6_readLine, 1, (some .boolean), [], false, false)
abbrev mX6_readEnd : YD := (RX6, yX6_readEnd, cX6_readEnd, 1, (some .boolean), [], false, false)
abbrev mX6_readSound : YD := (RX6, yX6_readSound, cX6_readSound, 2, (some .boolean), [], false, false)
abbrev mX6_readWall : YD := (RX6, yX6_readWall, cX6_readWall, 3, (some .boolean), [], false, false)
abbrev mX6_readSwallows : YD := (RX6, yX6_readSwallows, cX6_readSwallows, 3, (some .boolean), [], false, false)
abbrev mX6_readAgain : YD := (RX6, yX6_readAgain, cX6_readAgain, 2, (some .boolean), [], false, false)
abbrev mX6_readStraight : YD := (RX6, yX6_readStraight, cX6_readStraight, 2, (some .boolean), [], false, false)
abbrev mX6_readAir : YD := (RX6, yX6_readAir, cX6_readAir, 2, (some .boolean), [], false, false)
abbrev mX6_readMask : YD := (RX6, yX6_readMask, cX6_readMask, 1, (some .boolean), [], false, false)
abbrev mX6_readSweet : YD := (RX6, yX6_readSweet, cX6_readSweet, 3, (some .boolean), [], false, false)
abbrev mX6_readWord : YD := (RX6, yX6_readWord, cX6_readWord, 3, (some .boolean), [], false, false)
abbrev mX6_readForm : YD := (RX6, yX6_readForm, cX6_readForm, 3, (some .boolean), [], false, false)
abbrev mX7_init : YD := (RX7, yX7_init, cX7_init, 1, none, [], true, false)
abbrev mX7_forget : YD := (RX7, yX7_forget, cX7_forget, 1, none, [], false, false)
abbrev mX7_build : YD := (RX7, yX7_build, cX7_build, 9, none, [], false, false)
abbrev mX7_addWall : YD := (RX7, yX7_addWall, cX7_addWall, 8, none, [], false, false)
abbrev mX7_place : YD := (RX7, yX7_place, cX7_place, 4, (some .int), [], false, false)
abbrev mX7_longest : YD := (RX7, yX7_longest, cX7_longest, 1, (some .int), [], false, false)
abbrev mX7_canReach : YD := (RX7, yX7_canReach, cX7_canReach, 5, (some .boolean), [], false, false)
abbrev mX7_prepareLike : YD := (RX7, yX7_prepareLike, cX7_prepareLike, 7, none, [], false, false)
abbrev mX7_layDelays : YD := (RX7, yX7_layDelays, cX7_layDelays, 4, none, [], false, false)
abbrev mX8_init : YD := (RX8, yX8_init, cX8_init, 1, none, [], true, false)
abbrev mX8_clear : YD := (RX8, yX8_clear, cX8_clear, 1, none, [], false, false)
abbrev mX8_clearSaid : YD := (RX8, yX8_clearSaid, cX8_clearSaid, 1, none, [], false, false)
abbrev mX8_clearTold : YD := (RX8, yX8_clearTold, cX8_clearTold, 1, none, [], false, false)
abbrev mX8_addSaid : YD := (RX8, yX8_addSaid, cX8_addSaid, 3, (some .boolean), [], false, false)
abbrev mX8_copy : YD := (RX8, yX8_copy, cX8_copy, 2, none, [], false, false)
abbrev mX9_init : YD := (RX9, yX9_init, cX9_init, 1, none, [], true, false)
abbrev mX9_forget : YD := (RX9, yX9_forget, cX9_forget, 1, none, [], false, false)
abbrev mX9_find : YD := (RX9, yX9_find, cX9_find, 6, none, [], false, false)
abbrev mX9_search : YD := (RX9, yX9_search, cX9_search, 6, none, [], false, false)
abbrev mX9_isHeardAsTold : YD := (RX9, yX9_isHeardAsTold, cX9_isHeardAsTold, 5, (some .boolean), [], false, false)
abbrev mX9_take : YD := (RX9, yX9_take, cX9_take, 3, none, [], false, false)
abbrev mX10_init : YD := (RX10, yX10_init, cX10_init, 1, none, [], true, false)
abbrev mX10_adopt : YD := (RX10, yX10_adopt, cX10_adopt, 4, none, [], false, false)
abbrev mX10_measureForm : YD := (RX10, yX10_measureForm, cX10_measureForm, 8, none, [], false, false)
abbrev mX10_spell : YD := (RX10, yX10_spell, cX10_spell, 8, none, [], false, false)
abbrev mX10_listen : YD := (RX10, yX10_listen, cX10_listen, 6, (some .boolean), [], false, false)
abbrev mX10_isLine : YD := (RX10, yX10_isLine, cX10_isLine, 4, (some .boolean), [], false, false)
abbrev mX10_layKind : YD := (RX10, yX10_layKind, cX10_layKind, 6, (some .int), [], false, false)
abbrev mX10_fittingPlaces : YD := (RX10, yX10_fittingPlaces, cX10_fittingPlaces, 4, (some .int), [], false, false)
abbrev mX10_fitsAt : YD := (RX10, yX10_fitsAt, cX10_fitsAt, 4, (some .boolean), [], false, false)
abbrev mX10_isEchoed : YD := (RX10, yX10_isEchoed, cX10_isEchoed, 3, (some .boolean), [], false, false)
abbrev mX10_survey : YD := (RX10, yX10_survey, cX10_survey, 8, (some .int), [], false, false)
abbrev mX10_surveyForm : YD := (RX10, yX10_surveyForm, cX10_surveyForm, 12, none, [], false, false)
abbrev mX10_weigh : YD := (RX10, yX10_weigh, cX10_weigh, 5, (some .int), [], false, false)
abbrev mX10_figure : YD := (RX10, yX10_figure, cX10_figure, 3, (some .int), [], false, false)
abbrev mX10_answersNow : YD := (RX10, yX10_answersNow, cX10_answersNow, 3, (some .boolean), [], false, false)
abbrev mX10_answering : YD := (RX10, yX10_answering, cX10_answering, 5, (some .int), [], false, false)
abbrev mX10_partOf : YD := (RX10, yX10_partOf, cX10_partOf, 5, (some .int), [], false, false)
abbrev mX10_countStill : YD := (RX10, yX10_countStill, cX10_countStill, 9, (some .int), [], false, false)
abbrev mX10_thickestFog : YD := (RX10, yX10_thickestFog, cX10_thickestFog, 5, (some .int), [], false, false)
abbrev mX10_searchFog : YD := (RX10, yX10_searchFog, cX10_searchFog, 5, (some .int), [], false, false)
abbrev mX10_changesShares : YD := (RX10, yX10_changesShares, cX10_changesShares, 3, (some .boolean), [], false, false)
abbrev mX11_init : YD := (RX11, yX11_init, cX11_init, 1, none, [], true, false)
abbrev mX11_feed : YD := (RX11, yX11_feed, cX11_feed, 6, (some .int), [], false, false)
abbrev mX11_tapeNumber : YD := (RX11, yX11_tapeNumber, cX11_tapeNumber, 3, none, [], false, false)
abbrev mX11_gorge : YD := (RX11, yX11_gorge, cX11_gorge, 4, (some .int), [], false, false)
abbrev mX11_fault : YD := (RX11, yX11_fault, cX11_fault, 1, (some .int), [], false, false)
abbrev mX11_count : YD := (RX11, yX11_count, cX11_count, 2, (some .int), [], false, false)
abbrev mX11_wall : YD := (RX11, yX11_wall, cX11_wall, 3, (some .int), [], false, false)
abbrev mX11_word : YD := (RX11, yX11_word, cX11_word, 3, (some .int), [], false, false)
abbrev mX11_say : YD := (RX11, yX11_say, cX11_say, 3, (some .int), [], false, false)
abbrev mX11_hush : YD := (RX11, yX11_hush, cX11_hush, 2, (some .int), [], false, false)
abbrev mX11_heard : YD := (RX11, yX11_heard, cX11_heard, 5, (some .int), [], false, false)
abbrev mX11_loud : YD := (RX11, yX11_loud, cX11_loud, 5, (some .int), [], false, false)
abbrev mX11_lines : YD := (RX11, yX11_lines, cX11_lines, 3, (some .int), [], false, false)
abbrev mX11_line : YD := (RX11, yX11_line, cX11_line, 5, (some .int), [], false, false)
abbrev mX11_still : YD := (RX11, yX11_still, cX11_still, 4, (some .int), [], false, false)
abbrev mX11_without : YD := (RX11, yX11_without, cX11_without, 4, (some .int), [], false, false)
abbrev mX11_lasts : YD := (RX11, yX11_lasts, cX11_lasts, 2, (some .int), [], false, false)
abbrev mX11_sing : YD := (RX11, yX11_sing, cX11_sing, 3, (some .int), [], false, false)
abbrev mX11_round : YD := (RX11, yX11_round, cX11_round, 2, (some .int), [], false, false)
abbrev mX11_tell : YD := (RX11, yX11_tell, cX11_tell, 2, (some .int), [], false, false)
abbrev mX11_untell : YD := (RX11, yX11_untell, cX11_untell, 2, (some .int), [], false, false)
abbrev mX11_rivals : YD := (RX11, yX11_rivals, cX11_rivals, 3, (some .int), [], false, false)
abbrev mX11_sayers : YD := (RX11, yX11_sayers, cX11_sayers, 2, (some .int), [], false, false)
abbrev mX11_stand : YD := (RX11, yX11_stand, cX11_stand, 4, (some .boolean), [], false, false)
abbrev mX11_matching : YD := (RX11, yX11_matching, cX11_matching, 5, (some .int), [], false, false)
abbrev mX11_moved : YD := (RX11, yX11_moved, cX11_moved, 6, (some .int), [], false, false)
abbrev mX11_code : YD := (RX11, yX11_code, cX11_code, 4, (some .int), [], false, false)
abbrev mX11_image : YD := (RX11, yX11_image, cX11_image, 1, none, [], false, false)
abbrev mX11_restore : YD := (RX11, yX11_restore, cX11_restore, 1, (some .boolean), [], false, false)
abbrev mX11_needSound : YD := (RX11, yX11_needSound, cX11_needSound, 2, none, [], false, false)
abbrev mX11_needWall : YD := (RX11, yX11_needWall, cX11_needWall, 2, none, [], false, false)
abbrev mX11_needEar : YD := (RX11, yX11_needEar, cX11_needEar, 2, none, [], false, false)
abbrev mX11_needHour : YD := (RX11, yX11_needHour, cX11_needHour, 2, none, [], false, false)
abbrev mX11_needMoment : YD := (RX11, yX11_needMoment, cX11_needMoment, 4, none, [], false, false)
abbrev mX11_lowestBit : YD := (RX11, yX11_lowestBit, cX11_lowestBit, 1, (some .int), [], false, false)
abbrev mX12_init : YD := (RX12, yX12_init, cX12_init, 2, none, [], true, false)
abbrev mX12_thrown : YD := (RX12, yX12_thrown, cX12_thrown, 1, (some .int), [], false, false)
abbrev mX12_right : YD := (RX12, yX12_right, cX12_right, 3, (some .boolean), [], false, false)
abbrev mX12_within : YD := (RX12, yX12_within, cX12_within, 3, (some .boolean), [], false, false)
abbrev mX12_copies : YD := (RX12, yX12_copies, cX12_copies, 4, none, [], false, false)
abbrev mX12_feed : YD := (RX12, yX12_feed, cX12_feed, 6, (some .int), [], false, false)
abbrev mX12_lays : YD := (RX12, yX12_lays, cX12_lays, 3, none, [], false, false)
abbrev mX12_byteAt : YD := (RX12, yX12_byteAt, cX12_byteAt, 2, (some .int), [], false, false)
abbrev mX12_isLetter : YD := (RX12, yX12_isLetter, cX12_isLetter, 1, (some .boolean), [], false, false)
abbrev mX12_isDigit : YD := (RX12, yX12_isDigit, cX12_isDigit, 1, (some .boolean), [], false, false)
abbrev mX12_steps : YD := (RX12, yX12_steps, cX12_steps, 2, none, [], false, false)
abbrev mX12_spelled : YD := (RX12, yX12_spelled, cX12_spelled, 10, (some .long), [], false, false)
abbrev mX12_lettersOf : YD := (RX12, yX12_lettersOf, cX12_lettersOf, 1, (some .long), [], false, false)
abbrev mX12_is : YD := (RX12, yX12_is, cX12_is, 2, (some .boolean), [], false, false)
abbrev mX12_wrong : YD := (RX12, yX12_wrong, cX12_wrong, 2, none, [], false, false)
abbrev mX12_isGood : YD := (RX12, yX12_isGood, cX12_isGood, 1, (some .boolean), [], false, false)
abbrev mX12_need : YD := (RX12, yX12_need, cX12_need, 2, none, [], false, false)
abbrev mX12_number : YD := (RX12, yX12_number, cX12_number, 4, (some .int), [], false, false)
abbrev mX12_soundHere : YD := (RX12, yX12_soundHere, cX12_soundHere, 1, (some .boolean), [], false, false)
abbrev mX12_readsWall : YD := (RX12, yX12_readsWall, cX12_readsWall, 4, none, [], false, false)
abbrev mX12_readsSweet : YD := (RX12, yX12_readsSweet, cX12_readsSweet, 2, none, [], false, false)
abbrev mX12_readsWord : YD := (RX12, yX12_readsWord, cX12_readsWord, 3, none, [], false, false)
abbrev mX12_readsForm : YD := (RX12, yX12_readsForm, cX12_readsForm, 4, none, [], false, false)
abbrev mX12_readsAir : YD := (RX12, yX12_readsAir, cX12_readsAir, 2, none, [], false, false)
abbrev mX12_line : YD := (RX12, yX12_line, cX12_line, 1, none, [], false, false)
abbrev mX12_gorge : YD := (RX12, yX12_gorge, cX12_gorge, 3, (some .int), [], false, false)
abbrev mX12_fault : YD := (RX12, yX12_fault, cX12_fault, 1, (some .int), [], false, false)
abbrev mX12_count : YD := (RX12, yX12_count, cX12_count, 2, (some .int), [], false, false)
abbrev mX12_wall : YD := (RX12, yX12_wall, cX12_wall, 3, (some .int), [], false, false)
abbrev mX12_word : YD := (RX12, yX12_word, cX12_word, 3, (some .int), [], false, false)
abbrev mX12_isSound : YD := (RX12, yX12_isSound, cX12_isSound, 2, (some .boolean), [], false, false)
abbrev mX12_opens : YD := (RX12, yX12_opens, cX12_opens, 5, none, [], false, false)
abbrev mX12_comes : YD := (RX12, yX12_comes, cX12_comes, 4, none, [], false, false)
abbrev mX12_says : YD := (RX12, yX12_says, cX12_says, 7, none, [], false, false)
abbrev mX12_hears : YD := (RX12, yX12_hears, cX12_hears, 5, (some .int), [], false, false)
abbrev mX12_say : YD := (RX12, yX12_say, cX12_say, 5, (some .int), [], false, false)
abbrev mX12_hush : YD := (RX12, yX12_hush, cX12_hush, 2, (some .int), [], false, false)
abbrev mX12_isWhere : YD := (RX12, yX12_isWhere, cX12_isWhere, 4, (some .boolean), [], false, false)
abbrev mX12_allSaid : YD := (RX12, yX12_allSaid, cX12_allSaid, 5, none, [], false, false)
abbrev mX12_heard : YD := (RX12, yX12_heard, cX12_heard, 4, (some .int), [], false, false)
abbrev mX12_loud : YD := (RX12, yX12_loud, cX12_loud, 5, (some .int), [], false, false)
abbrev mX12_kindOf : YD := (RX12, yX12_kindOf, cX12_kindOf, 3, (some .int), [], false, false)
abbrev mX12_wordsOf : YD := (RX12, yX12_wordsOf, cX12_wordsOf, 4, (some .int), [], false, false)
abbrev mX12_linesOf : YD := (RX12, yX12_linesOf, cX12_linesOf, 4, (some .int), [], false, false)
abbrev mX12_allLines : YD := (RX12, yX12_allLines, cX12_allLines, 3, (some .int), [], false, false)
abbrev mX12_wordBehind : YD := (RX12, yX12_wordBehind, cX12_wordBehind, 4, (some .int), [], false, false)
abbrev mX12_firstLine : YD := (RX12, yX12_firstLine, cX12_firstLine, 1, (some .boolean), [], false, false)
abbrev mX12_nextForm : YD := (RX12, yX12_nextForm, cX12_nextForm, 2, (some .boolean), [], false, false)
abbrev mX12_nextLine : YD := (RX12, yX12_nextLine, cX12_nextLine, 4, (some .boolean), [], false, false)
abbrev mX12_speaks : YD := (RX12, yX12_speaks, cX12_speaks, 3, none, [], false, false)
abbrev mX12_returns : YD := (RX12, yX12_returns, cX12_returns, 4, none, [], false, false)
abbrev mX12_isWordAt : YD := (RX12, yX12_isWordAt, cX12_isWordAt, 4, (some .boolean), [], false, false)
abbrev mX12_isLine : YD := (RX12, yX12_isLine, cX12_isLine, 7, (some .boolean), [], false, false)
abbrev mX12_answers : YD := (RX12, yX12_answers, cX12_answers, 2, (some .boolean), [], false, false)
abbrev mX12_isEchoed : YD := (RX12, yX12_isEchoed, cX12_isEchoed, 2, (some .boolean), [], false, false)
abbrev mX12_goesThrough : YD := (RX12, yX12_goesThrough, cX12_goesThrough, 4, none, [], false, false)
abbrev mX12_bits : YD := (RX12, yX12_bits, cX12_bits, 3, (some .int), [], false, false)
abbrev mX12_isHour : YD := (RX12, yX12_isHour, cX12_isHour, 2, (some .boolean), [], false, false)
abbrev mX12_lines : YD := (RX12, yX12_lines, cX12_lines, 5, (some .int), [], false, false)
abbrev mX12_line_ : YD := (RX12, yX12_line_, cX12_line_, 6, (some .int), [], false, false)
abbrev mX12_stillOf : YD := (RX12, yX12_stillOf, cX12_stillOf, 7, (some .int), [], false, false)
abbrev mX12_still : YD := (RX12, yX12_still, cX12_still, 3, (some .int), [], false, false)
abbrev mX12_without : YD := (RX12, yX12_without, cX12_without, 3, (some .int), [], false, false)
abbrev mX12_lasts : YD := (RX12, yX12_lasts, cX12_lasts, 6, (some .int), [], false, false)
abbrev mX12_sing : YD := (RX12, yX12_sing, cX12_sing, 3, (some .int), [], false, false)
abbrev mX12_clashes : YD := (RX12, yX12_clashes, cX12_clashes, 7, (some .int), [], false, false)
abbrev mX12_round : YD := (RX12, yX12_round, cX12_round, 3, (some .int), [], false, false)
abbrev mX12_tell : YD := (RX12, yX12_tell, cX12_tell, 2, (some .int), [], false, false)
abbrev mX12_untell : YD := (RX12, yX12_untell, cX12_untell, 2, (some .int), [], false, false)
abbrev mX12_toldAt : YD := (RX12, yX12_toldAt, cX12_toldAt, 2, (some .int), [], false, false)
abbrev mX12_isTold : YD := (RX12, yX12_isTold, cX12_isTold, 2, (some .boolean), [], false, false)
abbrev mX12_saysBy : YD := (RX12, yX12_saysBy, cX12_saysBy, 6, none, [], false, false)
abbrev mX12_finds : YD := (RX12, yX12_finds, cX12_finds, 5, none, [], false, false)
abbrev mX12_next0 : YD := (RX12, yX12_next0, cX12_next0, 6, (some .int), [], false, false)
abbrev mX12_group : YD := (RX12, yX12_group, cX12_group, 7, (some .int), [], false, false)
abbrev mX12_rivals : YD := (RX12, yX12_rivals, cX12_rivals, 9, (some .int), [], false, false)
abbrev mX12_sayers : YD := (RX12, yX12_sayers, cX12_sayers, 8, (some .int), [], false, false)
abbrev mX12_stand : YD := (RX12, yX12_stand, cX12_stand, 4, (some .boolean), [], false, false)
abbrev mX12_ticksTo : YD := (RX12, yX12_ticksTo, cX12_ticksTo, 9, (some .int), [], false, false)
abbrev mX12_matches : YD := (RX12, yX12_matches, cX12_matches, 5, (some .boolean), [], false, false)
abbrev mX12_matching : YD := (RX12, yX12_matching, cX12_matching, 6, (some .int), [], false, false)
abbrev mX12_moved : YD := (RX12, yX12_moved, cX12_moved, 11, (some .int), [], false, false)
abbrev mX12_falls : YD := (RX12, yX12_falls, cX12_falls, 4, none, [], false, false)
abbrev mX12_code : YD := (RX12, yX12_code, cX12_code, 11, (some .int), [], false, false)
abbrev mX12_image : YD := (RX12, yX12_image, cX12_image, 1, none, [], false, false)
abbrev mX12_restore : YD := (RX12, yX12_restore, cX12_restore, 1, (some .boolean), [], false, false)
abbrev mJ6_bitCount_0f7a4 : YD := (RJ6, yJ6_bitCount_0f7a4, cJ6_bitCount_0f7a4, 1, (some .int), [], false, false)
abbrev mJ9_floorMod_7cf53 : YD := (RJ9, yJ9_floorMod_7cf53, cJ9_floorMod_7cf53, 3, (some .int), [], false, false)
abbrev mJ7_fill_53178 : YD := (RJ7, yJ7_fill_53178, cJ7_fill_53178, 4, none, [], false, false)
abbrev mL_gorge : YD := (RL, yL_gorge, cL_gorge, 4, (some .int), [(0, 9, 12, 13)], false, false)
abbrev mL_count : YD := (RL, yL_count, cL_count, 4, (some .int), [(0, 9, 12, 18)], false, false)
abbrev mL_wall : YD := (RL, yL_wall, cL_wall, 5, (some .int), [(0, 10, 13, 18)], false, false)
abbrev mL_word : YD := (RL, yL_word, cL_word, 5, (some .int), [(0, 10, 13, 18)], false, false)
abbrev mL_say : YD := (RL, yL_say, cL_say, 5, (some .int), [(0, 10, 13, 18)], false, false)
abbrev mL_heard : YD := (RL, yL_heard, cL_heard, 6, (some .int), [(0, 12, 15, 18)], false, false)
abbrev mL_loud : YD := (RL, yL_loud, cL_loud, 7, (some .int), [(0, 14, 17, 18)], false, false)
abbrev mL_lines : YD := (RL, yL_lines, cL_lines, 5, (some .int), [(0, 10, 13, 18)], false, false)
abbrev mL_line : YD := (RL, yL_line, cL_line, 6, (some .int), [(0, 12, 15, 18)], false, false)
abbrev mL_still : YD := (RL, yL_still, cL_still, 5, (some .int), [(0, 10, 13, 18), (0, 10, 17, 13)], false, false)
abbrev mL_without : YD := (RL, yL_without, cL_without, 5, (some .int), [(0, 10, 13, 18)], false, false)
abbrev mL_lasts : YD := (RL, yL_lasts, cL_lasts, 4, (some .int), [(0, 9, 12, 18)], false, false)
abbrev mL_sing : YD := (RL, yL_sing, cL_sing, 5, (some .int), [(0, 10, 13, 18)], false, false)
abbrev mL_round : YD := (RL, yL_round, cL_round, 4, (some .int), [(0, 9, 12, 18)], false, false)
abbrev mL_tell : YD := (RL, yL_tell, cL_tell, 4, (some .int), [(0, 9, 12, 18)], false, false)
abbrev mL_rivals : YD := (RL, yL_rivals, cL_rivals, 5, (some .int), [(0, 10, 13, 18), (0, 10, 17, 13)], false, false)
abbrev mL_sayers : YD := (RL, yL_sayers, cL_sayers, 4, (some .int), [(0, 9, 12, 18)], false, false)
abbrev mL_stand : YD := (RL, yL_stand, cL_stand, 6, (some .int), [(0, 19, 22, 18)], false, false)
abbrev mL_matching : YD := (RL, yL_matching, cL_matching, 6, (some .int), [(0, 12, 15, 18)], false, false)
abbrev mL_moved : YD := (RL, yL_moved, cL_moved, 8, (some .int), [(0, 16, 19, 13)], false, false)
abbrev mL_code : YD := (RL, yL_code, cL_code, 5, (some .int), [(0, 10, 13, 18)], false, false)
abbrev mL_law : YD := (RL, yL_law, code, 7, (some .boolean), [], false, true)
theorem yX0_init_ok : Yok mX0_init := ⟨by decide +kernel, rfl, by decide, rfl⟩
theorem yX0_clashes_ok : Yok mX0_clashes := ⟨by decide +kernel, rfl, by decide, rfl⟩
theorem yX0_rests_ok : Yok mX0_rests := ⟨by decide +kernel, rfl, by decide, rfl⟩
theorem yX0_listen_ok : Yok mX0_listen := ⟨by decide +kernel, rfl, by decide, rfl⟩
theorem yX0_isClash_ok : Yok mX0_isClash := ⟨by decide +kernel, rfl, by decide, rfl⟩
theorem yX1_init_ok : Yok mX1_init := ⟨by decide +kernel, rfl, by decide, rfl⟩
theorem yX1_compare_ok : Yok mX1_compare := ⟨by decide +kernel, rfl, by decide, rfl⟩
theorem yX1_heardGaps_ok : Yok mX1_heardGaps := ⟨by decide +kernel, rfl, by decide, rfl⟩
theorem yX1_choose_ok : Yok mX1_choose := ⟨by decide +kernel, rfl, by decide, rfl⟩
theorem yX1_extend_ok : Yok mX1_extend := ⟨by decide +kernel, rfl, by decide, rfl⟩
theorem yX1_weigh_ok : Yok mX1_weigh := ⟨by decide +kernel, rfl, by decide, rfl⟩
theorem yX2_init_ok : Yok mX2_init := ⟨by decide +kernel, rfl, by decide, rfl⟩
theorem yX2_clear_ok : Yok mX2_clear := ⟨by decide +kernel, rfl, by decide, rfl⟩
theorem yX2_swallowsSound_ok : Yok mX2_swallowsSound := ⟨by decide +kernel, rfl, by decide, rfl⟩
theorem yX2_foggedShare_ok : Yok mX2_foggedShare := ⟨by decide +kernel, rfl, by decide, rfl⟩
theorem yX3_init_ok : Yok mX3_init := ⟨by decide +kernel, rfl, by decide, rfl⟩
theorem yX3_forget_ok : Yok mX3_forget := ⟨by decide +kernel, rfl, by decide, rfl⟩
theorem yX3_find_ok : Yok mX3_find := ⟨by decide +kernel, rfl, by decide, rfl⟩
theorem yX3_searchAll_ok : Yok mX3_searchAll := ⟨by decide +kernel, rfl, by decide, rfl⟩
theorem yX3_firstMiss_ok : Yok mX3_firstMiss := ⟨by decide +kernel, rfl, by decide, rfl⟩
theorem yX3_take_ok : Yok mX3_take := ⟨by decide +kernel, rfl, by decide, rfl⟩
theorem yX3_findNext_ok : Yok mX3_findNext := ⟨by decide +kernel, rfl, by decide, rfl⟩
theorem yX3_greatestGroup_ok : Yok mX3_greatestGroup := ⟨by decide +kernel, rfl, by decide, rfl⟩
theorem yX4_init_ok : Yok mX4_init := ⟨by decide +kernel, rfl, by decide, rfl⟩
theorem yX4_attend_ok : Yok mX4_attend := ⟨by decide +kernel, rfl, by decide, rfl⟩
theorem yX4_measure_ok : Yok mX4_measure := ⟨by decide +kernel, rfl, by decide, rfl⟩
theorem yX4_hears_ok : Yok mX4_hears := ⟨by decide +kernel, rfl, by decide, rfl⟩
theorem yX4_loudness_ok : Yok mX4_loudness := ⟨by decide +kernel, rfl, by decide, rfl⟩
theorem yX5_init_ok : Yok mX5_init := ⟨by decide +kernel, rfl, by decide, rfl⟩
theorem yX5_ticksTo_ok : Yok mX5_ticksTo := ⟨by decide +kernel, rfl, by decide, rfl⟩
theorem yX5_matches_ok : Yok mX5_matches := ⟨by decide +kernel, rfl, by decide, rfl⟩
theorem yX5_countMatching_ok : Yok mX5_countMatching := ⟨by decide +kernel, rfl, by decide, rfl⟩
theorem yX5_findMatching_ok : Yok mX5_findMatching := ⟨by decide +kernel, rfl, by decide, rfl⟩
theorem yX5_chart_ok : Yok mX5_chart := ⟨by decide +kernel, rfl, by decide, rfl⟩
theorem yX5_countCouples_ok : Yok mX5_countCouples := ⟨by decide +kernel, rfl, by decide, rfl⟩
theorem yX5_chartedNear_ok : Yok mX5_chartedNear := ⟨by decide +kernel, rfl, by decide, rfl⟩
theorem yX6_init_ok : Yok mX6_init := ⟨by decide +kernel, rfl, by decide, rfl⟩
theorem yX6_read_ok : Yok mX6_read := ⟨by decide +kernel, rfl, by decide, rfl⟩
theorem yX6_fail_ok : Yok mX6_fail := ⟨by decide +kernel, rfl, by decide, rfl⟩
theorem yX6_step_ok : Yok mX6_step := ⟨by decide +kernel, rfl, by decide, rfl⟩
theorem yX6_isLetter_ok : Yok mX6_isLetter := ⟨by decide +kernel, rfl, by decide, rfl⟩
theorem yX6_isDigit_ok : Yok mX6_isDigit := ⟨by decide +kernel, rfl, by decide, rfl⟩
theorem yX6_spells_ok : Yok mX6_spells := ⟨by decide +kernel, rfl, by decide, rfl⟩
theorem yX6_isNumber_ok : Yok mX6_isNumber := ⟨by decide +kernel, rfl, by decide, rfl⟩
theorem yX6_isToldSound_ok : Yok mX6_isToldSound := ⟨by decide +kernel, rfl, by decide, rfl⟩
theorem yX6_readLine_ok : Yok mX6_readLine := ⟨by decide +kernel, rfl, by decide, rfl⟩
theorem yX6_readEnd_ok : Yok mX6_readEnd := ⟨by decide +kernel, rfl, by decide, rfl⟩
theorem yX6_readSound_ok : Yok mX6_readSound := ⟨by decide +kernel, rfl, by decide, rfl⟩
theorem yX6_readWall_ok : Yok mX6_readWall := ⟨by decide +kernel, rfl, by decide, rfl⟩
theorem yX6_readSwallows_ok : Yok mX6_readSwallows := ⟨by decide +kernel, rfl, by decide, rfl⟩
theorem yX6_readAgain_ok : Yok mX6_readAgain := ⟨by decide +kernel, rfl, by decide, rfl⟩
theorem yX6_readStraight_ok : Yok mX6_readStraight := ⟨by decide +kernel, rfl, by decide, rfl⟩
theorem yX6_readAir_ok : Yok mX6_readAir := ⟨by decide +kernel, rfl, by decide, rfl⟩
theorem yX6_readMask_ok : Yok mX6_readMask := ⟨by decide +kernel, rfl, by decide, rfl⟩
theorem yX6_readSweet_ok : Yok mX6_readSweet := ⟨by decide +kernel, rfl, by decide, rfl⟩
theorem yX6_readWord_ok : Yok mX6_readWord := ⟨by decide +kernel, rfl, by decide, rfl⟩
theorem yX6_readForm_ok : Yok mX6_readForm := ⟨by decide +kernel, rfl, by decide, rfl⟩
theorem yX7_init_ok : Yok mX7_init := ⟨by decide +kernel, rfl, by decide, rfl⟩
theorem yX7_forget_ok : Yok mX7_forget := ⟨by decide +kernel, rfl, by decide, rfl⟩
theorem yX7_build_ok : Yok mX7_build := ⟨by decide +kernel, rfl, by decide, rfl⟩
theorem yX7_addWall_ok : Yok mX7_addWall := ⟨by decide +kernel, rfl, by decide, rfl⟩
theorem yX7_place_ok : Yok mX7_place := ⟨by decide +kernel, rfl, by decide, rfl⟩
theorem yX7_longest_ok : Yok mX7_longest := ⟨by decide +kernel, rfl, by decide, rfl⟩
theorem yX7_canReach_ok : Yok mX7_canReach := ⟨by decide +kernel, rfl, by decide, rfl⟩
theorem yX7_prepareLike_ok : Yok mX7_prepareLike := ⟨by decide +kernel, rfl, by decide, rfl⟩
theorem yX7_layDelays_ok : Yok mX7_layDelays := ⟨by decide +kernel, rfl, by decide, rfl⟩
theorem yX8_init_ok : Yok mX8_init := ⟨by decide +kernel, rfl, by decide, rfl⟩
theorem yX8_clear_ok : Yok mX8_clear := ⟨by decide +kernel, rfl, by decide, rfl⟩
theorem yX8_clearSaid_ok : Yok mX8_clearSaid := ⟨by decide +kernel, rfl, by decide, rfl⟩
theorem yX8_clearTold_ok : Yok mX8_clearTold := ⟨by decide +kernel, rfl, by decide, rfl⟩
theorem yX8_addSaid_ok : Yok mX8_addSaid := ⟨by decide +kernel, rfl, by decide, rfl⟩
theorem yX8_copy_ok : Yok mX8_copy := ⟨by decide +kernel, rfl, by decide, rfl⟩
theorem yX9_init_ok : Yok mX9_init := ⟨by decide +kernel, rfl, by decide, rfl⟩
theorem yX9_forget_ok : Yok mX9_forget := ⟨by decide +kernel, rfl, by decide, rfl⟩
theorem yX9_find_ok : Yok mX9_find := ⟨by decide +kernel, rfl, by decide, rfl⟩
theorem yX9_search_ok : Yok mX9_search := ⟨by decide +kernel, rfl, by decide, rfl⟩
theorem yX9_isHeardAsTold_ok : Yok mX9_isHeardAsTold := ⟨by decide +kernel, rfl, by decide, rfl⟩
theorem yX9_take_ok : Yok mX9_take := ⟨by decide +kernel, rfl, by decide, rfl⟩
theorem yX10_init_ok : Yok mX10_init := ⟨by decide +kernel, rfl, by decide, rfl⟩
theorem yX10_adopt_ok : Yok mX10_adopt := ⟨by decide +kernel, rfl, by decide, rfl⟩
theorem yX10_measureForm_ok : Yok mX10_measureForm := ⟨by decide +kernel, rfl, by decide, rfl⟩
theorem yX10_spell_ok : Yok mX10_spell := ⟨by decide +kernel, rfl, by decide, rfl⟩
theorem yX10_listen_ok : Yok mX10_listen := ⟨by decide +kernel, rfl, by decide, rfl⟩
theorem yX10_isLine_ok : Yok mX10_isLine := ⟨by decide +kernel, rfl, by decide, rfl⟩
theorem yX10_layKind_ok : Yok mX10_layKind := ⟨by decide +kernel, rfl, by decide, rfl⟩
theorem yX10_fittingPlaces_ok : Yok mX10_fittingPlaces := ⟨by decide +kernel, rfl, by decide, rfl⟩
theorem yX10_fitsAt_ok : Yok mX10_fitsAt := ⟨by decide +kernel, rfl, by decide, rfl⟩
theorem yX10_isEchoed_ok : Yok mX10_isEchoed := ⟨by decide +kernel, rfl, by decide, rfl⟩
theorem yX10_survey_ok : Yok mX10_survey := ⟨by decide +kernel, rfl, by decide, rfl⟩
theorem yX10_surveyForm_ok : Yok mX10_surveyForm := ⟨by decide +kernel, rfl, by decide, rfl⟩
theorem yX10_weigh_ok : Yok mX10_weigh := ⟨by decide +kernel, rfl, by decide, rfl⟩
theorem yX10_figure_ok : Yok mX10_figure := ⟨by decide +kernel, rfl, by decide, rfl⟩
theorem yX10_answersNow_ok : Yok mX10_answersNow := ⟨by decide +kernel, rfl, by decide, rfl⟩
theorem yX10_answering_ok : Yok mX10_answering := ⟨by decide +kernel, rfl, by decide, rfl⟩
theorem yX10_partOf_ok : Yok mX10_partOf := ⟨by decide +kernel, rfl, by decide, rfl⟩
theorem yX10_countStill_ok : Yok mX10_countStill := ⟨by decide +kernel, rfl, by decide, rfl⟩
theorem yX10_thickestFog_ok : Yok mX10_thickestFog := ⟨by decide +kernel, rfl, by decide, rfl⟩
theorem yX10_searchFog_ok : Yok mX10_searchFog := ⟨by decide +kernel, rfl, by decide, rfl⟩
theorem yX10_changesShares_ok : Yok mX10_changesShares := ⟨by decide +kernel, rfl, by decide, rfl⟩
theorem yX11_init_ok : Yok mX11_init := ⟨by decide +kernel, rfl, by decide, rfl⟩
theorem yX11_feed_ok : Yok mX11_feed := ⟨by decide +kernel, rfl, by decide, rfl⟩
theorem yX11_tapeNumber_ok : Yok mX11_tapeNumber := ⟨by decide +kernel, rfl, by decide, rfl⟩
theorem yX11_gorge_ok : Yok mX11_gorge := ⟨by decide +kernel, rfl, by decide, rfl⟩
theorem yX11_fault_ok : Yok mX11_fault := ⟨by decide +kernel, rfl, by decide, rfl⟩
theorem yX11_count_ok : Yok mX11_count := ⟨by decide +kernel, rfl, by decide, rfl⟩
theorem yX11_wall_ok : Yok mX11_wall := ⟨by decide +kernel, rfl, by decide, rfl⟩
theorem yX11_word_ok : Yok mX11_word := ⟨by decide +kernel, rfl, by decide, rfl⟩
theorem yX11_say_ok : Yok mX11_say := ⟨by decide +kernel, rfl, by decide, rfl⟩
theorem yX11_hush_ok : Yok mX11_hush := ⟨by decide +kernel, rfl, by decide, rfl⟩
theorem yX11_heard_ok : Yok mX11_heard := ⟨by decide +kernel, rfl, by decide, rfl⟩
theorem yX11_loud_ok : Yok mX11_loud := ⟨by decide +kernel, rfl, by decide, rfl⟩
theorem yX11_lines_ok : Yok mX11_lines := ⟨by decide +kernel, rfl, by decide, rfl⟩
theorem yX11_line_ok : Yok mX11_line := ⟨by decide +kernel, rfl, by decide, rfl⟩
theorem yX11_still_ok : Yok mX11_still := ⟨by decide +kernel, rfl, by decide, rfl⟩
theorem yX11_without_ok : Yok mX11_without := ⟨by decide +kernel, rfl, by decide, rfl⟩
theorem yX11_lasts_ok : Yok mX11_lasts := ⟨by decide +kernel, rfl, by decide, rfl⟩
theorem yX11_sing_ok : Yok mX11_sing := ⟨by decide +kernel, rfl, by decide, rfl⟩
theorem yX11_round_ok : Yok mX11_round := ⟨by decide +kernel, rfl, by decide, rfl⟩
theorem yX11_tell_ok : Yok mX11_tell := ⟨by decide +kernel, rfl, by decide, rfl⟩
theorem yX11_untell_ok : Yok mX11_untell := ⟨by decide +kernel, rfl, by decide, rfl⟩
theorem yX11_rivals_ok : Yok mX11_rivals := ⟨by decide +kernel, rfl, by decide, rfl⟩
theorem yX11_sayers_ok : Yok mX11_sayers := ⟨by decide +kernel, rfl, by decide, rfl⟩
theorem yX11_stand_ok : Yok mX11_stand := ⟨by decide +kernel, rfl, by decide, rfl⟩
theorem yX11_matching_ok : Yok mX11_matching := ⟨by decide +kernel, rfl, by decide, rfl⟩
theorem yX11_moved_ok : Yok mX11_moved := ⟨by decide +kernel, rfl, by decide, rfl⟩
theorem yX11_code_ok : Yok mX11_code := ⟨by decide +kernel, rfl, by decide, rfl⟩
theorem yX11_image_ok : Yok mX11_image := ⟨by decide +kernel, rfl, by decide, rfl⟩
theorem yX11_restore_ok : Yok mX11_restore := ⟨by decide +kernel, rfl, by decide, rfl⟩
theorem yX11_needSound_ok : Yok mX11_needSound := ⟨by decide +kernel, rfl, by decide, rfl⟩
theorem yX11_needWall_ok : Yok mX11_needWall := ⟨by decide +kernel, rfl, by decide, rfl⟩
theorem yX11_needEar_ok : Yok mX11_needEar := ⟨by decide +kernel, rfl, by decide, rfl⟩
theorem yX11_needHour_ok : Yok mX11_needHour := ⟨by decide +kernel, rfl, by decide, rfl⟩
theorem yX11_needMoment_ok : Yok mX11_needMoment := ⟨by decide +kernel, rfl, by decide, rfl⟩
theorem yX11_lowestBit_ok : Yok mX11_lowestBit := ⟨by decide +kernel, rfl, by decide, rfl⟩
theorem yX12_init_ok : Yok mX12_init := ⟨by decide +kernel, rfl, by decide, rfl⟩
theorem yX12_thrown_ok : Yok mX12_thrown := ⟨by decide +kernel, rfl, by decide, rfl⟩
theorem yX12_right_ok : Yok mX12_right := ⟨by decide +kernel, rfl, by decide, rfl⟩
theorem yX12_within_ok : Yok mX12_within := ⟨by decide +kernel, rfl, by decide, rfl⟩
theorem yX12_copies_ok : Yok mX12_copies := ⟨by decide +kernel, rfl, by decide, rfl⟩
theorem yX12_feed_ok : Yok mX12_feed := ⟨by decide +kernel, rfl, by decide, rfl⟩
theorem yX12_lays_ok : Yok mX12_lays := ⟨by decide +kernel, rfl, by decide, rfl⟩
theorem yX12_byteAt_ok : Yok mX12_byteAt := ⟨by decide +kernel, rfl, by decide, rfl⟩
theorem yX12_isLetter_ok : Yok mX12_isLetter := ⟨by decide +kernel, rfl, by decide, rfl⟩
theorem yX12_isDigit_ok : Yok mX12_isDigit := ⟨by decide +kernel, rfl, by decide, rfl⟩
theorem yX12_steps_ok : Yok mX12_steps := ⟨by decide +kernel, rfl, by decide, rfl⟩
theorem yX12_spelled_ok : Yok mX12_spelled := ⟨by decide +kernel, rfl, by decide, rfl⟩
theorem yX12_lettersOf_ok : Yok mX12_lettersOf := ⟨by decide +kernel, rfl, by decide, rfl⟩
theorem yX12_is_ok : Yok mX12_is := ⟨by decide +kernel, rfl, by decide, rfl⟩
theorem yX12_wrong_ok : Yok mX12_wrong := ⟨by decide +kernel, rfl, by decide, rfl⟩
theorem yX12_isGood_ok : Yok mX12_isGood := ⟨by decide +kernel, rfl, by decide, rfl⟩
theorem yX12_need_ok : Yok mX12_need := ⟨by decide +kernel, rfl, by decide, rfl⟩
theorem yX12_number_ok : Yok mX12_number := ⟨by decide +kernel, rfl, by decide, rfl⟩
theorem yX12_soundHere_ok : Yok mX12_soundHere := ⟨by decide +kernel, rfl, by decide, rfl⟩
theorem yX12_readsWall_ok : Yok mX12_readsWall := ⟨by decide +kernel, rfl, by decide, rfl⟩
theorem yX12_readsSweet_ok : Yok mX12_readsSweet := ⟨by decide +kernel, rfl, by decide, rfl⟩
theorem yX12_readsWord_ok : Yok mX12_readsWord := ⟨by decide +kernel, rfl, by decide, rfl⟩
theorem yX12_readsForm_ok : Yok mX12_readsForm := ⟨by decide +kernel, rfl, by decide, rfl⟩
theorem yX12_readsAir_ok : Yok mX12_readsAir := ⟨by decide +kernel, rfl, by decide, rfl⟩
theorem yX12_line_ok : Yok mX12_line := ⟨by decide +kernel, rfl, by decide, rfl⟩
theorem yX12_gorge_ok : Yok mX12_gorge := ⟨by decide +kernel, rfl, by decide, rfl⟩
theorem yX12_fault_ok : Yok mX12_fault := ⟨by decide +kernel, rfl, by decide, rfl⟩
theorem yX12_count_ok : Yok mX12_count := ⟨by decide +kernel, rfl, by decide, rfl⟩
theorem yX12_wall_ok : Yok mX12_wall := ⟨by decide +kernel, rfl, by decide, rfl⟩
theorem yX12_word_ok : Yok mX12_word := ⟨by decide +kernel, rfl, by decide, rfl⟩
theorem yX12_isSound_ok : Yok mX12_isSound := ⟨by decide +kernel, rfl, by decide, rfl⟩
theorem yX12_opens_ok : Yok mX12_opens := ⟨by decide +kernel, rfl, by decide, rfl⟩
theorem yX12_comes_ok : Yok mX12_comes := ⟨by decide +kernel, rfl, by decide, rfl⟩
theorem yX12_says_ok : Yok mX12_says := ⟨by decide +kernel, rfl, by decide, rfl⟩
theorem yX12_hears_ok : Yok mX12_hears := ⟨by decide +kernel, rfl, by decide, rfl⟩
theorem yX12_say_ok : Yok mX12_say := ⟨by decide +kernel, rfl, by decide, rfl⟩
theorem yX12_hush_ok : Yok mX12_hush := ⟨by decide +kernel, rfl, by decide, rfl⟩
theorem yX12_isWhere_ok : Yok mX12_isWhere := ⟨by decide +kernel, rfl, by decide, rfl⟩
theorem yX12_allSaid_ok : Yok mX12_allSaid := ⟨by decide +kernel, rfl, by decide, rfl⟩
theorem yX12_heard_ok : Yok mX12_heard := ⟨by decide +kernel, rfl, by decide, rfl⟩
theorem yX12_loud_ok : Yok mX12_loud := ⟨by decide +kernel, rfl, by decide, rfl⟩
theorem yX12_kindOf_ok : Yok mX12_kindOf := ⟨by decide +kernel, rfl, by decide, rfl⟩
theorem yX12_wordsOf_ok : Yok mX12_wordsOf := ⟨by decide +kernel, rfl, by decide, rfl⟩
theorem yX12_linesOf_ok : Yok mX12_linesOf := ⟨by decide +kernel, rfl, by decide, rfl⟩
theorem yX12_allLines_ok : Yok mX12_allLines := ⟨by decide +kernel, rfl, by decide, rfl⟩
theorem yX12_wordBehind_ok : Yok mX12_wordBehind := ⟨by decide +kernel, rfl, by decide, rfl⟩
theorem yX12_firstLine_ok : Yok mX12_firstLine := ⟨by decide +kernel, rfl, by decide, rfl⟩
theorem yX12_nextForm_ok : Yok mX12_nextForm := ⟨by decide +kernel, rfl, by decide, rfl⟩
theorem yX12_nextLine_ok : Yok mX12_nextLine := ⟨by decide +kernel, rfl, by decide, rfl⟩
theorem yX12_speaks_ok : Yok mX12_speaks := ⟨by decide +kernel, rfl, by decide, rfl⟩
theorem yX12_returns_ok : Yok mX12_returns := ⟨by decide +kernel, rfl, by decide, rfl⟩
theorem yX12_isWordAt_ok : Yok mX12_isWordAt := ⟨by decide +kernel, rfl, by decide, rfl⟩
theorem yX12_isLine_ok : Yok mX12_isLine := ⟨by decide +kernel, rfl, by decide, rfl⟩
theorem yX12_answers_ok : Yok mX12_answers := ⟨by decide +kernel, rfl, by decide, rfl⟩
theorem yX12_isEchoed_ok : Yok mX12_isEchoed := ⟨by decide +kernel, rfl, by decide, rfl⟩
theorem yX12_goesThrough_ok : Yok mX12_goesThrough := ⟨by decide +kernel, rfl, by decide, rfl⟩
theorem yX12_bits_ok : Yok mX12_bits := ⟨by decide +kernel, rfl, by decide, rfl⟩
theorem yX12_isHour_ok : Yok mX12_isHour := ⟨by decide +kernel, rfl, by decide, rfl⟩
theorem yX12_lines_ok : Yok mX12_lines := ⟨by decide +kernel, rfl, by decide, rfl⟩
theorem yX12_line__ok : Yok mX12_line_ := ⟨by decide +kernel, rfl, by decide, rfl⟩
theorem yX12_stillOf_ok : Yok mX12_stillOf := ⟨by decide +kernel, rfl, by decide, rfl⟩
theorem yX12_still_ok : Yok mX12_still := ⟨by decide +kernel, rfl, by decide, rfl⟩
theorem yX12_without_ok : Yok mX12_without := ⟨by decide +kernel, rfl, by decide, rfl⟩
theorem yX12_lasts_ok : Yok mX12_lasts := ⟨by decide +kernel, rfl, by decide, rfl⟩
theorem yX12_sing_ok : Yok mX12_sing := ⟨by decide +kernel, rfl, by decide, rfl⟩
theorem yX12_clashes_ok : Yok mX12_clashes := ⟨by decide +kernel, rfl, by decide, rfl⟩
theorem yX12_round_ok : Yok mX12_round := ⟨by decide +kernel, rfl, by decide, rfl⟩
theorem yX12_tell_ok : Yok mX12_tell := ⟨by decide +kernel, rfl, by decide, rfl⟩
theorem yX12_untell_ok : Yok mX12_untell := ⟨by decide +kernel, rfl, by decide, rfl⟩
theorem yX12_toldAt_ok : Yok mX12_toldAt := ⟨by decide +kernel, rfl, by decide, rfl⟩
theorem yX12_isTold_ok : Yok mX12_isTold := ⟨by decide +kernel, rfl, by decide, rfl⟩
theorem yX12_saysBy_ok : Yok mX12_saysBy := ⟨by decide +kernel, rfl, by decide, rfl⟩
theorem yX12_finds_ok : Yok mX12_finds := ⟨by decide +kernel, rfl, by decide, rfl⟩
theorem yX12_next0_ok : Yok mX12_next0 := ⟨by decide +kernel, rfl, by decide, rfl⟩
theorem yX12_group_ok : Yok mX12_group := ⟨by decide +kernel, rfl, by decide, rfl⟩
theorem yX12_rivals_ok : Yok mX12_rivals := ⟨by decide +kernel, rfl, by decide, rfl⟩
theorem yX12_sayers_ok : Yok mX12_sayers := ⟨by decide +kernel, rfl, by decide, rfl⟩
theorem yX12_stand_ok : Yok mX12_stand := ⟨by decide +kernel, rfl, by decide, rfl⟩
theorem yX12_ticksTo_ok : Yok mX12_ticksTo := ⟨by decide +kernel, rfl, by decide, rfl⟩
theorem yX12_matches_ok : Yok mX12_matches := ⟨by decide +kernel, rfl, by decide, rfl⟩
theorem yX12_matching_ok : Yok mX12_matching := ⟨by decide +kernel, rfl, by decide, rfl⟩
theorem yX12_moved_ok : Yok mX12_moved := ⟨by decide +kernel, rfl, by decide, rfl⟩
theorem yX12_falls_ok : Yok mX12_falls := ⟨by decide +kernel, rfl, by decide, rfl⟩
theorem yX12_code_ok : Yok mX12_code := ⟨by decide +kernel, rfl, by decide, rfl⟩
theorem yX12_image_ok : Yok mX12_image := ⟨by decide +kernel, rfl, by decide, rfl⟩
theorem yX12_restore_ok : Yok mX12_restore := ⟨by decide +kernel, rfl, by decide, rfl⟩
theorem yJ6_bitCount_0f7a4_ok : Yok mJ6_bitCount_0f7a4 := ⟨by decide +kernel, rfl, by decide, rfl⟩
theorem yJ7_fill_53178_ok : Yok mJ7_fill_53178 := ⟨by decide +kernel, rfl, by decide, rfl⟩
theorem yL_gorge_ok : Yok mL_gorge := ⟨by decide +kernel, rfl, by decide, rfl⟩
theorem yL_count_ok : Yok mL_count := ⟨by decide +kernel, rfl, by decide, rfl⟩
theorem yL_wall_ok : Yok mL_wall := ⟨by decide +kernel, rfl, by decide, rfl⟩
theorem yL_word_ok : Yok mL_word := ⟨by decide +kernel, rfl, by decide, rfl⟩
theorem yL_say_ok : Yok mL_say := ⟨by decide +kernel, rfl, by decide, rfl⟩
theorem yL_heard_ok : Yok mL_heard := ⟨by decide +kernel, rfl, by decide, rfl⟩
theorem yL_loud_ok : Yok mL_loud := ⟨by decide +kernel, rfl, by decide, rfl⟩
theorem yL_lines_ok : Yok mL_lines := ⟨by decide +kernel, rfl, by decide, rfl⟩
theorem yL_line_ok : Yok mL_line := ⟨by decide +kernel, rfl, by decide, rfl⟩
theorem yL_still_ok : Yok mL_still := ⟨by decide +kernel, rfl, by decide, rfl⟩
theorem yL_without_ok : Yok mL_without := ⟨by decide +kernel, rfl, by decide, rfl⟩
theorem yL_lasts_ok : Yok mL_lasts := ⟨by decide +kernel, rfl, by decide, rfl⟩
theorem yL_sing_ok : Yok mL_sing := ⟨by decide +kernel, rfl, by decide, rfl⟩
theorem yL_round_ok : Yok mL_round := ⟨by decide +kernel, rfl, by decide, rfl⟩
theorem yL_tell_ok : Yok mL_tell := ⟨by decide +kernel, rfl, by decide, rfl⟩
theorem yL_rivals_ok : Yok mL_rivals := ⟨by decide +kernel, rfl, by decide, rfl⟩
theorem yL_sayers_ok : Yok mL_sayers := ⟨by decide +kernel, rfl, by decide, rfl⟩
theorem yL_stand_ok : Yok mL_stand := ⟨by decide +kernel, rfl, by decide, rfl⟩
theorem yL_matching_ok : Yok mL_matching := ⟨by decide +kernel, rfl, by decide, rfl⟩
theorem yL_moved_ok : Yok mL_moved := ⟨by decide +kernel, rfl, by decide, rfl⟩
theorem yL_code_ok : Yok mL_code := ⟨by decide +kernel, rfl, by decide, rfl⟩
