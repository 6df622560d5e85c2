section RulesD
variable {Y : YD} {k : KD} {Q : RS → Nat → AH → Prop} {b : Nat × Nat} {pc : Nat} {ls st : List AV} {n : Nat} {h : AH}

theorem s_ireturn {x : Int} (hd : decode Y.cd pc = .ok (.ireturn, 1)) (hn : ∃ ty, Y.ret = some ty ∧ narrow ty (.int (Int32.ofInt x)) = .int (Int32.ofInt x)) (hq : Q (.inl (some (zI x))) n h) (hb0 : k.md = false → b.1 = 0) : Wp Y k Q b pc ls [zI x] n h := by
  intro p l e R s m args below meth cd A D tc ad H locs cells slots ls' C hH hB hl
  have C0 := C
  obtain ⟨⟨hx, hb, hml, hr, hlk⟩, hown, hts, hK, hA, hR, hst, hE, hin, hexc, hlaw⟩ := C0
  unfold zFin
  by_cases hw : Y.law = true
  · rw [if_pos hw]
    obtain ⟨⟨q1, q2⟩, g1, g2, g3, g4, g5, g6, g7, g8, g9⟩ := hlaw hw
    have e1 := g8 _ _ _ hq
    have e2 : x = 1 := by
      have := Option.some.inj e1
      have := Option.some.inj this
      exact Sum.inl.inj this
    subst e2
    subst g1
    refine va_forget (fun q hq9 => g9 _ (hH.2.2.2.2 q hq9)) ?_
    refine W.widen (k := 600128) (n := 7301097) (by have := hB.1; omega) (by have := hB.2.1; omega) ?_
    rw [g2]
    rw [q1] at hb hd
    rw [q2] at hr
    have g2' : args = #[Value.ref (ad (-100))] := g2
    subst g2'
    exact lw_ret hx hb hr hlk hd
  · rw [if_neg hw]
    refine W.widen (k := k.mc) (n := k.ms) (by have := hB.1; omega) (by have := hB.2.1; omega) (vx_ret ?_)
    exact W.zret (v := Int32.ofInt x) hx hb (hr.trans hn.choose_spec.1) hn.choose_spec.2 (fun t ht hW => ⟨⟨some (zI x), n, h, rfl, hq, by rw [ht]; exact hH.1, hH.2.1, fun z => by
      obtain ⟨z1, z2⟩ := hB.2.2 z
      have z3 := hb0 z
      have z4 : cells = k.mc := by omega
      rw [← z4]
      exact z2⟩, hH.2.2.F ht⟩) hH.2.2.2.2 hd hlk

theorem s_return  (hd : decode Y.cd pc = .ok (.return_, 1)) (hn : Y.ret = none) (hq : Q (.inl (none)) n h) (hb0 : k.md = false → b.1 = 0) : Wp Y k Q b pc ls [] n h := by
  intro p l e R s m args below meth cd A D tc ad H locs cells slots ls' C hH hB hl
  have C0 := C
  obtain ⟨⟨hx, hb, hml, hr, hlk⟩, hown, hts, hK, hA, hR, hst, hE, hin, hexc, hlaw⟩ := C0
  unfold zFin
  by_cases hw : Y.law = true
  · rw [if_pos hw]
    exact absurd (hlaw hw).1.2 (by rw [hn]; exact fun z => by cases z)
  · rw [if_neg hw]
    refine W.widen (k := k.mc) (n := k.ms) (by have := hB.1; omega) (by have := hB.2.1; omega) (vx_ret ?_)
    exact W.vret hx hb (hr.trans hn) (fun t ht hW => ⟨⟨none, n, h, rfl, hq, by rw [ht]; exact hH.1, hH.2.1, fun z => by
      obtain ⟨z1, z2⟩ := hB.2.2 z
      have z3 := hb0 z
      have z4 : cells = k.mc := by omega
      rw [← z4]
      exact z2⟩, hH.2.2.F ht⟩) hH.2.2.2.2 hd hlk

theorem s_lreturn {x : Int} (hd : decode Y.cd pc = .ok (.lreturn, 1)) (hn : Y.ret = some .long) (hq : Q (.inl (some (zL x))) n h) (hb0 : k.md = false → b.1 = 0) : Wp Y k Q b pc ls [zL x] n h := by
  intro p l e R s m args below meth cd A D tc ad H locs cells slots ls' C hH hB hl
  have C0 := C
  obtain ⟨⟨hx, hb, hml, hr, hlk⟩, hown, hts, hK, hA, hR, hst, hE, hin, hexc, hlaw⟩ := C0
  unfold zFin
  by_cases hw : Y.law = true
  · rw [if_pos hw]
    exact absurd (hlaw hw).1.2 (by rw [hn]; exact fun z => by cases z)
  · rw [if_neg hw]
    refine W.widen (k := k.mc) (n := k.ms) (by have := hB.1; omega) (by have := hB.2.1; omega) (vx_ret ?_)
    exact W.lret (v := Int64.ofInt x) hx hb (hr.trans hn) (fun t ht hW => ⟨⟨some (zL x), n, h, rfl, hq, by rw [ht]; exact hH.1, hH.2.1, fun z => by
      obtain ⟨z1, z2⟩ := hB.2.2 z
      have z3 := hb0 z
      have z4 : cells = k.mc := by omega
      rw [← z4]
      exact z2⟩, hH.2.2.F ht⟩) hH.2.2.2.2 hd hlk


theorem thr_good1 : (vx_at0 "EchoGorge" 117 "java/lang/IllegalArgumentException" ["java/lang/RuntimeException", "java/lang/Exception"]).all (fun w => vx_ot w && (goodWord w || decide (w ∈ [Cond.castable "java/lang/IllegalArgumentException" "java/lang/IllegalArgumentException", .declares (Bundle.init0 "java/lang/RuntimeException"), .declares (Bundle.init0 "java/lang/Exception"), .declares (Bundle.init0 "java/lang/Throwable")]))) = true := by decide +kernel
theorem thr_good2 : (vx_at0 "EchoGorge" 158 "java/util/NoSuchElementException" ["java/lang/RuntimeException", "java/lang/Exception"]).all (fun w => vx_ot w && (goodWord w || decide (w ∈ [Cond.castable "java/util/NoSuchElementException" "java/util/NoSuchElementException", .declares (Bundle.init0 "java/lang/RuntimeException"), .declares (Bundle.init0 "java/lang/Exception"), .declares (Bundle.init0 "java/lang/Throwable")]))) = true := by decide +kernel
theorem thr_in1 : ∀ w ∈ (vx_at0 "EchoGorge" 117 "java/lang/IllegalArgumentException" ["java/lang/RuntimeException", "java/lang/Exception"]).filter goodWord, w ∈ lw_tbl := by decide +kernel
theorem thr_in2 : ∀ w ∈ (vx_at0 "EchoGorge" 158 "java/util/NoSuchElementException" ["java/lang/RuntimeException", "java/lang/Exception"]).filter goodWord, w ∈ lw_tbl := by decide +kernel
/-- the class, its numbers in EchoGorge's pool -/
def thrOf (ik ic : Nat) (E : String) : Prop := (ik = 115 ∧ ic = 117 ∧ E = "java/lang/IllegalArgumentException") ∨ (ik = 156 ∧ ic = 158 ∧ E = "java/util/NoSuchElementException")
theorem gw_in {w : Cond} (h1 : w ∈ lw_tbl) (h2 : goodWord w = true) : w ∈ GW := List.mem_filter.mpr ⟨h1, h2⟩

end RulesD
