/-! ===== the law's wrappers: what the class answers, what it throws ===== -/
section
variable {Y : YD} {k : KD} {Q : RS → Nat → AH → Prop} {b : Nat × Nat} {pc : Nat} {ls st : List AV} {n : Nat} {h : AH}
theorem x_catch2 {E name : String} {hs : Nat × Nat × Nat × Nat} {f : Nat} (pre suf : List (Nat × Nat × Nat × Nat)) (hsp : Y.exc = pre ++ hs :: suf) (hpre : ∀ z ∈ pre, z.2.2.2 ≠ 0 ∧ ∃ nm, Cond.classLink Y.own z.2.2.2 nm ∈ GW ∧ E = "java/lang/IllegalArgumentException" ∧ nm = "java/util/NoSuchElementException") (hcov : hs.1 ≤ pc ∧ pc < hs.2.1) (h0 : hs.2.2.2 ≠ 0) (hw1 : Cond.classLink Y.own hs.2.2.2 name ∈ GW) (hEn : E = name) (hEz : E ∈ zThr) (hd : decode Y.cd hs.2.2.1 = .ok (.astore f, 2)) (hg : nlg ls f = true) (hn : f < Y.nL) (kk : Wp Y k Q b (hs.2.2.1 + 2) (ls.set f none) [] n h) : Wx Y k Q b pc ls n h E := by
  intro p l e R s m args below meth cd A D tc ad H locs cells slots ls' rest q ce C hH hB hl hcell hcv hcls
  have C0 := C
  obtain ⟨⟨hx, hb, hml, hr, hlk⟩, hown, hts, hK, hA, hR, hst, hE, hin, hexc, hlaw⟩ := C0
  subst hEn
  refine vx_catch hown (tableOf pre) ⟨hs.1, hs.2.1, hs.2.2.1, hs.2.2.2⟩ (tableOf suf) (by rw [hexc, hsp]; simp [tableOf]) ?_ ?_ h0 (hts _ hw1) (va_Nw.use rfl (hE.2.2.2.2.2.2.2.2.1 _ hEz)) hcell hcv hcls ?_
  · intro z hz
    obtain ⟨w, hw, rfl⟩ := List.mem_map.mp hz
    obtain ⟨g1, nm, g2, g3, g4⟩ := hpre w hw
    refine Or.inr ⟨g1, nm, hts _ g2, ?_⟩
    rw [g3, g4]
    exact hE.2.2.2.1
  · simp [covers, hcov.1, hcov.2]
  · refine lv_astore hx hb hd hl hn rfl (fun l2 hl2 => ?_)
    refine kk p l e R s m args below meth cd A D tc ad H locs cells slots l2 C hH hB ?_
    refine ⟨hl2.1, hl2.2.1, fun w hw => ?_⟩
    obtain ⟨i, v⟩ := w
    obtain ⟨u, h1, h2, h3⟩ := lvl_mem.mp hw
    refine hl2.2.2 _ (List.mem_cons_of_mem _ (List.mem_filter.mpr ⟨?_, ?_⟩))
    · by_cases hi : i = (f : Nat)
      · subst hi
        by_cases hlt : i < ls.length
        · rw [List.getElem?_set_self hlt] at h1
          cases h1
          cases h2
        · rw [List.getElem?_eq_none (by rw [List.length_set]; omega)] at h1
          cases h1
      · rw [List.getElem?_set_ne (Ne.symm hi)] at h1
        exact lvl_mem.mpr ⟨u, h1, h2, h3⟩
    · have hi : i ≠ (f : Nat) := by
        intro hi
        subst hi
        by_cases hlt : i < ls.length
        · rw [List.getElem?_set_self hlt] at h1
          cases h1
          cases h2
        · rw [List.getElem?_eq_none (by rw [List.length_set]; omega)] at h1
          cases h1
      rw [List.getElem?_set_ne (Ne.symm hi)] at h1
      have h4 : ¬ (i + 1 = (f : Nat) ∧ v.category = 2) := by
        rintro ⟨e0, hc⟩
        rw [h3, zv_cat] at hc
        rw [← e0] at hg
        simp only [nlg, h1] at hg
        rcases u with _ | x | x | c
        · cases h2
        · simp [zcat] at hc
        · simp at hg
        · simp [zcat] at hc
      simp only [Bool.and_eq_true, Bool.not_eq_true', beq_eq_false_iff_ne, ne_eq, Bool.and_eq_false_iff]
      refine ⟨hi, ?_⟩
      by_cases e0 : i + 1 = (f : Nat)
      · exact Or.inr (fun z => h4 ⟨e0, z⟩)
      · exact Or.inl e0
theorem s_icmp_same {x : Int} {off : Int} {tgt : Nat} (hd : decode Y.cd pc = .ok (.if_icmp .eq off, 3)) (ht : (pc : Int) + off = (tgt : Int)) (kt : Wp Y k Q b tgt ls st n h) : Wp Y k Q b pc ls (zI x :: zI x :: st) n h := by
  intro p l e R s m args below meth c A D tc ad H locs cells slots ls' C hH hB hl
  have C0 := C
  obtain ⟨⟨hx, hb, hml, hr, hlk⟩, hown, hts, hK, hA, hR, hst, hE, hin, hexc, hlaw⟩ := C0
  exact lv_icmp_eq hx hb hd ht (fun _ => kt p l e R s m args below meth c A D tc ad H locs cells slots ls' C hH hB hl) (fun q => absurd rfl q)
end
theorem lg_self (a : Int64) : (lg_cmp a a).toInt = 0 := by
  rw [(lg_cmp_eq a a).mpr rfl]
  rfl
def wrR (cd : String → Int) (R : Int → AH → Prop) (X : String → AH → Prop) (k : Int) (h1 : AH) : Prop := (∃ x hx, k = 0 ∧ R x hx ∧ h1 = up hx 137 0 (i2l x)) ∨ (∃ E, k = cd E ∧ X E h1)
def cd1 : String → Int := fun _ => 1
def cd2 : String → Int := fun E => if E = NSE then 1 else 2
theorem we632 : ((Jvm.Cond.classLink "EchoGorgeLaw" 13 "java/lang/IllegalArgumentException") : Cond) ∈ GW := tw3 (List.mem_of_getElem? (i := 152) rfl) rfl
theorem we855 : ((Jvm.Cond.classLink "EchoGorgeLaw" 18 "java/util/NoSuchElementException") : Cond) ∈ GW := tw4 (List.mem_of_getElem? (i := 135) rfl) rfl
theorem w_gorge {fr : Nat} {h : AH} {a0 : Int} {R : Int → AH → Prop} {X : String → AH → Prop} (hS : Sp mX11_gorge true fr 8 48 [zR 1, zI a0] 137 h (rIx R X)) (hX : ∀ E h', X E h' → E = IAE) : Sp mL_gorge true (fr + 1) 8 48 [zR 1, zI a0, zR 137] 137 h (rI (wrR cd1 R X)) := by
  refine Sp.mk yL_gorge_ok rfl rfl ?_
  refine bL_gorge_0 (hS := hS) (kk := fun x hx hR => ?_) (kx := fun E hx hE => ?_)
  · exact bL_gorge_7 (kk := bL_gorge_15 (hq := ⟨_, rfl, rfl, Or.inl ⟨x, hx, rfl, hR, rfl⟩⟩))
  · have e := hX E hx hE
    refine x_catch (hs := (0, 9, 12, 13)) (name := IAE) [] [] rfl (fun z hz => by cases hz) ⟨by decide, by decide⟩ (by decide) we632 e (by rw [e]; decide) dL_gorge_12 rfl (by decide) ?_
    refine s_iconst dL_gorge_13 ?_
    exact s_ireturn dL_gorge_14 ⟨.int, rfl, rfl⟩ ⟨_, rfl, rfl, Or.inr ⟨E, rfl, hE⟩⟩ (fun z => by cases z)
theorem w_count {fr : Nat} {h : AH} {a0 : Int} {R : Int → AH → Prop} {X : String → AH → Prop} (hS : Sp mX11_count true fr 8 48 [zR 1, zI a0] 137 h (rIx R X)) (hX : ∀ E h', X E h' → E = NSE) : Sp mL_count true (fr + 1) 8 48 [zR 1, zI a0, zR 137] 137 h (rI (wrR cd1 R X)) := by
  refine Sp.mk yL_count_ok rfl rfl ?_
  refine bL_count_0 (hS := hS) (kk := fun x hx hR => ?_) (kx := fun E hx hE => ?_)
  · exact bL_count_7 (kk := bL_count_15 (hq := ⟨_, rfl, rfl, Or.inl ⟨x, hx, rfl, hR, rfl⟩⟩))
  · have e := hX E hx hE
    refine x_catch (hs := (0, 9, 12, 18)) (name := NSE) [] [] rfl (fun z hz => by cases hz) ⟨by decide, by decide⟩ (by decide) we855 e (by rw [e]; decide) dL_count_12 rfl (by decide) ?_
    refine s_iconst dL_count_13 ?_
    exact s_ireturn dL_count_14 ⟨.int, rfl, rfl⟩ ⟨_, rfl, rfl, Or.inr ⟨E, rfl, hE⟩⟩ (fun z => by cases z)
theorem w_wall {fr : Nat} {h : AH} {a0 a1 : Int} {R : Int → AH → Prop} {X : String → AH → Prop} (hS : Sp mX11_wall true fr 8 48 [zR 1, zI a0, zI a1] 137 h (rIx R X)) (hX : ∀ E h', X E h' → E = NSE) : Sp mL_wall true (fr + 1) 8 48 [zR 1, zI a0, zI a1, zR 137] 137 h (rI (wrR cd1 R X)) := by
  refine Sp.mk yL_wall_ok rfl rfl ?_
  refine bL_wall_0 (hS := hS) (kk := fun x hx hR => ?_) (kx := fun E hx hE => ?_)
  · exact bL_wall_8 (kk := bL_wall_17 (hq := ⟨_, rfl, rfl, Or.inl ⟨x, hx, rfl, hR, rfl⟩⟩))
  · have e := hX E hx hE
    refine x_catch2 (hs := (0, 10, 13, 18)) (name := NSE) [] [] rfl (fun z hz => by cases hz) ⟨by decide, by decide⟩ (by decide) we855 e (by rw [e]; decide) dL_wall_13 rfl (by decide) ?_
    refine s_iconst dL_wall_15 ?_
    exact s_ireturn dL_wall_16 ⟨.int, rfl, rfl⟩ ⟨_, rfl, rfl, Or.inr ⟨E, rfl, hE⟩⟩ (fun z => by cases z)
theorem w_word {fr : Nat} {h : AH} {a0 a1 : Int} {R : Int → AH → Prop} {X : String → AH → Prop} (hS : Sp mX11_word true fr 8 48 [zR 1, zI a0, zI a1] 137 h (rIx R X)) (hX : ∀ E h', X E h' → E = NSE) : Sp mL_word true (fr + 1) 8 48 [zR 1, zI a0, zI a1, zR 137] 137 h (rI (wrR cd1 R X)) := by
  refine Sp.mk yL_word_ok rfl rfl ?_
  refine bL_word_0 (hS := hS) (kk := fun x hx hR => ?_) (kx := fun E hx hE => ?_)
  · exact bL_word_8 (kk := bL_word_17 (hq := ⟨_, rfl, rfl, Or.inl ⟨x, hx, rfl, hR, rfl⟩⟩))
  · have e := hX E hx hE
    refine x_catch2 (hs := (0, 10, 13, 18)) (name := NSE) [] [] rfl (fun z hz => by cases hz) ⟨by decide, by decide⟩ (by decide) we855 e (by rw [e]; decide) dL_word_13 rfl (by decide) ?_
    refine s_iconst dL_word_15 ?_
    exact s_ireturn dL_word_16 ⟨.int, rfl, rfl⟩ ⟨_, rfl, rfl, Or.inr ⟨E, rfl, hE⟩⟩ (fun z => by cases z)
theorem w_say {fr : Nat} {h : AH} {a0 a1 : Int} {R : Int → AH → Prop} {X : String → AH → Prop} (hS : Sp mX11_say true fr 8 48 [zR 1, zI a0, zI a1] 137 h (rIx R X)) (hX : ∀ E h', X E h' → E = NSE) : Sp mL_say true (fr + 1) 8 48 [zR 1, zI a0, zI a1, zR 137] 137 h (rI (wrR cd1 R X)) := by
  refine Sp.mk yL_say_ok rfl rfl ?_
  refine bL_say_0 (hS := hS) (kk := fun x hx hR => ?_) (kx := fun E hx hE => ?_)
  · exact bL_say_8 (kk := bL_say_17 (hq := ⟨_, rfl, rfl, Or.inl ⟨x, hx, rfl, hR, rfl⟩⟩))
  · have e := hX E hx hE
    refine x_catch2 (hs := (0, 10, 13, 18)) (name := NSE) [] [] rfl (fun z hz => by cases hz) ⟨by decide, by decide⟩ (by decide) we855 e (by rw [e]; decide) dL_say_13 rfl (by decide) ?_
    refine s_iconst dL_say_15 ?_
    exact s_ireturn dL_say_16 ⟨.int, rfl, rfl⟩ ⟨_, rfl, rfl, Or.inr ⟨E, rfl, hE⟩⟩ (fun z => by cases z)
theorem w_heard {fr : Nat} {h : AH} {a0 a1 a2 : Int} {R : Int → AH → Prop} {X : String → AH → Prop} (hS : Sp mX11_heard true fr 8 48 [zR 1, zI a0, zI a1, zI a2] 137 h (rIx R X)) (hX : ∀ E h', X E h' → E = NSE) : Sp mL_heard true (fr + 1) 8 48 [zR 1, zI a0, zI a1, zI a2, zR 137] 137 h (rI (wrR cd1 R X)) := by
  refine Sp.mk yL_heard_ok rfl rfl ?_
  refine bL_heard_0 (hS := hS) (kk := fun x hx hR => ?_) (kx := fun E hx hE => ?_)
  · exact bL_heard_10 (kk := bL_heard_19 (hq := ⟨_, rfl, rfl, Or.inl ⟨x, hx, rfl, hR, rfl⟩⟩))
  · have e := hX E hx hE
    refine x_catch2 (hs := (0, 12, 15, 18)) (name := NSE) [] [] rfl (fun z hz => by cases hz) ⟨by decide, by decide⟩ (by decide) we855 e (by rw [e]; decide) dL_heard_15 rfl (by decide) ?_
    refine s_iconst dL_heard_17 ?_
    exact s_ireturn dL_heard_18 ⟨.int, rfl, rfl⟩ ⟨_, rfl, rfl, Or.inr ⟨E, rfl, hE⟩⟩ (fun z => by cases z)
theorem w_loud {fr : Nat} {h : AH} {a0 a1 a2 a3 : Int} {R : Int → AH → Prop} {X : String → AH → Prop} (hS : Sp mX11_loud true fr 8 48 [zR 1, zI a0, zI a1, zI a2, zI a3] 137 h (rIx R X)) (hX : ∀ E h', X E h' → E = NSE) : Sp mL_loud true (fr + 1) 8 48 [zR 1, zI a0, zI a1, zI a2, zI a3, zR 137] 137 h (rI (wrR cd1 R X)) := by
  refine Sp.mk yL_loud_ok rfl rfl ?_
  refine bL_loud_0 (hS := hS) (kk := fun x hx hR => ?_) (kx := fun E hx hE => ?_)
  · exact bL_loud_12 (kk := bL_loud_21 (hq := ⟨_, rfl, rfl, Or.inl ⟨x, hx, rfl, hR, rfl⟩⟩))
  · have e := hX E hx hE
    refine x_catch2 (hs := (0, 14, 17, 18)) (name := NSE) [] [] rfl (fun z hz => by cases hz) ⟨by decide, by decide⟩ (by decide) we855 e (by rw [e]; decide) dL_loud_17 rfl (by decide) ?_
    refine s_iconst dL_loud_19 ?_
    exact s_ireturn dL_loud_20 ⟨.int, rfl, rfl⟩ ⟨_, rfl, rfl, Or.inr ⟨E, rfl, hE⟩⟩ (fun z => by cases z)
theorem w_lines {fr : Nat} {h : AH} {a0 a1 : Int} {R : Int → AH → Prop} {X : String → AH → Prop} (hS : Sp mX11_lines true fr 8 48 [zR 1, zI a0, zI a1] 137 h (rIx R X)) (hX : ∀ E h', X E h' → E = NSE) : Sp mL_lines true (fr + 1) 8 48 [zR 1, zI a0, zI a1, zR 137] 137 h (rI (wrR cd1 R X)) := by
  refine Sp.mk yL_lines_ok rfl rfl ?_
  refine bL_lines_0 (hS := hS) (kk := fun x hx hR => ?_) (kx := fun E hx hE => ?_)
  · exact bL_lines_8 (kk := bL_lines_17 (hq := ⟨_, rfl, rfl, Or.inl ⟨x, hx, rfl, hR, rfl⟩⟩))
  · have e := hX E hx hE
    refine x_catch2 (hs := (0, 10, 13, 18)) (name := NSE) [] [] rfl (fun z hz => by cases hz) ⟨by decide, by decide⟩ (by decide) we855 e (by rw [e]; decide) dL_lines_13 rfl (by decide) ?_
    refine s_iconst dL_lines_15 ?_
    exact s_ireturn dL_lines_16 ⟨.int, rfl, rfl⟩ ⟨_, rfl, rfl, Or.inr ⟨E, rfl, hE⟩⟩ (fun z => by cases z)
theorem w_line {fr : Nat} {h : AH} {a0 a1 a2 : Int} {R : Int → AH → Prop} {X : String → AH → Prop} (hS : Sp mX11_line true fr 8 48 [zR 1, zI a0, zI a1, zI a2] 137 h (rIx R X)) (hX : ∀ E h', X E h' → E = NSE) : Sp mL_line true (fr + 1) 8 48 [zR 1, zI a0, zI a1, zI a2, zR 137] 137 h (rI (wrR cd1 R X)) := by
  refine Sp.mk yL_line_ok rfl rfl ?_
  refine bL_line_0 (hS := hS) (kk := fun x hx hR => ?_) (kx := fun E hx hE => ?_)
  · exact bL_line_10 (kk := bL_line_19 (hq := ⟨_, rfl, rfl, Or.inl ⟨x, hx, rfl, hR, rfl⟩⟩))
  · have e := hX E hx hE
    refine x_catch2 (hs := (0, 12, 15, 18)) (name := NSE) [] [] rfl (fun z hz => by cases hz) ⟨by decide, by decide⟩ (by decide) we855 e (by rw [e]; decide) dL_line_15 rfl (by decide) ?_
    refine s_iconst dL_line_17 ?_
    exact s_ireturn dL_line_18 ⟨.int, rfl, rfl⟩ ⟨_, rfl, rfl, Or.inr ⟨E, rfl, hE⟩⟩ (fun z => by cases z)
theorem w_still {fr : Nat} {h : AH} {a0 a1 : Int} {R : Int → AH → Prop} {X : String → AH → Prop} (hS : Sp mX11_still true fr 8 48 [zR 1, zI a0, zI a1] 137 h (rIx R X)) (hX : ∀ E h', X E h' → E = NSE ∨ E = IAE) : Sp mL_still true (fr + 1) 8 48 [zR 1, zI a0, zI a1, zR 137] 137 h (rI (wrR cd2 R X)) := by
  refine Sp.mk yL_still_ok rfl rfl ?_
  refine bL_still_0 (hS := hS) (kk := fun x hx hR => ?_) (kx := fun E hx hE => ?_)
  · exact bL_still_8 (kk := bL_still_21 (hq := ⟨_, rfl, rfl, Or.inl ⟨x, hx, rfl, hR, rfl⟩⟩))
  · rcases hX E hx hE with e | e
    · skip
      refine x_catch2 (hs := (0, 10, 13, 18)) (name := NSE) [] [(0, 10, 17, 13)] rfl (fun z hz => by cases hz) ⟨by decide, by decide⟩ (by decide) we855 e (by rw [e]; decide) dL_still_13 rfl (by decide) ?_
      refine s_iconst dL_still_15 ?_
      exact s_ireturn dL_still_16 ⟨.int, rfl, rfl⟩ ⟨_, rfl, rfl, Or.inr ⟨E, by rw [e]; rfl, hE⟩⟩ (fun z => by cases z)
    · skip
      refine x_catch2 (hs := (0, 10, 17, 13)) (name := IAE) [(0, 10, 13, 18)] [] rfl (fun z hz => by
        rcases List.mem_cons.mp hz with z1 | z1
        · rw [z1]; exact ⟨by decide, NSE, we855, e, rfl⟩
        · cases z1) ⟨by decide, by decide⟩ (by decide) we632 e (by rw [e]; decide) dL_still_17 rfl (by decide) ?_
      refine s_iconst dL_still_19 ?_
      exact s_ireturn dL_still_20 ⟨.int, rfl, rfl⟩ ⟨_, rfl, rfl, Or.inr ⟨E, by rw [e]; rfl, hE⟩⟩ (fun z => by cases z)
theorem w_without {fr : Nat} {h : AH} {a0 a1 : Int} {R : Int → AH → Prop} {X : String → AH → Prop} (hS : Sp mX11_without true fr 8 48 [zR 1, zI a0, zI a1] 137 h (rIx R X)) (hX : ∀ E h', X E h' → E = NSE) : Sp mL_without true (fr + 1) 8 48 [zR 1, zI a0, zI a1, zR 137] 137 h (rI (wrR cd1 R X)) := by
  refine Sp.mk yL_without_ok rfl rfl ?_
  refine bL_without_0 (hS := hS) (kk := fun x hx hR => ?_) (kx := fun E hx hE => ?_)
  · exact bL_without_8 (kk := bL_without_17 (hq := ⟨_, rfl, rfl, Or.inl ⟨x, hx, rfl, hR, rfl⟩⟩))
  · have e := hX E hx hE
    refine x_catch2 (hs := (0, 10, 13, 18)) (name := NSE) [] [] rfl (fun z hz => by cases hz) ⟨by decide, by decide⟩ (by decide) we855 e (by rw [e]; decide) dL_without_13 rfl (by decide) ?_
    refine s_iconst dL_without_15 ?_
    exact s_ireturn dL_without_16 ⟨.int, rfl, rfl⟩ ⟨_, rfl, rfl, Or.inr ⟨E, rfl, hE⟩⟩ (fun z => by cases z)
theorem w_lasts {fr : Nat} {h : AH} {a0 : Int} {R : Int → AH → Prop} {X : String → AH → Prop} (hS : Sp mX11_lasts true fr 8 48 [zR 1, zI a0] 137 h (rIx R X)) (hX : ∀ E h', X E h' → E = NSE) : Sp mL_lasts true (fr + 1) 8 48 [zR 1, zI a0, zR 137] 137 h (rI (wrR cd1 R X)) := by
  refine Sp.mk yL_lasts_ok rfl rfl ?_
  refine bL_lasts_0 (hS := hS) (kk := fun x hx hR => ?_) (kx := fun E hx hE => ?_)
  · exact bL_lasts_7 (kk := bL_lasts_15 (hq := ⟨_, rfl, rfl, Or.inl ⟨x, hx, rfl, hR, rfl⟩⟩))
  · have e := hX E hx hE
    refine x_catch (hs := (0, 9, 12, 18)) (name := NSE) [] [] rfl (fun z hz => by cases hz) ⟨by decide, by decide⟩ (by decide) we855 e (by rw [e]; decide) dL_lasts_12 rfl (by decide) ?_
    refine s_iconst dL_lasts_13 ?_
    exact s_ireturn dL_lasts_14 ⟨.int, rfl, rfl⟩ ⟨_, rfl, rfl, Or.inr ⟨E, rfl, hE⟩⟩ (fun z => by cases z)
theorem w_sing {fr : Nat} {h : AH} {a0 a1 : Int} {R : Int → AH → Prop} {X : String → AH → Prop} (hS : Sp mX11_sing true fr 8 48 [zR 1, zI a0, zI a1] 137 h (rIx R X)) (hX : ∀ E h', X E h' → E = NSE) : Sp mL_sing true (fr + 1) 8 48 [zR 1, zI a0, zI a1, zR 137] 137 h (rI (wrR cd1 R X)) := by
  refine Sp.mk yL_sing_ok rfl rfl ?_
  refine bL_sing_0 (hS := hS) (kk := fun x hx hR => ?_) (kx := fun E hx hE => ?_)
  · exact bL_sing_8 (kk := bL_sing_17 (hq := ⟨_, rfl, rfl, Or.inl ⟨x, hx, rfl, hR, rfl⟩⟩))
  · have e := hX E hx hE
    refine x_catch2 (hs := (0, 10, 13, 18)) (name := NSE) [] [] rfl (fun z hz => by cases hz) ⟨by decide, by decide⟩ (by decide) we855 e (by rw [e]; decide) dL_sing_13 rfl (by decide) ?_
    refine s_iconst dL_sing_15 ?_
    exact s_ireturn dL_sing_16 ⟨.int, rfl, rfl⟩ ⟨_, rfl, rfl, Or.inr ⟨E, rfl, hE⟩⟩ (fun z => by cases z)
theorem w_round {fr : Nat} {h : AH} {a0 : Int} {R : Int → AH → Prop} {X : String → AH → Prop} (hS : Sp mX11_round true fr 8 48 [zR 1, zI a0] 137 h (rIx R X)) (hX : ∀ E h', X E h' → E = NSE) : Sp mL_round true (fr + 1) 8 48 [zR 1, zI a0, zR 137] 137 h (rI (wrR cd1 R X)) := by
  refine Sp.mk yL_round_ok rfl rfl ?_
  refine bL_round_0 (hS := hS) (kk := fun x hx hR => ?_) (kx := fun E hx hE => ?_)
  · exact bL_round_7 (kk := bL_round_15 (hq := ⟨_, rfl, rfl, Or.inl ⟨x, hx, rfl, hR, rfl⟩⟩))
  · have e := hX E hx hE
    refine x_catch (hs := (0, 9, 12, 18)) (name := NSE) [] [] rfl (fun z hz => by cases hz) ⟨by decide, by decide⟩ (by decide) we855 e (by rw [e]; decide) dL_round_12 rfl (by decide) ?_
    refine s_iconst dL_round_13 ?_
    exact s_ireturn dL_round_14 ⟨.int, rfl, rfl⟩ ⟨_, rfl, rfl, Or.inr ⟨E, rfl, hE⟩⟩ (fun z => by cases z)
theorem w_tell {fr : Nat} {h : AH} {a0 : Int} {R : Int → AH → Prop} {X : String → AH → Prop} (hS : Sp mX11_tell true fr 8 48 [zR 1, zI a0] 137 h (rIx R X)) (hX : ∀ E h', X E h' → E = NSE) : Sp mL_tell true (fr + 1) 8 48 [zR 1, zI a0, zR 137] 137 h (rI (wrR cd1 R X)) := by
  refine Sp.mk yL_tell_ok rfl rfl ?_
  refine bL_tell_0 (hS := hS) (kk := fun x hx hR => ?_) (kx := fun E hx hE => ?_)
  · exact bL_tell_7 (kk := bL_tell_15 (hq := ⟨_, rfl, rfl, Or.inl ⟨x, hx, rfl, hR, rfl⟩⟩))
  · have e := hX E hx hE
    refine x_catch (hs := (0, 9, 12, 18)) (name := NSE) [] [] rfl (fun z hz => by cases hz) ⟨by decide, by decide⟩ (by decide) we855 e (by rw [e]; decide) dL_tell_12 rfl (by decide) ?_
    refine s_iconst dL_tell_13 ?_
    exact s_ireturn dL_tell_14 ⟨.int, rfl, rfl⟩ ⟨_, rfl, rfl, Or.inr ⟨E, rfl, hE⟩⟩ (fun z => by cases z)
theorem w_rivals {fr : Nat} {h : AH} {a0 a1 : Int} {R : Int → AH → Prop} {X : String → AH → Prop} (hS : Sp mX11_rivals true fr 8 48 [zR 1, zI a0, zI a1] 137 h (rIx R X)) (hX : ∀ E h', X E h' → E = NSE ∨ E = IAE) : Sp mL_rivals true (fr + 1) 8 48 [zR 1, zI a0, zI a1, zR 137] 137 h (rI (wrR cd2 R X)) := by
  refine Sp.mk yL_rivals_ok rfl rfl ?_
  refine bL_rivals_0 (hS := hS) (kk := fun x hx hR => ?_) (kx := fun E hx hE => ?_)
  · exact bL_rivals_8 (kk := bL_rivals_21 (hq := ⟨_, rfl, rfl, Or.inl ⟨x, hx, rfl, hR, rfl⟩⟩))
  · rcases hX E hx hE with e | e
    · skip
      refine x_catch2 (hs := (0, 10, 13, 18)) (name := NSE) [] [(0, 10, 17, 13)] rfl (fun z hz => by cases hz) ⟨by decide, by decide⟩ (by decide) we855 e (by rw [e]; decide) dL_rivals_13 rfl (by decide) ?_
      refine s_iconst dL_rivals_15 ?_
      exact s_ireturn dL_rivals_16 ⟨.int, rfl, rfl⟩ ⟨_, rfl, rfl, Or.inr ⟨E, by rw [e]; rfl, hE⟩⟩ (fun z => by cases z)
    · skip
      refine x_catch2 (hs := (0, 10, 17, 13)) (name := IAE) [(0, 10, 13, 18)] [] rfl (fun z hz => by
        rcases List.mem_cons.mp hz with z1 | z1
        · rw [z1]; exact ⟨by decide, NSE, we855, e, rfl⟩
        · cases z1) ⟨by decide, by decide⟩ (by decide) we632 e (by rw [e]; decide) dL_rivals_17 rfl (by decide) ?_
      refine s_iconst dL_rivals_19 ?_
      exact s_ireturn dL_rivals_20 ⟨.int, rfl, rfl⟩ ⟨_, rfl, rfl, Or.inr ⟨E, by rw [e]; rfl, hE⟩⟩ (fun z => by cases z)
theorem w_sayers {fr : Nat} {h : AH} {a0 : Int} {R : Int → AH → Prop} {X : String → AH → Prop} (hS : Sp mX11_sayers true fr 8 48 [zR 1, zI a0] 137 h (rIx R X)) (hX : ∀ E h', X E h' → E = NSE) : Sp mL_sayers true (fr + 1) 8 48 [zR 1, zI a0, zR 137] 137 h (rI (wrR cd1 R X)) := by
  refine Sp.mk yL_sayers_ok rfl rfl ?_
  refine bL_sayers_0 (hS := hS) (kk := fun x hx hR => ?_) (kx := fun E hx hE => ?_)
  · exact bL_sayers_7 (kk := bL_sayers_15 (hq := ⟨_, rfl, rfl, Or.inl ⟨x, hx, rfl, hR, rfl⟩⟩))
  · have e := hX E hx hE
    refine x_catch (hs := (0, 9, 12, 18)) (name := NSE) [] [] rfl (fun z hz => by cases hz) ⟨by decide, by decide⟩ (by decide) we855 e (by rw [e]; decide) dL_sayers_12 rfl (by decide) ?_
    refine s_iconst dL_sayers_13 ?_
    exact s_ireturn dL_sayers_14 ⟨.int, rfl, rfl⟩ ⟨_, rfl, rfl, Or.inr ⟨E, rfl, hE⟩⟩ (fun z => by cases z)
theorem w_stand {fr : Nat} {h : AH} {a0 a1 a2 : Int} {R : Int → AH → Prop} {X : String → AH → Prop} (hS : Sp mX11_stand true fr 8 48 [zR 1, zI a0, zI a1, zI a2] 137 h (rIx R X)) (hX : ∀ E h', X E h' → E = NSE) (h01 : ∀ x h', R x h' → x = 0 ∨ x = 1) : Sp mL_stand true (fr + 1) 8 48 [zR 1, zI a0, zI a1, zI a2, zR 137] 137 h (rI (wrR cd1 R X)) := by
  refine Sp.mk yL_stand_ok rfl rfl ?_
  refine bL_stand_0 (hS := hS) (kk := fun x hx hR => ?_) (kx := fun E hx hE => ?_)
  · rcases h01 x hx hR with q | q
    · rw [q] at hR ⊢
      exact bL_stand_10 (kt := fun _ => bL_stand_17 (kk := bL_stand_18 (kk := bL_stand_26 (hq := ⟨_, rfl, rfl, Or.inl ⟨0, hx, rfl, hR, rfl⟩⟩)))) (kf := fun z => absurd rfl z)
    · rw [q] at hR ⊢
      exact bL_stand_10 (kt := fun z => absurd z (by decide)) (kf := fun _ => bL_stand_13 (kk := bL_stand_18 (kk := bL_stand_26 (hq := ⟨_, rfl, rfl, Or.inl ⟨1, hx, rfl, hR, rfl⟩⟩))))
  · have e := hX E hx hE
    refine x_catch2 (hs := (0, 19, 22, 18)) (name := NSE) [] [] rfl (fun z hz => by cases hz) ⟨by decide, by decide⟩ (by decide) we855 e (by rw [e]; decide) dL_stand_22 rfl (by decide) ?_
    refine s_iconst dL_stand_24 ?_
    exact s_ireturn dL_stand_25 ⟨.int, rfl, rfl⟩ ⟨_, rfl, rfl, Or.inr ⟨E, rfl, hE⟩⟩ (fun z => by cases z)
theorem w_matching {fr : Nat} {h : AH} {a0 a1 a2 : Int} {R : Int → AH → Prop} {X : String → AH → Prop} (hS : Sp mX11_matching true fr 8 48 [zR 1, zI a0, zI a1, zI a2] 137 h (rIx R X)) (hX : ∀ E h', X E h' → E = NSE) : Sp mL_matching true (fr + 1) 8 48 [zR 1, zI a0, zI a1, zI a2, zR 137] 137 h (rI (wrR cd1 R X)) := by
  refine Sp.mk yL_matching_ok rfl rfl ?_
  refine bL_matching_0 (hS := hS) (kk := fun x hx hR => ?_) (kx := fun E hx hE => ?_)
  · exact bL_matching_10 (kk := bL_matching_19 (hq := ⟨_, rfl, rfl, Or.inl ⟨x, hx, rfl, hR, rfl⟩⟩))
  · have e := hX E hx hE
    refine x_catch2 (hs := (0, 12, 15, 18)) (name := NSE) [] [] rfl (fun z hz => by cases hz) ⟨by decide, by decide⟩ (by decide) we855 e (by rw [e]; decide) dL_matching_15 rfl (by decide) ?_
    refine s_iconst dL_matching_17 ?_
    exact s_ireturn dL_matching_18 ⟨.int, rfl, rfl⟩ ⟨_, rfl, rfl, Or.inr ⟨E, rfl, hE⟩⟩ (fun z => by cases z)
theorem w_moved {fr : Nat} {h : AH} {a0 a1 a2 a3 a4 : Int} {R : Int → AH → Prop} {X : String → AH → Prop} (hS : Sp mX11_moved true fr 8 48 [zR 1, zI a0, zI a1, zI a2, zI a3, zI a4] 137 h (rIx R X)) (hX : ∀ E h', X E h' → E = IAE) : Sp mL_moved true (fr + 1) 8 48 [zR 1, zI a0, zI a1, zI a2, zI a3, zI a4, zR 137] 137 h (rI (wrR cd1 R X)) := by
  refine Sp.mk yL_moved_ok rfl rfl ?_
  refine bL_moved_0 (hS := hS) (kk := fun x hx hR => ?_) (kx := fun E hx hE => ?_)
  · exact bL_moved_14 (kk := bL_moved_23 (hq := ⟨_, rfl, rfl, Or.inl ⟨x, hx, rfl, hR, rfl⟩⟩))
  · have e := hX E hx hE
    refine x_catch2 (hs := (0, 16, 19, 13)) (name := IAE) [] [] rfl (fun z hz => by cases hz) ⟨by decide, by decide⟩ (by decide) we632 e (by rw [e]; decide) dL_moved_19 rfl (by decide) ?_
    refine s_iconst dL_moved_21 ?_
    exact s_ireturn dL_moved_22 ⟨.int, rfl, rfl⟩ ⟨_, rfl, rfl, Or.inr ⟨E, rfl, hE⟩⟩ (fun z => by cases z)
theorem w_code {fr : Nat} {h : AH} {a0 a1 : Int} {R : Int → AH → Prop} {X : String → AH → Prop} (hS : Sp mX11_code true fr 8 48 [zR 1, zI a0, zI a1] 137 h (rIx R X)) (hX : ∀ E h', X E h' → E = NSE) : Sp mL_code true (fr + 1) 8 48 [zR 1, zI a0, zI a1, zR 137] 137 h (rI (wrR cd1 R X)) := by
  refine Sp.mk yL_code_ok rfl rfl ?_
  refine bL_code_0 (hS := hS) (kk := fun x hx hR => ?_) (kx := fun E hx hE => ?_)
  · exact bL_code_8 (kk := bL_code_17 (hq := ⟨_, rfl, rfl, Or.inl ⟨x, hx, rfl, hR, rfl⟩⟩))
  · have e := hX E hx hE
    refine x_catch2 (hs := (0, 10, 13, 18)) (name := NSE) [] [] rfl (fun z hz => by cases hz) ⟨by decide, by decide⟩ (by decide) we855 e (by rw [e]; decide) dL_code_13 rfl (by decide) ?_
    refine s_iconst dL_code_15 ?_
    exact s_ireturn dL_code_16 ⟨.int, rfl, rfl⟩ ⟨_, rfl, rfl, Or.inr ⟨E, rfl, hE⟩⟩ (fun z => by cases z)
