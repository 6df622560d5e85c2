/-! ===== the model: letters as a long ===== -/
theorem shl5 {a : Nat} (h : a < 2 ^ 50) : lShl a 5 = ((a * 32 : Nat) : Int) := by
  unfold lShl
  rw [show ((Int32.ofInt 5).toInt64 &&& 63) = (5 : Int64) by decide]
  refine Eq.trans (congrArg Int64.toInt (a₂ := Int64.ofInt ((a * 32 : Nat) : Int)) ?_) (Int64.toInt_ofInt_of_le (by omega) (by omega))
  apply Int64.toBitVec_inj.mp
  apply BitVec.eq_of_toNat_eq
  rw [Int64.toBitVec_shiftLeft]
  rw [show (5 : Int64).toBitVec.smod 64 = 5#64 by decide]
  show (BitVec.ofNat 64 a <<< 5#64).toNat = (BitVec.ofNat 64 (a * 32)).toNat
  rw [BitVec.shiftLeft_eq', BitVec.toNat_shiftLeft, BitVec.toNat_ofNat, BitVec.toNat_ofNat, Nat.shiftLeft_eq]
  show a % 2 ^ 64 * 2 ^ 5 % 2 ^ 64 = a * 32 % 2 ^ 64
  rw [Nat.mod_eq_of_lt (show a < 2 ^ 64 by omega)]
theorem or32 (a b : Nat) (hb : b < 32) : a * 32 ||| b = a * 32 + b := by
  have := Nat.two_pow_add_eq_or_of_lt (i := 5) (b := b) hb a
  rw [show 2 ^ 5 * a = a * 32 by omega] at this
  omega
theorem i2l_is {x : Int} (h : R32 x) : i2l x = x := by
  unfold i2l
  rw [Int32.toInt_toInt64]
  exact toInt32 h
theorem letter_add {x c : Int} (x0 : 0 ≤ x) (x1 : x < 2 ^ 50) (c0 : 97 ≤ c) (c1 : c ≤ 122) : lOr (lShl x 5) (i2l (c - 96)) = x * 32 + (c - 96) := by
  obtain ⟨a, rfl⟩ : ∃ a : Nat, x = a := ⟨x.toNat, by omega⟩
  obtain ⟨b, hb⟩ : ∃ b : Nat, c - 96 = b := ⟨(c - 96).toNat, by omega⟩
  have ha : a < 2 ^ 50 := by rw [pow_nat] at x1; omega
  rw [shl5 ha, i2l_is ⟨by omega, by omega⟩, hb, lOr_nat (by rw [or32 _ _ (by omega)]; omega), or32 _ _ (by omega)]
  push_cast; rfl
def lw (T : Int → Int) (q : Int) : Nat → Int
  | 0 => 0
  | k + 1 => lw T q k * 32 + (T (q + k) - 96)
theorem lw_rng {T : Int → Int} {q : Int} : ∀ k : Nat, (∀ i : Nat, i < k → isLe (T (q + i)) = true) → (k = 0 → lw T q k = 0) ∧ (0 < k → 1 ≤ lw T q k) ∧ lw T q k < 32 ^ k
  | 0, _ => ⟨fun _ => rfl, fun h => by omega, by show (0 : Int) < 1; decide⟩
  | k + 1, h => by
    have a := lw_rng k (fun i hi => h i (by omega))
    have b := of_decide_eq_true (h k (by omega))
    have e : (32 : Int) ^ (k + 1) = 32 ^ k * 32 := Int.pow_succ _ _
    have n : 0 ≤ lw T q k := by by_cases z : k = 0 <;> omega
    refine ⟨fun z => by omega, fun _ => ?_, ?_⟩
    · show 1 ≤ lw T q k * 32 + (T (q + k) - 96); omega
    · show lw T q k * 32 + (T (q + k) - 96) < _; rw [e]; omega
theorem lw_inj {T U : Int → Int} {q r : Int} : ∀ (k m : Nat), (∀ i : Nat, i < k → isLe (T (q + i)) = true) → (∀ i : Nat, i < m → isLe (U (r + i)) = true) → lw T q k = lw U r m → k = m ∧ ∀ i : Nat, i < k → T (q + i) = U (r + i)
  | 0, 0, _, _, _ => ⟨rfl, fun i hi => by omega⟩
  | 0, m + 1, _, hu, e => by
    have := (lw_rng (m + 1) hu).2.1 (by omega)
    have e0 : lw T q 0 = 0 := rfl
    omega
  | k + 1, 0, ht, _, e => by
    have := (lw_rng (k + 1) ht).2.1 (by omega)
    have e0 : lw U r 0 = 0 := rfl
    omega
  | k + 1, m + 1, ht, hu, e => by
    have a := of_decide_eq_true (ht k (by omega))
    have b := of_decide_eq_true (hu m (by omega))
    have e' : lw T q k * 32 + (T (q + k) - 96) = lw U r m * 32 + (U (r + m) - 96) := e
    obtain ⟨rfl, f⟩ := lw_inj k m (fun i hi => ht i (by omega)) (fun i hi => hu i (by omega)) (by omega)
    refine ⟨rfl, fun i hi => ?_⟩
    by_cases z : i = k
    · rw [z]; omega
    · exact f i (by omega)
def sp1 (x v : Int) : Int := if v = 0 then x else lOr (lShl x 5) (i2l (v - 96))
def sp8 (a b c d e f g h : Int) : Int := sp1 (sp1 (sp1 (sp1 (sp1 (sp1 (sp1 (i2l (a - 96)) b) c) d) e) f) g) h
/-- which of the class's words the model's k is -/
def mW : List Nat := [0, 1, 4, 5, 6, 7, 8, 9, 2, 3]
abbrev lwS (i : Nat) : Int := lw (fun j => (SW i).getD j.toNat 0) 0 (SW i).length
theorem sp_all : sp8 115 111 117 110 100 0 0 0 = lwS 0 ∧ sp8 119 97 108 108 0 0 0 0 = lwS 1 ∧ sp8 115 116 114 97 105 103 104 116 = lwS 4 ∧ sp8 97 105 114 0 0 0 0 0 = lwS 5 ∧ sp8 109 97 115 107 0 0 0 0 = lwS 6 ∧ sp8 115 119 101 101 116 0 0 0 = lwS 7 ∧ sp8 119 111 114 100 0 0 0 0 = lwS 8 ∧ sp8 102 111 114 109 0 0 0 0 = lwS 9 ∧ sp8 115 119 97 108 108 111 119 115 = lwS 2 ∧ sp8 97 103 97 105 110 0 0 0 = lwS 3 := by decide +kernel
theorem lwS_rng : ∀ i, i < 10 → (0 ≤ lwS i ∧ lwS i < 2 ^ 60) ∧ (SW i).length ≤ 8 ∧ ∀ j, j < (SW i).length → isLe ((SW i).getD j 0) = true := by decide +kernel
theorem zl_setL {ad : Int → Nat} {ls : List AV} {nL : Nat} {ls' : Array Slot} {i : Nat} {v : AV} {l : List (Nat × Value)} (hn : nlg ls i = true) (h1 : ls[i + 1]? = some none) (hl : (i, zv ad v) :: (lvl ad ls).filter (fun q => !(q.1 == i) && (!(q.1 == i + 1) && !(q.1 + 1 == i && q.2.category == 2))) = l) (h : lv_has ls' nL l) : zl ad (ls.set i v) nL ls' := by
  refine ⟨h.1, h.2.1, fun q hq => ?_⟩
  obtain ⟨j, w⟩ := q
  obtain ⟨u, g1, g2, g3⟩ := lvl_mem.mp hq
  refine h.2.2 _ ?_
  rw [← hl]
  by_cases hj : j = i
  · subst hj
    have : j < ls.length := by
      by_cases hlt : j < ls.length
      · exact hlt
      · rw [List.getElem?_eq_none (by rw [List.length_set]; omega)] at g1; cases g1
    rw [List.getElem?_set_self this] at g1
    cases g1
    rw [g3]
    exact List.mem_cons_self
  · rw [List.getElem?_set_ne (Ne.symm hj)] at g1
    have hj1 : j ≠ i + 1 := fun e => by rw [e, h1] at g1; cases g1; cases g2
    refine List.mem_cons_of_mem _ (List.mem_filter.mpr ⟨lvl_mem.mpr ⟨u, g1, g2, g3⟩, ?_⟩)
    have h4 : ¬ (j + 1 = i ∧ w.category = 2) := by
      rintro ⟨e, hc⟩
      subst e
      rw [g3, zv_cat] at hc
      simp only [nlg, g1] at hn
      rcases u with _ | x | x | c
      · cases g2
      · simp [zcat] at hc
      · simp at hn
      · simp [zcat] at hc
    simp only [Bool.and_eq_true, Bool.not_eq_true', beq_eq_false_iff_ne, ne_eq, Bool.and_eq_false_iff]
    refine ⟨hj, hj1, ?_⟩
    by_cases e : j + 1 = i
    · exact Or.inr (fun z => h4 ⟨e, z⟩)
    · exact Or.inl e
theorem s_lstore {Y : YD} {k : KD} {Q : RS → Nat → AH → Prop} {b : Nat × Nat} {pc : Nat} {ls st : List AV} {n : Nat} {h : AH} {i : Nat} {x : Int} (hd : decode Y.cd pc = .ok (.lstore i, 2)) (hg : nlg ls i = true) (hn : i + 1 < Y.nL) (h1 : ls[i + 1]? = some none) (kk : Wp Y k Q b (pc + 2) (ls.set i (zL x)) st n h) : Wp Y k Q b pc ls (zL x :: st) n h := by
  intro p l e R s m args below meth c A D tc ad H locs cells slots ls' C hH hB hl
  have C0 := C
  obtain ⟨⟨hx, hb, hml, hr, hlk⟩, hown, hts, hK, hA, hR, hst, hE, hin, hexc, hlaw⟩ := C0
  exact lv_lstore hx hb hd hl hn rfl (fun l2 hl2 => kk p l e R s m args below meth c A D tc ad H locs cells slots l2 C hH hB (zl_setL (v := zL x) hg h1 rfl hl2))
theorem m_spelled {fr : Nat} {a b c d e f g k : Int} {h : AH} (rb : R32 b) (rc : R32 c) (rd : R32 d) (re : R32 e) (rf : R32 f) (rg : R32 g) (rk : R32 k) : Sp mX12_spelled true fr 0 0 [zI a, zI b, zI c, zI d, zI e, zI f, zI g, zI k] 137 h (rL (fun x h' => h' = h ∧ x = sp8 a b c d e f g k)) := by
  refine Sp.mk yX12_spelled_ok rfl rfl ?_
  show Wp mX12_spelled (kR fr 0 0) (rL (fun x h' => h' = h ∧ x = sp8 a b c d e f g k)) (0, 0) 0 [zI a, zI b, zI c, zI d, zI e, zI f, zI g, zI k, none, none] [] 137 h
  refine s_iload_n (x := a) dX12_spelled_0 rfl ?_
  refine s_bipush dX12_spelled_1 (by decide) ?_
  refine s_isub dX12_spelled_3 ?_
  refine s_i2l dX12_spelled_4 ?_
  refine s_lstore (i := 8) dX12_spelled_5 rfl (by decide) rfl ?_
  show Wp mX12_spelled (kR fr 0 0) (rL (fun x h' => h' = h ∧ x = sp8 a b c d e f g k)) (0, 0) 7 [zI a, zI b, zI c, zI d, zI e, zI f, zI g, zI k, zL (i2l (a - 96)), none] [] 137 h
  unfold sp8
  generalize i2l (a - 96) = x0
  have t0 : ∀ (Q : RS → Nat → AH → Prop) (_ : Wp mX12_spelled (kR fr 0 0) Q (0, 0) 23 [zI a, zI b, zI c, zI d, zI e, zI f, zI g, zI k, zL (sp1 x0 b), none] [] 137 h), Wp mX12_spelled (kR fr 0 0) Q (0, 0) 7 [zI a, zI b, zI c, zI d, zI e, zI f, zI g, zI k, zL x0, none] [] 137 h := fun Q kk => by
    refine s_iload_n (x := b) dX12_spelled_7 rfl ?_
    refine s_if_eq (tgt := 23) dX12_spelled_8 (by decide) rb (fun z => ?_) (fun z => ?_)
    · rw [show sp1 x0 b = x0 by unfold sp1; rw [if_pos z]] at kk
      exact kk
    rw [show sp1 x0 b = lOr (lShl x0 5) (i2l (b - 96)) by unfold sp1; rw [if_neg z]] at kk
    refine s_lload (x := x0) dX12_spelled_11 rfl ?_
    refine s_iconst dX12_spelled_13 ?_
    refine s_lshl dX12_spelled_14 ?_
    refine s_iload_n (x := b) dX12_spelled_15 rfl ?_
    refine s_bipush dX12_spelled_16 (by decide) ?_
    refine s_isub dX12_spelled_18 ?_
    refine s_i2l dX12_spelled_19 ?_
    refine s_lor dX12_spelled_20 ?_
    exact s_lstore (i := 8) dX12_spelled_21 rfl (by decide) rfl kk
  refine t0 _ ?_
  generalize hx1 : sp1 x0 b = x1
  have t1 : ∀ (Q : RS → Nat → AH → Prop) (_ : Wp mX12_spelled (kR fr 0 0) Q (0, 0) 39 [zI a, zI b, zI c, zI d, zI e, zI f, zI g, zI k, zL (sp1 x1 c), none] [] 137 h), Wp mX12_spelled (kR fr 0 0) Q (0, 0) 23 [zI a, zI b, zI c, zI d, zI e, zI f, zI g, zI k, zL x1, none] [] 137 h := fun Q kk => by
    refine s_iload_n (x := c) dX12_spelled_23 rfl ?_
    refine s_if_eq (tgt := 39) dX12_spelled_24 (by decide) rc (fun z => ?_) (fun z => ?_)
    · rw [show sp1 x1 c = x1 by unfold sp1; rw [if_pos z]] at kk
      exact kk
    rw [show sp1 x1 c = lOr (lShl x1 5) (i2l (c - 96)) by unfold sp1; rw [if_neg z]] at kk
    refine s_lload (x := x1) dX12_spelled_27 rfl ?_
    refine s_iconst dX12_spelled_29 ?_
    refine s_lshl dX12_spelled_30 ?_
    refine s_iload_n (x := c) dX12_spelled_31 rfl ?_
    refine s_bipush dX12_spelled_32 (by decide) ?_
    refine s_isub dX12_spelled_34 ?_
    refine s_i2l dX12_spelled_35 ?_
    refine s_lor dX12_spelled_36 ?_
    exact s_lstore (i := 8) dX12_spelled_37 rfl (by decide) rfl kk
  refine t1 _ ?_
  generalize hx2 : sp1 x1 c = x2
  have t2 : ∀ (Q : RS → Nat → AH → Prop) (_ : Wp mX12_spelled (kR fr 0 0) Q (0, 0) 55 [zI a, zI b, zI c, zI d, zI e, zI f, zI g, zI k, zL (sp1 x2 d), none] [] 137 h), Wp mX12_spelled (kR fr 0 0) Q (0, 0) 39 [zI a, zI b, zI c, zI d, zI e, zI f, zI g, zI k, zL x2, none] [] 137 h := fun Q kk => by
    refine s_iload_n (x := d) dX12_spelled_39 rfl ?_
    refine s_if_eq (tgt := 55) dX12_spelled_40 (by decide) rd (fun z => ?_) (fun z => ?_)
    · rw [show sp1 x2 d = x2 by unfold sp1; rw [if_pos z]] at kk
      exact kk
    rw [show sp1 x2 d = lOr (lShl x2 5) (i2l (d - 96)) by unfold sp1; rw [if_neg z]] at kk
    refine s_lload (x := x2) dX12_spelled_43 rfl ?_
    refine s_iconst dX12_spelled_45 ?_
    refine s_lshl dX12_spelled_46 ?_
    refine s_iload_n (x := d) dX12_spelled_47 rfl ?_
    refine s_bipush dX12_spelled_48 (by decide) ?_
    refine s_isub dX12_spelled_50 ?_
    refine s_i2l dX12_spelled_51 ?_
    refine s_lor dX12_spelled_52 ?_
    exact s_lstore (i := 8) dX12_spelled_53 rfl (by decide) rfl kk
  refine t2 _ ?_
  generalize hx3 : sp1 x2 d = x3
  have t3 : ∀ (Q : RS → Nat → AH → Prop) (_ : Wp mX12_spelled (kR fr 0 0) Q (0, 0) 73 [zI a, zI b, zI c, zI d, zI e, zI f, zI g, zI k, zL (sp1 x3 e), none] [] 137 h), Wp mX12_spelled (kR fr 0 0) Q (0, 0) 55 [zI a, zI b, zI c, zI d, zI e, zI f, zI g, zI k, zL x3, none] [] 137 h := fun Q kk => by
    refine s_iload (x := e) dX12_spelled_55 rfl ?_
    refine s_if_eq (tgt := 73) dX12_spelled_57 (by decide) re (fun z => ?_) (fun z => ?_)
    · rw [show sp1 x3 e = x3 by unfold sp1; rw [if_pos z]] at kk
      exact kk
    rw [show sp1 x3 e = lOr (lShl x3 5) (i2l (e - 96)) by unfold sp1; rw [if_neg z]] at kk
    refine s_lload (x := x3) dX12_spelled_60 rfl ?_
    refine s_iconst dX12_spelled_62 ?_
    refine s_lshl dX12_spelled_63 ?_
    refine s_iload (x := e) dX12_spelled_64 rfl ?_
    refine s_bipush dX12_spelled_66 (by decide) ?_
    refine s_isub dX12_spelled_68 ?_
    refine s_i2l dX12_spelled_69 ?_
    refine s_lor dX12_spelled_70 ?_
    exact s_lstore (i := 8) dX12_spelled_71 rfl (by decide) rfl kk
  refine t3 _ ?_
  generalize hx4 : sp1 x3 e = x4
  have t4 : ∀ (Q : RS → Nat → AH → Prop) (_ : Wp mX12_spelled (kR fr 0 0) Q (0, 0) 91 [zI a, zI b, zI c, zI d, zI e, zI f, zI g, zI k, zL (sp1 x4 f), none] [] 137 h), Wp mX12_spelled (kR fr 0 0) Q (0, 0) 73 [zI a, zI b, zI c, zI d, zI e, zI f, zI g, zI k, zL x4, none] [] 137 h := fun Q kk => by
    refine s_iload (x := f) dX12_spelled_73 rfl ?_
    refine s_if_eq (tgt := 91) dX12_spelled_75 (by decide) rf (fun z => ?_) (fun z => ?_)
    · rw [show sp1 x4 f = x4 by unfold sp1; rw [if_pos z]] at kk
      exact kk
    rw [show sp1 x4 f = lOr (lShl x4 5) (i2l (f - 96)) by unfold sp1; rw [if_neg z]] at kk
    refine s_lload (x := x4) dX12_spelled_78 rfl ?_
    refine s_iconst dX12_spelled_80 ?_
    refine s_lshl dX12_spelled_81 ?_
    refine s_iload (x := f) dX12_spelled_82 rfl ?_
    refine s_bipush dX12_spelled_84 (by decide) ?_
    refine s_isub dX12_spelled_86 ?_
    refine s_i2l dX12_spelled_87 ?_
    refine s_lor dX12_spelled_88 ?_
    exact s_lstore (i := 8) dX12_spelled_89 rfl (by decide) rfl kk
  refine t4 _ ?_
  generalize hx5 : sp1 x4 f = x5
  have t5 : ∀ (Q : RS → Nat → AH → Prop) (_ : Wp mX12_spelled (kR fr 0 0) Q (0, 0) 109 [zI a, zI b, zI c, zI d, zI e, zI f, zI g, zI k, zL (sp1 x5 g), none] [] 137 h), Wp mX12_spelled (kR fr 0 0) Q (0, 0) 91 [zI a, zI b, zI c, zI d, zI e, zI f, zI g, zI k, zL x5, none] [] 137 h := fun Q kk => by
    refine s_iload (x := g) dX12_spelled_91 rfl ?_
    refine s_if_eq (tgt := 109) dX12_spelled_93 (by decide) rg (fun z => ?_) (fun z => ?_)
    · rw [show sp1 x5 g = x5 by unfold sp1; rw [if_pos z]] at kk
      exact kk
    rw [show sp1 x5 g = lOr (lShl x5 5) (i2l (g - 96)) by unfold sp1; rw [if_neg z]] at kk
    refine s_lload (x := x5) dX12_spelled_96 rfl ?_
    refine s_iconst dX12_spelled_98 ?_
    refine s_lshl dX12_spelled_99 ?_
    refine s_iload (x := g) dX12_spelled_100 rfl ?_
    refine s_bipush dX12_spelled_102 (by decide) ?_
    refine s_isub dX12_spelled_104 ?_
    refine s_i2l dX12_spelled_105 ?_
    refine s_lor dX12_spelled_106 ?_
    exact s_lstore (i := 8) dX12_spelled_107 rfl (by decide) rfl kk
  refine t5 _ ?_
  generalize hx6 : sp1 x5 g = x6
  have t6 : ∀ (Q : RS → Nat → AH → Prop) (_ : Wp mX12_spelled (kR fr 0 0) Q (0, 0) 127 [zI a, zI b, zI c, zI d, zI e, zI f, zI g, zI k, zL (sp1 x6 k), none] [] 137 h), Wp mX12_spelled (kR fr 0 0) Q (0, 0) 109 [zI a, zI b, zI c, zI d, zI e, zI f, zI g, zI k, zL x6, none] [] 137 h := fun Q kk => by
    refine s_iload (x := k) dX12_spelled_109 rfl ?_
    refine s_if_eq (tgt := 127) dX12_spelled_111 (by decide) rk (fun z => ?_) (fun z => ?_)
    · rw [show sp1 x6 k = x6 by unfold sp1; rw [if_pos z]] at kk
      exact kk
    rw [show sp1 x6 k = lOr (lShl x6 5) (i2l (k - 96)) by unfold sp1; rw [if_neg z]] at kk
    refine s_lload (x := x6) dX12_spelled_114 rfl ?_
    refine s_iconst dX12_spelled_116 ?_
    refine s_lshl dX12_spelled_117 ?_
    refine s_iload (x := k) dX12_spelled_118 rfl ?_
    refine s_bipush dX12_spelled_120 (by decide) ?_
    refine s_isub dX12_spelled_122 ?_
    refine s_i2l dX12_spelled_123 ?_
    refine s_lor dX12_spelled_124 ?_
    exact s_lstore (i := 8) dX12_spelled_125 rfl (by decide) rfl kk
  refine t6 _ ?_
  generalize hx7 : sp1 x6 k = x7
  exact bX12_spelled_127 (hq := ⟨_, rfl, rfl, rfl, rfl⟩)
