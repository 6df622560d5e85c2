/-! ===== contracts: the JDK's and small ones ===== -/
theorem Sp.mk {Y : YD} {fr mc ms : Nat} {args : List AV} {h : AH} {P : RS → Nat → AH → Prop} (hy : Yok Y) (hc : args.all (fun v => zcat v == 1) = true) (hlen : Nat.ble args.length Y.nL = true)
    (hW : Wp Y (kR fr mc ms) P (mc, ms) 0 (lof Y.nL args) [] 137 h) : Sp Y true fr mc ms args 137 h P :=
  Sp.of hy (fun v hv => by have := List.all_eq_true.mp hc v hv; simpa using this) (Nat.le_of_ble_eq_true hlen) hW
/-- a weaker end -/
theorem Sp.weak {Y : YD} {md : Bool} {fr mc ms n : Nat} {args : List AV} {h : AH} {P P' : RS → Nat → AH → Prop} (hS : Sp Y md fr mc ms args n h P) (hp : ∀ r n' h', P r n' h' → P' r n' h') : Sp Y md fr mc ms args n h P' := by
  intro l D tc ad sz hl
  refine MetFree.mono (hS l D tc ad sz hl) (fun _ _ z => z) (fun _ _ _ _ _ z => z) (fun a s o s' _ z => ?_)
  rcases z with ⟨⟨⟨v, n', h', e, z, w⟩, f⟩, g⟩ | ⟨q, e, E, ce, L, ⟨⟨n', h', a1, z, w⟩, f⟩, g⟩
  · exact Or.inl ⟨⟨⟨v, n', h', e, hp _ _ _ z, w⟩, f⟩, g⟩
  · exact Or.inr ⟨q, e, E, ce, L, ⟨⟨n', h', a1, hp _ _ _ z, w⟩, f⟩, g⟩
def fil (h : AH) (a v : Int) (N : Nat) : AH := fun c => if c = a then (fun i => if 0 ≤ i ∧ i < N then v else h a i) else h c
theorem fil_0 (h : AH) (a v : Int) : fil h a v 0 = h := by
  funext c i
  unfold fil
  by_cases e : c = a
  · rw [if_pos e]
    rw [if_neg (by omega), e]
  · rw [if_neg e]
theorem fil_s (h : AH) (a v : Int) (n : Nat) : up (fil h a v n) a n v = fil h a v (n + 1) := by
  funext c i
  simp only [fil, up]
  by_cases e : c = a
  · simp only [e, if_true]
    by_cases e2 : i = n
    · rw [if_pos e2, if_pos (by omega)]
    · rw [if_neg e2]
      by_cases e3 : 0 ≤ i ∧ i < n
      · rw [if_pos e3, if_pos (by omega)]
      · rw [if_neg e3, if_neg (by omega)]
  · simp only [e, if_false]
theorem c_fill {fr N : Nat} {a v : Int} {h : AH} (hc : cel 137 a (100, N)) : Sp mJ7_fill_53178 true fr 0 0 [zR a, zI v] 137 h (rV (fun h' => h' = fil h a v N)) := by
  refine Sp.mk yJ7_fill_53178_ok rfl rfl ?_
  have hN : N < 4000 := cel_small hc
  refine bJ7_fill_53178_0 (kk := ?_)
  suffices H : ∀ (d i : Nat), i + d = N → Wp mJ7_fill_53178 (kR fr 0 0) (rV (fun h' => h' = fil h a v N)) (0, 0) 5 [zR a, zI v, zI i, zI N] [] 137 (fil h a v i) by
    have := H N 0 (by omega)
    rw [fil_0] at this
    exact this
  intro d
  induction d with
  | zero =>
    intro i hi
    refine bJ7_fill_53178_5 (kt := fun q => ?_) (kf := fun q => ?_)
    · exact bJ7_fill_53178_20 (hq := ⟨rfl, rfl, by rw [show i = N by omega]⟩)
    · omega
  | succ d ih =>
    intro i hi
    refine bJ7_fill_53178_5 (kt := fun q => ?_) (kf := fun q => ?_)
    · omega
    · refine bJ7_fill_53178_10 (kk := ?_)
      have := ih (i + 1) (by omega)
      rw [fil_s]
      exact this
