/-! ===== a text's tokens, what a text tells: words of both sides ===== -/
def isBl (c : Int) : Bool := decide (c = 32 ∨ c = 10)
def isLe (c : Int) : Bool := decide (97 ≤ c ∧ c ≤ 122)
def isDi (c : Int) : Bool := decide (48 ≤ c ∧ c ≤ 57)
def runN (P : Int → Bool) (T : Int → Int) (n : Int) : Nat → Int → Int
  | 0, p => p
  | d + 1, p => if p < n ∧ P (T p) = true then runN P T n d (p + 1) else p
def run (P : Int → Bool) (T : Int → Int) (n p : Int) : Int := runN P T n (n - p).toNat p
theorem runN_eq {P : Int → Bool} {T : Int → Int} {n q : Int} : ∀ (d : Nat) (p : Int), q - p ≤ d → p ≤ q → (∀ i, p ≤ i → i < q → i < n ∧ P (T i) = true) → ¬ (q < n ∧ P (T q) = true) → runN P T n d p = q
  | 0, p, h1, h2, _, _ => by show p = q; omega
  | d + 1, p, h1, h2, h3, h4 => by
    show (if p < n ∧ P (T p) = true then runN P T n d (p + 1) else p) = q
    by_cases e : p = q
    · rw [if_neg (by rw [e]; exact h4)]; exact e
    · rw [if_pos (h3 p (by omega) (by omega))]
      exact runN_eq d (p + 1) (by omega) (by omega) (fun i a b => h3 i (by omega) b) h4
theorem run_eq {P : Int → Bool} {T : Int → Int} {n p q : Int} (h1 : p ≤ q) (h2 : ∀ i, p ≤ i → i < q → i < n ∧ P (T i) = true) (h3 : ¬ (q < n ∧ P (T q) = true)) : run P T n p = q := by
  refine runN_eq _ p ?_ h1 h2 h3
  by_cases e : p = q
  · omega
  · have := (h2 (q - 1) (by omega) (by omega)).1
    omega
theorem run_is (P : Int → Bool) (T : Int → Int) (n : Int) : ∀ (d : Nat) (p : Int), n - p ≤ d → ∃ q, p ≤ q ∧ (q ≤ n ∨ q = p) ∧ (∀ i, p ≤ i → i < q → i < n ∧ P (T i) = true) ∧ ¬ (q < n ∧ P (T q) = true)
  | 0, p, h => ⟨p, Int.le_refl _, Or.inr rfl, fun i a b => by omega, fun z => by omega⟩
  | d + 1, p, h => by
    by_cases e : p < n ∧ P (T p) = true
    · obtain ⟨q, a, b, c, f⟩ := run_is P T n d (p + 1) (by omega)
      refine ⟨q, by omega, Or.inl (by omega), fun i x y => ?_, f⟩
      by_cases ei : i = p
      · rw [ei]; exact e
      · exact c i (by omega) y
    · exact ⟨p, Int.le_refl _, Or.inr rfl, fun i a b => by omega, e⟩
theorem run_spec (P : Int → Bool) (T : Int → Int) {n p : Int} (hp : p ≤ n) : (p ≤ run P T n p ∧ run P T n p ≤ n) ∧ (∀ i, p ≤ i → i < run P T n p → i < n ∧ P (T i) = true) ∧ ¬ (run P T n p < n ∧ P (T (run P T n p)) = true) := by
  obtain ⟨q, a, b, c, d⟩ := run_is P T n (n - p).toNat p (by omega)
  rw [run_eq a c d]
  exact ⟨by omega, c, d⟩
def dval (T : Int → Int) (q : Int) : Nat → Int
  | 0 => 0
  | k + 1 => dval T q k * 10 + (T (q + k) - 48)
/-- the token whose blanks begin at p: its place, what is behind it, its kind, its number -/
def pl (T : Int → Int) (n p : Int) : Int := run isBl T n p
def kd (T : Int → Int) (n p : Int) : Int := if n ≤ pl T n p then 0 else if isLe (T (pl T n p)) = true then 1 else if isDi (T (pl T n p)) = true then 2 else if T (pl T n p) = 59 then 3 else 4
def bh (T : Int → Int) (n p : Int) : Int := if n ≤ pl T n p then pl T n p else if isLe (T (pl T n p)) = true then run isLe T n (pl T n p) else if isDi (T (pl T n p)) = true then run isDi T n (pl T n p) else pl T n p + 1
def vl (T : Int → Int) (n p : Int) : Int := if kd T n p = 2 then dval T (pl T n p) (min 4 (bh T n p - pl T n p)).toNat else 0
theorem kd_rng (T : Int → Int) (n p : Int) : 0 ≤ kd T n p ∧ kd T n p ≤ 4 := by
  unfold kd
  repeat (first | split | omega)
theorem pl_rng (T : Int → Int) {n p : Int} (hp : p ≤ n) : p ≤ pl T n p ∧ pl T n p ≤ n := (run_spec isBl T hp).1
theorem bh_rng (T : Int → Int) {n p : Int} (hp : p ≤ n) : pl T n p ≤ bh T n p ∧ bh T n p ≤ n ∧ (kd T n p ≠ 0 → pl T n p < bh T n p) := by
  have a := pl_rng T hp
  unfold bh kd
  by_cases c1 : n ≤ pl T n p
  · rw [if_pos c1, if_pos c1]; exact ⟨by omega, by omega, fun z => absurd rfl z⟩
  rw [if_neg c1, if_neg c1]
  by_cases c2 : isLe (T (pl T n p)) = true
  · rw [if_pos c2, if_pos c2]
    have r := run_spec isLe T (n := n) (p := pl T n p) a.2
    refine ⟨r.1.1, r.1.2, fun _ => ?_⟩
    by_cases e : run isLe T n (pl T n p) = pl T n p
    · exact absurd ⟨by omega, by rw [e]; exact c2⟩ r.2.2
    · omega
  rw [if_neg c2, if_neg c2]
  by_cases c3 : isDi (T (pl T n p)) = true
  · rw [if_pos c3, if_pos c3]
    have r := run_spec isDi T (n := n) (p := pl T n p) a.2
    refine ⟨r.1.1, r.1.2, fun _ => ?_⟩
    by_cases e : run isDi T n (pl T n p) = pl T n p
    · exact absurd ⟨by omega, by rw [e]; exact c3⟩ r.2.2
    · omega
  rw [if_neg c3, if_neg c3]
  exact ⟨by omega, by omega, fun _ => by omega⟩
theorem dval_rng {T : Int → Int} {q : Int} : ∀ k : Nat, (∀ i : Nat, i < k → isDi (T (q + i)) = true) → 0 ≤ dval T q k ∧ dval T q k < 10 ^ k
  | 0, _ => ⟨Int.le_refl _, by show (0 : Int) < 1; decide⟩
  | k + 1, h => by
    have a := dval_rng k (fun i hi => h i (by omega))
    have b := of_decide_eq_true (h k (by omega))
    have e : (10 : Int) ^ (k + 1) = 10 ^ k * 10 := Int.pow_succ _ _
    rw [dval, e]
    omega
theorem vl_rng (T : Int → Int) {n p : Int} (hp : p ≤ n) : 0 ≤ vl T n p ∧ vl T n p ≤ 9999 := by
  have a := pl_rng T hp
  unfold vl
  by_cases c : kd T n p = 2
  · rw [if_pos c]
    have b := bh_rng T hp
    have d : ∀ i : Nat, i < (min 4 (bh T n p - pl T n p)).toNat → isDi (T (pl T n p + i)) = true := fun i hi => by
      have kb : bh T n p = run isDi T n (pl T n p) := by
        unfold kd at c; unfold bh
        by_cases c1 : n ≤ pl T n p
        · rw [if_pos c1] at c; omega
        rw [if_neg c1] at c ⊢
        by_cases c2 : isLe (T (pl T n p)) = true
        · rw [if_pos c2] at c; omega
        rw [if_neg c2] at c ⊢
        by_cases c3 : isDi (T (pl T n p)) = true
        · rw [if_pos c3]
        · rw [if_neg c3] at c; split at c <;> omega
      have r := run_spec isDi T (n := n) (p := pl T n p) a.2
      exact (r.2.1 (pl T n p + i) (by omega) (by omega)).2
    have r := dval_rng (T := T) (q := pl T n p) _ d
    have : (10 : Int) ^ (min 4 (bh T n p - pl T n p)).toNat ≤ 10000 := by
      rcases (show (min 4 (bh T n p - pl T n p)).toNat = 0 ∨ (min 4 (bh T n p - pl T n p)).toNat = 1 ∨ (min 4 (bh T n p - pl T n p)).toNat = 2 ∨ (min 4 (bh T n p - pl T n p)).toNat = 3 ∨ (min 4 (bh T n p - pl T n p)).toNat = 4 by omega) with e | e | e | e | e <;> rw [e] <;> decide
    omega
  · rw [if_neg c]; decide
/-- the word here is s -/
def spl (T : Int → Int) (n p : Int) (s : List Int) : Prop := kd T n p = 1 ∧ bh T n p - pl T n p = s.length ∧ ∀ j : Nat, j < s.length → T (pl T n p + j) = s.getD j 0
abbrev SW (i : Nat) : List Int := (zStrB.getD i []).map (fun z => z.toInt)
/-! ## what is read -/
abbrev PS : Type := Int × DT × Int × Int × Int
abbrev RES : Type := (Int × Int) ⊕ PS
def upD (E : DT) (k i v : Int) : DT := fun k' => if k' = k then (fun i' => if i' = i then v else E k i') else E k'
def numF (T : Int → Int) (n p lo hi : Int) : Int := if kd T n p ≠ 2 then 1 else if 4 < bh T n p - pl T n p ∨ vl T n p < lo ∨ hi < vl T n p then 2 else 0
def numK (T : Int → Int) (n p lo hi : Int) (K : Int → RES) : RES := if numF T n p lo hi = 0 then K (vl T n p) else .inl (numF T n p lo hi, pl T n p)
def sndF (T : Int → Int) (n p : Int) (E : DT) : Int := if numF T n p 0 9999 ≠ 0 then numF T n p 0 9999 else if E 0 0 ≤ vl T n p then 3 else 0
def sndK (T : Int → Int) (n p : Int) (E : DT) (K : Int → RES) : RES := if sndF T n p E = 0 then K (vl T n p) else .inl (sndF T n p E, pl T n p)
def endR (T : Int → Int) (n p : Int) (E : DT) (a s m : Int) : RES := if kd T n p = 3 then .inr (bh T n p, E, a, s, m) else .inl (1, pl T n p)
def rSound (T : Int → Int) (n p : Int) (E : DT) (a s m : Int) : RES := if 8 ≤ E 0 0 then .inl (2, pl T n p) else
  numK T n (bh T n p) 1 99 fun x => numK T n (bh T n (bh T n p)) 0 3 fun y => endR T n (bh T n (bh T n (bh T n p))) (upD (upD (upD E 1 (E 0 0) x) 2 (E 0 0) y) 0 0 (E 0 0 + 1)) a s m
def rStraight (T : Int → Int) (n p : Int) (E : DT) (a s m : Int) : RES := if s ≠ 0 then .inl (5, pl T n p) else
  numK T n (bh T n p) 0 40 fun x => numK T n (bh T n (bh T n p)) 0 40 fun y => endR T n (bh T n (bh T n (bh T n p))) (upD (upD E 8 1 x) 8 2 y) a 1 m
def rAir (T : Int → Int) (n p : Int) (E : DT) (a s m : Int) : RES :=
  numK T n (bh T n p) 0 23 fun o => if bt a o.toNat = true then .inl (5, pl T n (bh T n p)) else numK T n (bh T n (bh T n p)) 0 100 fun v => endR T n (bh T n (bh T n (bh T n p))) (upD E 9 o v) (bOr a (1 * 2 ^ o.toNat)) s m
def rMask (T : Int → Int) (n p : Int) (E : DT) (a s m : Int) : RES := if m ≠ 0 then .inl (5, pl T n p) else
  numK T n (bh T n p) 1 99 fun x => numK T n (bh T n (bh T n p)) 0 9 fun y => numK T n (bh T n (bh T n (bh T n p))) 0 99 fun z => endR T n (bh T n (bh T n (bh T n (bh T n p)))) (upD (upD (upD E 0 4 x) 0 5 y) 0 6 z) a s 1
def sweetE (E : DT) (x y : Int) : DT := upD (upD E 3 x (bOr (E 3 x) (1 * 2 ^ y.toNat))) 3 y (bOr (E 3 y) (1 * 2 ^ x.toNat))
def rSweet (T : Int → Int) (n p : Int) (E : DT) (a s m : Int) : RES :=
  sndK T n (bh T n p) E fun x => sndK T n (bh T n (bh T n p)) E fun y => if x = y then .inl (4, pl T n (bh T n (bh T n p))) else endR T n (bh T n (bh T n (bh T n p))) (sweetE E x y) a s m
/-- the kinds of form f, from the i-th on; the count of forms is raised already -/
def formL (T : Int → Int) (n f a s m : Int) : Nat → Int → DT → RES
  | 0, p, _ => .inl (2, pl T n p)
  | d + 1, p, E => numK T n p 0 3 fun k => if kd T n (bh T n p) = 2 then formL T n f a s m d (bh T n p) (upD (upD E 14 (f * 3 + (2 - d)) k) 13 f ((2 - (d : Int)) + 1)) else endR T n (bh T n p) (upD (upD E 14 (f * 3 + (2 - d)) k) 13 f ((2 - (d : Int)) + 1)) a s m
def rForm (T : Int → Int) (n p : Int) (E : DT) (a s m : Int) : RES := if 6 ≤ E 0 3 then .inl (2, pl T n p) else formL T n (E 0 3) a s m 3 (bh T n p) (upD (upD E 13 (E 0 3) 0) 0 3 (E 0 3 + 1))
def wordL (T : Int → Int) (n w a s m : Int) : Nat → Int → DT → RES
  | 0, p, _ => .inl (2, pl T n p)
  | d + 1, p, E => sndK T n p E fun k => if kd T n (bh T n p) = 2 then wordL T n w a s m d (bh T n p) (upD (upD E 12 (w * 4 + (3 - d)) k) 11 w ((3 - (d : Int)) + 1)) else endR T n (bh T n p) (upD (upD E 12 (w * 4 + (3 - d)) k) 11 w ((3 - (d : Int)) + 1)) a s m
def rWord (T : Int → Int) (n p : Int) (E : DT) (a s m : Int) : RES := if 8 ≤ E 0 2 then .inl (2, pl T n p) else numK T n (bh T n p) 0 3 fun k => wordL T n (E 0 2) a s m 4 (bh T n (bh T n p)) (upD (upD (upD E 10 (E 0 2) k) 11 (E 0 2) 0) 0 2 (E 0 2 + 1))
/-- the sorts that wall w swallows -/
def swL (T : Int → Int) (n w : Int) (K : Int → DT → RES) : Nat → Int → DT → RES
  | 0, p, E => K p E
  | d + 1, p, E => numK T n p 0 3 fun v => if bt (E 6 w) v.toNat = true then .inl (4, pl T n p) else if kd T n (bh T n p) = 2 then swL T n w K d (bh T n p) (upD E 6 w (bOr (E 6 w) (1 * 2 ^ v.toNat))) else K (bh T n p) (upD E 6 w (bOr (E 6 w) (1 * 2 ^ v.toNat)))
noncomputable def agR (T : Int → Int) (n w a s m p : Int) (E : DT) : RES := if cl (spl T n p (SW 3)) = true then numK T n (bh T n p) 1 3 fun v => endR T n (bh T n (bh T n p)) (upD E 7 w v) a s m else endR T n p E a s m
def wallE (E : DT) (w x y z v : Int) : DT := upD (upD (upD (upD (upD (upD (upD E 4 (w * 3 + 0) x) 4 (w * 3 + 1) y) 4 (w * 3 + 2) z) 5 w v) 6 w 0) 7 w 1) 0 1 (w + 1)
noncomputable def rWall (T : Int → Int) (n p : Int) (E : DT) (a s m : Int) : RES := if 6 ≤ E 0 1 then .inl (2, pl T n p) else
  numK T n (bh T n p) 1 40 fun x => numK T n (bh T n (bh T n p)) 1 40 fun y => numK T n (bh T n (bh T n (bh T n p))) 1 40 fun z => numK T n (bh T n (bh T n (bh T n (bh T n p)))) 0 100 fun v =>
    if cl (spl T n (bh T n (bh T n (bh T n (bh T n (bh T n p))))) (SW 2)) = true then swL T n (E 0 1) (agR T n (E 0 1) a s m) 5 (bh T n (bh T n (bh T n (bh T n (bh T n (bh T n p)))))) (wallE E (E 0 1) x y z v) else agR T n (E 0 1) a s m (bh T n (bh T n (bh T n (bh T n (bh T n p))))) (wallE E (E 0 1) x y z v)
noncomputable def rLine (T : Int → Int) (n p : Int) (E : DT) (a s m : Int) : RES :=
  if cl (spl T n p (SW 0)) = true then rSound T n p E a s m else if cl (spl T n p (SW 1)) = true then rWall T n p E a s m else if cl (spl T n p (SW 4)) = true then rStraight T n p E a s m else if cl (spl T n p (SW 5)) = true then rAir T n p E a s m else
  if cl (spl T n p (SW 6)) = true then rMask T n p E a s m else if cl (spl T n p (SW 7)) = true then rSweet T n p E a s m else if cl (spl T n p (SW 8)) = true then rWord T n p E a s m else if cl (spl T n p (SW 9)) = true then rForm T n p E a s m else .inl (1, pl T n p)
noncomputable def rAll (T : Int → Int) (n : Int) : Nat → PS → RES
  | 0, S => .inr S
  | d + 1, S => if kd T n S.1 = 0 then .inr S else match rLine T n S.1 S.2.1 S.2.2.1 S.2.2.2.1 S.2.2.2.2 with
    | .inl e => .inl e
    | .inr S' => rAll T n d S'
theorem numF_cases (T : Int → Int) (n p lo hi : Int) : numF T n p lo hi = 0 ∨ numF T n p lo hi = 1 ∨ numF T n p lo hi = 2 := by
  unfold numF
  repeat (first | split | omega)
theorem numF_ok {T : Int → Int} {n p lo hi : Int} (h : numF T n p lo hi = 0) : kd T n p = 2 ∧ (lo ≤ vl T n p ∧ vl T n p ≤ hi) ∧ bh T n p - pl T n p ≤ 4 := by
  unfold numF at h
  split at h
  · omega
  · split at h
    · omega
    · omega
theorem numK_ok {T : Int → Int} {n p lo hi : Int} {K : Int → RES} (h : numF T n p lo hi = 0) : numK T n p lo hi K = K (vl T n p) := if_pos h
theorem numK_no {T : Int → Int} {n p lo hi : Int} {K : Int → RES} (h : numF T n p lo hi ≠ 0) : numK T n p lo hi K = .inl (numF T n p lo hi, pl T n p) := if_neg h
theorem numK_inr {T : Int → Int} {n p lo hi : Int} {K : Int → RES} {S : PS} (h : numK T n p lo hi K = .inr S) : numF T n p lo hi = 0 ∧ K (vl T n p) = .inr S := by
  by_cases c : numF T n p lo hi = 0
  · rw [numK_ok c] at h; exact ⟨c, h⟩
  · rw [numK_no c] at h; cases h
theorem sndF_cases (T : Int → Int) (n p : Int) (E : DT) : sndF T n p E = 0 ∨ sndF T n p E = 1 ∨ sndF T n p E = 2 ∨ sndF T n p E = 3 := by
  have := numF_cases T n p 0 9999
  unfold sndF
  repeat (first | split | omega)
theorem sndF_ok {T : Int → Int} {n p : Int} {E : DT} (h : sndF T n p E = 0) : numF T n p 0 9999 = 0 ∧ vl T n p < E 0 0 := by
  unfold sndF at h
  split at h
  · contradiction
  · split at h
    · omega
    · omega
theorem sndK_ok {T : Int → Int} {n p : Int} {E : DT} {K : Int → RES} (h : sndF T n p E = 0) : sndK T n p E K = K (vl T n p) := if_pos h
theorem sndK_no {T : Int → Int} {n p : Int} {E : DT} {K : Int → RES} (h : sndF T n p E ≠ 0) : sndK T n p E K = .inl (sndF T n p E, pl T n p) := if_neg h
theorem sndK_inr {T : Int → Int} {n p : Int} {E : DT} {K : Int → RES} {S : PS} (h : sndK T n p E K = .inr S) : sndF T n p E = 0 ∧ K (vl T n p) = .inr S := by
  by_cases c : sndF T n p E = 0
  · rw [sndK_ok c] at h; exact ⟨c, h⟩
  · rw [sndK_no c] at h; cases h
theorem endR_inr {T : Int → Int} {n p : Int} {E : DT} {a s m : Int} {S : PS} (h : endR T n p E a s m = .inr S) : kd T n p = 3 ∧ S = (bh T n p, E, a, s, m) := by
  unfold endR at h
  split at h
  · cases h; exact ⟨by assumption, rfl⟩
  · cases h
