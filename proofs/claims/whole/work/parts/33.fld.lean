/-! states as sets of nodes: pointers to the least, marks, red, arrows; what becomes one -/
abbrev FS := (Nat → Nat) × (Nat → Int) × (Nat → Int) × (Nat → Int)
def cn (p : Nat → Bool) : Nat → Nat
  | 0 => 0
  | n + 1 => cn p n + (if p n then 1 else 0)
theorem cn_le {p : Nat → Bool} : ∀ n, cn p n ≤ n
  | 0 => Nat.le_refl _
  | n + 1 => by
    have := cn_le (p := p) n
    unfold cn
    split <;> omega
theorem cn_congr {p q : Nat → Bool} : ∀ {n : Nat}, (∀ i, i < n → p i = q i) → cn p n = cn q n
  | 0, _ => rfl
  | n + 1, h => by
    unfold cn
    rw [cn_congr (fun i hi => h i (by omega)), h n (by omega)]
theorem cn_off {p q : Nat → Bool} {b : Nat} : ∀ {n : Nat}, b < n → (∀ i, i < n → i ≠ b → p i = q i) → p b = true → q b = false → cn q n + 1 = cn p n
  | 0, h, _, _, _ => by omega
  | n + 1, h, h1, h2, h3 => by
    unfold cn
    by_cases e : b = n
    · subst e
      rw [cn_congr (n := b) (p := q) (q := p) (fun i hi => (h1 i (by omega) (by omega)).symm), h2, h3]
      simp
    · have ih := cn_off (n := n) (by omega) (fun i hi hn => h1 i (by omega) hn) h2 h3
      rw [h1 n (by omega) (fun z => e z.symm)]
      omega
theorem cn_pos {p : Nat → Bool} {b : Nat} : ∀ {n : Nat}, b < n → p b = true → 1 ≤ cn p n
  | 0, h, _ => by omega
  | n + 1, h, h1 => by
    unfold cn
    by_cases e : b = n
    · subst e
      rw [h1]
      simp
    · have := cn_pos (n := n) (by omega) h1
      omega
/-- how many states; how many with a mark -/
def cR (F : FS) (n : Nat) : Nat := cn (fun k => F.1 k == k) n
def cM (F : FS) (n : Nat) : Nat := cn (fun k => F.1 k == k && !(F.2.1 k == 0)) n
def updN (f : Nat → Nat) (i v : Nat) : Nat → Nat := fun j => if j = i then v else f j
/-- the arrows of the first l letters have been taken over -/
def abk (F : FS) (a b l : Nat) : Nat → Int := fun i => if 4 * a ≤ i ∧ i < 4 * a + l ∧ F.2.2.2 i = -1 then F.2.2.2 (4 * b + (i - 4 * a)) else F.2.2.2 i
def ab (F : FS) (a b : Nat) : FS := (updN F.1 b a, upf F.2.1 a (if F.2.1 a = 0 then F.2.1 b else F.2.1 a), upf F.2.2.1 a (if F.2.2.1 a = 0 then F.2.2.1 b else F.2.2.1 a), abk F a b 4)
def bth (F : FS) (a b l : Nat) : Bool := !(F.2.2.2 (4 * a + l) == -1) && !(F.2.2.2 (4 * b + l) == -1)
def gt (F : FS) (a b l : Nat) : Bool := (F.2.2.2 (4 * a + l) == -1) && !(F.2.2.2 (4 * b + l) == -1)
def plT (F : FS) (a b : Nat) (T : List (Nat × Nat)) : Nat → List (Nat × Nat)
  | 0 => T
  | l + 1 => if bth F a b l then ((F.2.2.2 (4 * a + l)).toNat, (F.2.2.2 (4 * b + l)).toNat) :: plT F a b T l else plT F a b T l
def chg (F : FS) (a b : Nat) : Nat → Nat
  | 0 => (F.2.1 a).toNat + 4 * (F.2.2.1 a).toNat
  | l + 1 => chg F a b l + (if gt F a b l then 8 * 2 ^ l else 0)
def FI (n : Nat) (F : FS) : Prop := (∀ k, k < n → F.1 k ≤ k) ∧ (∀ k, k < n → F.2.1 k = 0 ∨ F.2.1 k = 1 ∨ F.2.1 k = 2) ∧ (∀ k, k < n → ok01 (F.2.2.1 k)) ∧ (∀ i, i < 4 * n → -1 ≤ F.2.2.2 i ∧ F.2.2.2 i < n)
theorem ab_FI {n a b : Nat} {F : FS} (h : FI n F) (hab : a < b) (hb : b < n) : FI n (ab F a b) := by
  obtain ⟨h1, h2, h3, h4⟩ := h
  refine ⟨fun k hk => ?_, fun k hk => ?_, fun k hk => ?_, fun i hi => ?_⟩
  · show updN F.1 b a k ≤ k
    unfold updN
    split
    · omega
    · exact h1 k hk
  · show upf F.2.1 a _ k = 0 ∨ upf F.2.1 a _ k = 1 ∨ upf F.2.1 a _ k = 2
    unfold upf
    split
    · split
      · exact h2 b hb
      · exact h2 a (by omega)
    · exact h2 k hk
  · show ok01 (upf F.2.2.1 a _ k)
    unfold upf
    split
    · split
      · exact h3 b hb
      · exact h3 a (by omega)
    · exact h3 k hk
  · show -1 ≤ abk F a b 4 i ∧ abk F a b 4 i < n
    unfold abk
    split
    · exact h4 _ (by omega)
    · exact h4 i hi
theorem cR_ab {n a b : Nat} {F : FS} (hab : a < b) (hb : b < n) (ub : F.1 b = b) : cR (ab F a b) n + 1 = cR F n := by
  unfold cR
  refine cn_off hb (fun i hi hn => ?_) ?_ ?_
  · show (F.1 i == i) = (updN F.1 b a i == i)
    unfold updN
    rw [if_neg hn]
  · simp [ub]
  · show (updN F.1 b a b == b) = false
    unfold updN
    rw [if_pos rfl]
    simp
    omega
theorem cM_ab {n a b : Nat} {F : FS} (hab : a < b) (hb : b < n) (ua : F.1 a = a) (ub : F.1 b = b) : cM (ab F a b) n + (if F.2.1 a ≠ 0 ∧ F.2.1 b ≠ 0 then 1 else 0) = cM F n := by
  have e1 : ∀ i, (ab F a b).1 i = if i = b then a else F.1 i := fun i => rfl
  have e2 : ∀ i, (ab F a b).2.1 i = if i = a then (if F.2.1 a = 0 then F.2.1 b else F.2.1 a) else F.2.1 i := fun i => rfl
  by_cases ha : F.2.1 a = 0
  · rw [if_neg (fun h => h.1 ha), Nat.add_zero]
    by_cases hb0 : F.2.1 b = 0
    · unfold cM
      refine cn_congr (fun i hi => ?_)
      rw [e1, e2]
      by_cases i1 : i = b
      · subst i1
        simp [hb0, show ¬ i = a by omega]
      · by_cases i2 : i = a
        · subst i2
          simp [ha, hb0, i1]
        · simp [i1, i2]
    · -- a comes, b goes
      have q1 : cn (fun k => (if k = a then true else (F.1 k == k && !(F.2.1 k == 0)))) n = cM F n + 1 := by
        unfold cM
        refine (cn_off (b := a) (by omega) (fun i hi hn => ?_) ?_ ?_).symm
        · simp [hn]
        · simp
        · simp [ha]
      have q2 : cM (ab F a b) n + 1 = cn (fun k => (if k = a then true else (F.1 k == k && !(F.2.1 k == 0)))) n := by
        unfold cM
        refine cn_off hb (fun i hi hn => ?_) ?_ ?_
        · rw [e1, e2]
          by_cases i2 : i = a
          · subst i2
            simp [ha, hb0, hn, ua]
          · simp [hn, i2]
        · simp [show ¬ b = a by omega, ub, hb0]
        · rw [e1, e2]
          simp [show ¬ a = b by omega]
      omega
  · by_cases hb0 : F.2.1 b = 0
    · rw [if_neg (fun h => h.2 hb0), Nat.add_zero]
      unfold cM
      refine cn_congr (fun i hi => ?_)
      rw [e1, e2]
      by_cases i1 : i = b
      · subst i1
        simp [hb0, show ¬ i = a by omega]
      · by_cases i2 : i = a
        · subst i2
          simp [ha, i1]
        · simp [i1, i2]
    · rw [if_pos ⟨ha, hb0⟩]
      unfold cM
      refine cn_off hb (fun i hi hn => ?_) ?_ ?_
      · rw [e1, e2]
        by_cases i2 : i = a
        · subst i2
          simp [ha, hn]
        · simp [hn, i2]
      · simp [ub, hb0]
      · rw [e1, e2]
        simp [show ¬ a = b by omega]
theorem plT_len {F : FS} {a b : Nat} {T : List (Nat × Nat)} : ∀ l, (plT F a b T l).length ≤ T.length + l
  | 0 => Nat.le_refl _
  | l + 1 => by
    have := plT_len (F := F) (a := a) (b := b) (T := T) l
    unfold plT
    split
    · rw [List.length_cons]; omega
    · omega
theorem chg_lt {F : FS} {a b : Nat} (h1 : F.2.1 a = 0 ∨ F.2.1 a = 1 ∨ F.2.1 a = 2) (h2 : ok01 (F.2.2.1 a)) : ∀ l, chg F a b l < 8 * 2 ^ l
  | 0 => by
    unfold chg
    rcases h1 with e | e | e <;> rcases h2 with e2 | e2 <;> rw [e, e2] <;> decide
  | l + 1 => by
    have := chg_lt (b := b) h1 h2 l
    unfold chg
    rw [Nat.pow_succ]
    split <;> omega
/-- the root -/
def rt (u : Nat → Nat) (k : Nat) : Nat := if u k < k then rt u (u k) else k
termination_by k
theorem rt_le {u : Nat → Nat} (k : Nat) : rt u k ≤ k := by
  unfold rt
  split
  · rename_i h
    have := rt_le (u := u) (u k)
    omega
  · exact Nat.le_refl _
termination_by k
theorem rt_root {u : Nat → Nat} {n : Nat} (hu : ∀ k, k < n → u k ≤ k) (k : Nat) (hk : k < n) : u (rt u k) = rt u k := by
  unfold rt
  split
  · rename_i h
    exact rt_root hu (u k) (by omega)
  · have := hu k hk
    omega
termination_by k
theorem rt_eq {u : Nat → Nat} {k : Nat} (h : u k < k) : rt u k = rt u (u k) := by
  conv => lhs; unfold rt
  rw [if_pos h]
theorem rt_self {u : Nat → Nat} {k : Nat} (h : ¬ u k < k) : rt u k = k := by
  unfold rt
  rw [if_neg h]
/-- all that must become one does; none: it fails -/
def jn : Nat → FS → List (Nat × Nat) → Option FS
  | 0, _, _ => none
  | _ + 1, F, [] => some F
  | m + 1, F, (x, y) :: T =>
    let p := rt F.1 x
    let q := rt F.1 y
    if p = q then jn m F T
    else if (F.2.1 p = 1 ∧ F.2.1 q = 2) ∨ (F.2.1 p = 2 ∧ F.2.1 q = 1) then none
    else jn m (ab F (min p q) (max p q)) (plT F (min p q) (max p q) T 4)
def mg (F : FS) (i j : Nat) : Option FS := jn 482 F [(i, j)]
