/-! pairs, numbered as they come -/
abbrev PR := (Nat → Int × Int) × Nat
def hasP (X : PR) (q : Int × Int) : Option Nat := fs (fun i => X.1 i == q) X.2
def updP (f : Nat → Int × Int) (i : Nat) (v : Int × Int) : Nat → Int × Int := fun j => if j = i then v else f j
def addP (X : PR) (q : Int × Int) : PR := match hasP X q with
  | some _ => X
  | none => (updP X.1 X.2 q, X.2 + 1)
def numP (X : PR) (q : Int × Int) : Nat := (hasP X q).getD X.2
def DP (X : PR) : Prop := ∀ i j, i < X.2 → j < X.2 → X.1 i = X.1 j → i = j
def leP (X Y : PR) : Prop := X.2 ≤ Y.2 ∧ ∀ i, i < X.2 → Y.1 i = X.1 i
theorem updP_s {f : Nat → Int × Int} {i : Nat} {v : Int × Int} : updP f i v i = v := by unfold updP; rw [if_pos rfl]
theorem updP_n {f : Nat → Int × Int} {i j : Nat} {v : Int × Int} (h : j ≠ i) : updP f i v j = f j := by unfold updP; rw [if_neg h]
theorem leP_r {X : PR} : leP X X := ⟨Nat.le_refl _, fun _ _ => rfl⟩
theorem leP_t {X Y Z : PR} (h1 : leP X Y) (h2 : leP Y Z) : leP X Z := ⟨Nat.le_trans h1.1 h2.1, fun i hi => by rw [h2.2 i (by have := h1.1; omega), h1.2 i hi]⟩
theorem hasP_some {X : PR} {q : Int × Int} {i : Nat} (h : hasP X q = some i) : i < X.2 ∧ X.1 i = q := by
  have := fs_some.mp h
  exact ⟨this.1, by simpa using this.2.1⟩
theorem hasP_none {X : PR} {q : Int × Int} (h : hasP X q = none) : ∀ i, i < X.2 → X.1 i ≠ q := by
  intro i hi e
  have := fs_none.mp h i hi
  rw [e] at this
  simp at this
theorem hasP_of {X : PR} {q : Int × Int} {i : Nat} (hD : DP X) (hi : i < X.2) (h : X.1 i = q) : hasP X q = some i := by
  cases e : hasP X q with
  | none => exact absurd h (hasP_none e i hi)
  | some j =>
    have := hasP_some e
    rw [hD j i this.1 hi (by rw [this.2, h])]
theorem addP_some {X : PR} {q : Int × Int} {i : Nat} (h : hasP X q = some i) : addP X q = X ∧ numP X q = i := by
  unfold addP numP
  rw [h]
  exact ⟨rfl, rfl⟩
theorem addP_none {X : PR} {q : Int × Int} (h : hasP X q = none) : addP X q = (updP X.1 X.2 q, X.2 + 1) ∧ numP X q = X.2 := by
  unfold addP numP
  rw [h]
  exact ⟨rfl, rfl⟩
theorem addP_le {X : PR} {q : Int × Int} : leP X (addP X q) := by
  cases h : hasP X q with
  | some i =>
    rw [(addP_some h).1]
    exact leP_r
  | none =>
    rw [(addP_none h).1]
    exact ⟨Nat.le_succ _, fun i hi => updP_n (by omega)⟩
theorem addP_2 {X : PR} {q : Int × Int} : (addP X q).2 ≤ X.2 + 1 := by
  cases h : hasP X q with
  | some i =>
    rw [(addP_some h).1]
    omega
  | none =>
    rw [(addP_none h).1]
    exact Nat.le_refl _
theorem addP_DP {X : PR} {q : Int × Int} (hD : DP X) : DP (addP X q) := by
  cases h : hasP X q with
  | some i =>
    rw [(addP_some h).1]
    exact hD
  | none =>
    rw [(addP_none h).1]
    intro i j hi hj e
    have hi : i < X.2 + 1 := hi
    have hj : j < X.2 + 1 := hj
    have e : updP X.1 X.2 q i = updP X.1 X.2 q j := e
    by_cases zi : i = X.2
    · by_cases zj : j = X.2
      · omega
      · rw [zi, updP_s, updP_n zj] at e
        exact absurd e.symm (hasP_none h j (by omega))
    · by_cases zj : j = X.2
      · rw [zj, updP_s, updP_n zi] at e
        exact absurd e (hasP_none h i (by omega))
      · rw [updP_n zi, updP_n zj] at e
        exact hD i j (by omega) (by omega) e
theorem numP_ok {X : PR} {q : Int × Int} : numP X q < (addP X q).2 ∧ (addP X q).1 (numP X q) = q := by
  cases h : hasP X q with
  | some i =>
    rw [(addP_some h).1, (addP_some h).2]
    exact hasP_some h
  | none =>
    rw [(addP_none h).1, (addP_none h).2]
    exact ⟨Nat.lt_succ_self _, updP_s⟩
theorem addP_d {X : PR} {q : Int × Int} {i : Nat} (hi : i < (addP X q).2) : i < X.2 ∨ (i = X.2 ∧ (addP X q).1 i = q ∧ hasP X q = none) := by
  cases h : hasP X q with
  | some i =>
    rw [(addP_some h).1] at hi
    exact Or.inl hi
  | none =>
    rw [(addP_none h).1] at hi ⊢
    have hi : i < X.2 + 1 := hi
    rcases Nat.lt_or_ge i X.2 with z | z
    · exact Or.inl z
    · have : i = X.2 := by omega
      subst this
      exact Or.inr ⟨rfl, updP_s, rfl⟩
/-! pairs of states of two machines -/
def tg (M O : MC) (p : Int × Int) (l : Nat) : Int × Int := (fo M p.1 l, fo O p.2 l)
def stpP (M O : MC) (X : PR) (k : Nat) : Nat → PR
  | 0 => X
  | l + 1 => addP (stpP M O X k l) (tg M O (X.1 k) l)
theorem stpP_s {M O : MC} {X : PR} {k l : Nat} : stpP M O X k (l + 1) = addP (stpP M O X k l) (tg M O (X.1 k) l) := rfl
def bf (M O : MC) (a : Nat) : Nat → PR
  | 0 => (fun _ => (0, 0), 1)
  | k + 1 => stpP M O (bf M O a k) k a
theorem bf_s {M O : MC} {a k : Nat} : bf M O a (k + 1) = stpP M O (bf M O a k) k a := rfl
theorem stpP_le {M O : MC} {X : PR} {k : Nat} : ∀ l, leP X (stpP M O X k l)
  | 0 => leP_r
  | l + 1 => by
    rw [stpP_s]
    exact leP_t (stpP_le l) addP_le
theorem stpP_2 {M O : MC} {X : PR} {k : Nat} : ∀ l, (stpP M O X k l).2 ≤ X.2 + l
  | 0 => Nat.le_refl _
  | l + 1 => by
    rw [stpP_s]
    have := stpP_2 (M := M) (O := O) (X := X) (k := k) l
    have := addP_2 (X := stpP M O X k l) (q := tg M O (X.1 k) l)
    omega
theorem bf_le {M O : MC} {a k : Nat} : ∀ j, leP (bf M O a k) (bf M O a (k + j))
  | 0 => leP_r
  | j + 1 => by
    rw [show k + (j + 1) = (k + j) + 1 by omega, bf_s]
    exact leP_t (bf_le j) (stpP_le a)
def lx (p j k l : Nat) : Prop := p < k ∨ (p = k ∧ j < l)
def BI (M O : MC) (a : Nat) (X : PR) (k l : Nat) : Prop := DP X ∧ (0 < X.2 ∧ X.1 0 = (0, 0)) ∧ (∀ i, i < X.2 → (-1 ≤ (X.1 i).1 ∧ (X.1 i).1 < M.1) ∧ (-1 ≤ (X.1 i).2 ∧ (X.1 i).2 < O.1)) ∧ (∀ p j, lx p j k l → j < a → ∃ i, i < X.2 ∧ X.1 i = tg M O (X.1 p) j) ∧ ∀ i, 0 < i → i < X.2 → ∃ p j, lx p j k l ∧ j < a ∧ p < i ∧ X.1 i = tg M O (X.1 p) j ∧ ∀ p' j', lx p' j' p j → j' < a → ∃ i', i' < i ∧ X.1 i' = tg M O (X.1 p') j'
theorem BI_add {M O : MC} {a k l : Nat} {X : PR} (hM : MW a M) (hO : MW a O) (ha : a ≤ 4) (h : BI M O a X k l) (hk : k < X.2) (hl : l < a) : BI M O a (addP X (tg M O (X.1 k) l)) k (l + 1) := by
  obtain ⟨h1, h2, h3, h4, h5⟩ := h
  have hle := addP_le (X := X) (q := tg M O (X.1 k) l)
  have hnum := numP_ok (X := X) (q := tg M O (X.1 k) l)
  have old : ∀ i, i < X.2 → (addP X (tg M O (X.1 k) l)).1 i = X.1 i := hle.2
  refine ⟨addP_DP h1, ⟨by have := hle.1; omega, by rw [old 0 h2.1]; exact h2.2⟩, fun i hi => ?_, fun p j hp hj => ?_, fun i hi0 hi => ?_⟩
  · rcases addP_d hi with z | ⟨_, z, _⟩
    · rw [old i z]
      exact h3 i z
    · rw [z]
      exact ⟨fo_b hM (show l < 4 by omega), fo_b hO (show l < 4 by omega)⟩
  · by_cases zz : p = k ∧ j = l
    · obtain ⟨rfl, rfl⟩ := zz
      rw [old p hk]
      exact ⟨_, hnum.1, hnum.2⟩
    · have hp' : lx p j k l := by unfold lx at *; omega
      obtain ⟨i, i1, i2⟩ := h4 p j hp' hj
      refine ⟨i, by have := hle.1; omega, ?_⟩
      rw [old i i1, old p (by unfold lx at hp; omega)]
      exact i2
  · rcases addP_d hi with z | ⟨z1, z2, z3⟩
    · obtain ⟨p, j, p1, p2, p3, p4, p5⟩ := h5 i hi0 z
      refine ⟨p, j, by unfold lx at *; omega, p2, p3, by rw [old i z, old p (by omega)]; exact p4, fun p' j' hp' hj' => ?_⟩
      obtain ⟨i', q1, q2⟩ := p5 p' j' hp' hj'
      refine ⟨i', q1, ?_⟩
      rw [old i' (by omega), old p' (by unfold lx at hp'; omega)]
      exact q2
    · refine ⟨k, l, by unfold lx; omega, hl, by omega, by rw [z2, old k hk], fun p' j' hp' hj' => ?_⟩
      obtain ⟨i', q1, q2⟩ := h4 p' j' hp' hj'
      refine ⟨i', by omega, ?_⟩
      rw [old i' q1, old p' (by unfold lx at hp'; omega)]
      exact q2
theorem BI_k {M O : MC} {a k : Nat} {X : PR} (h : BI M O a X k a) : BI M O a X (k + 1) 0 := by
  obtain ⟨h1, h2, h3, h4, h5⟩ := h
  refine ⟨h1, h2, h3, fun p j hp hj => h4 p j (by unfold lx at *; omega) hj, fun i hi0 hi => ?_⟩
  obtain ⟨p, j, p1, p2, p3, p4, p5⟩ := h5 i hi0 hi
  exact ⟨p, j, by unfold lx at *; omega, p2, p3, p4, p5⟩
theorem BI_0 {M O : MC} {a : Nat} (hM : 0 < M.1) (hO : 0 < O.1) : BI M O a (bf M O a 0) 0 0 := by
  refine ⟨fun i j hi hj _ => ?_, ⟨Nat.one_pos, rfl⟩, fun i _ => ⟨⟨?_, ?_⟩, ?_, ?_⟩, fun p j hp => ?_, fun i hi0 hi => ?_⟩
  · have hi : i < 1 := hi
    have hj : j < 1 := hj
    omega
  · show (-1 : Int) ≤ 0
    omega
  · show (0 : Int) < M.1
    omega
  · show (-1 : Int) ≤ 0
    omega
  · show (0 : Int) < O.1
    omega
  · unfold lx at hp
    omega
  · have hi : i < 1 := hi
    omega
theorem BI_st {M O : MC} {a k : Nat} {X : PR} (hM : MW a M) (hO : MW a O) (ha : a ≤ 4) (h : BI M O a X k 0) (hk : k < X.2) : ∀ l, l ≤ a → BI M O a (stpP M O X k l) k l
  | 0, _ => h
  | l + 1, hl => by
    have ih := BI_st hM hO ha h hk l (by omega)
    have hle := stpP_le (M := M) (O := O) (X := X) (k := k) l
    have := BI_add hM hO ha ih (by have := hle.1; omega) (show l < a by omega)
    rw [hle.2 k hk] at this
    exact this
/-- so far neither ended nor too many -/
def Go (M O : MC) (a mo k : Nat) : Prop := ∀ j, j < k → j < (bf M O a j).2 ∧ (bf M O a j).2 ≤ mo
theorem BI_bf {M O : MC} {a mo : Nat} (hM : MW a M) (hO : MW a O) (ha : a ≤ 4) (m0 : 0 < M.1) (o0 : 0 < O.1) : ∀ k, Go M O a mo k → BI M O a (bf M O a k) k 0
  | 0, _ => BI_0 m0 o0
  | k + 1, h => by
    rw [bf_s]
    exact BI_k (BI_st hM hO ha (BI_bf hM hO ha m0 o0 k (fun j hj => h j (by omega))) (h k (by omega)).1 a (Nat.le_refl _))
def Fin (M O : MC) (a mo n : Nat) : Prop := Go M O a mo n ∧ (bf M O a n).2 = n
def Ovf (M O : MC) (a mo k : Nat) : Prop := Go M O a mo k ∧ mo < (bf M O a k).2
theorem Fin_u {M O : MC} {a mo n n' : Nat} (h : Fin M O a mo n) (h' : Fin M O a mo n') : n = n' := by
  rcases Nat.lt_trichotomy n n' with z | z | z
  · have := (h'.1 n z).1
    have := h.2
    omega
  · exact z
  · have := (h.1 n' z).1
    have := h'.2
    omega
theorem Fin_le {M O : MC} {a mo n : Nat} (h : Fin M O a mo n) (h1 : 1 ≤ mo) : n ≤ mo := by
  cases n with
  | zero => omega
  | succ n =>
    have := h.1 n (by omega)
    omega
theorem Fin_Ovf {M O : MC} {a mo n k : Nat} (h1 : 1 ≤ mo) (h : Fin M O a mo n) (h' : Ovf M O a mo k) : False := by
  have := Fin_le h h1
  rcases Nat.lt_trichotomy n k with z | z | z
  · have := (h'.1 n z).1
    have := h.2
    omega
  · subst z
    have := h.2
    have := h'.2
    omega
  · have := (h.1 k z).2
    have := h'.2
    omega
def cb (how : Int) (x y : Bool) : Bool := if how = 0 then x && y else if how = 1 then x || y else x && !y
/-- the machine of the pairs -/
def btM (M O : MC) (a : Nat) (how : Int) (n : Nat) : MC := (n, fun k => if cb how (inM M ((bf M O a n).1 k).1) (inM O ((bf M O a n).1 k).2) then 1 else 2, fun i => if i % 4 < a then ((hasP (bf M O a n) (tg M O ((bf M O a n).1 (i / 4)) (i % 4))).getD 0 : Nat) else -1)
theorem btM_m {M O : MC} {a n k : Nat} {how : Int} : (btM M O a how n).2.1 k = if cb how (inM M ((bf M O a n).1 k).1) (inM O ((bf M O a n).1 k).2) then 1 else 2 := rfl
theorem btM_a {M O : MC} {a n i : Nat} {how : Int} : (btM M O a how n).2.2 i = if i % 4 < a then (((hasP (bf M O a n) (tg M O ((bf M O a n).1 (i / 4)) (i % 4))).getD 0 : Nat) : Int) else -1 := rfl
def btR (M O : MC) (a : Nat) (how : Int) (X : PR) (k l : Nat) (mk ar : Nat → Int) : Prop := (∀ s, s < k → mk s = if cb how (inM M (X.1 s).1) (inM O (X.1 s).2) then 1 else 2) ∧ (∀ s j, s < k → j < 4 → (a ≤ j ∧ ar (4 * s + j) = -1) ∨ (j < a ∧ ∃ i : Nat, i < X.2 ∧ ar (4 * s + j) = i ∧ X.1 i = tg M O (X.1 s) j)) ∧ ∀ j, j < l → j < a → ∃ i : Nat, i < X.2 ∧ ar (4 * k + j) = i ∧ X.1 i = tg M O (X.1 k) j
theorem btR_e {M O : MC} {a n : Nat} {how : Int} {mk ar : Nat → Int} (hD : DP (bf M O a n)) (h2 : (bf M O a n).2 = n) (h : btR M O a how (bf M O a n) n 0 mk ar) : (∀ s, s < n → mk s = (btM M O a how n).2.1 s) ∧ ∀ i, i < 4 * n → ar i = (btM M O a how n).2.2 i := by
  refine ⟨h.1, fun i hi => ?_⟩
  have := h.2.1 (i / 4) (i % 4) (by omega) (by omega)
  rw [show 4 * (i / 4) + i % 4 = i by omega] at this
  rw [btM_a]
  rcases this with ⟨z1, z2⟩ | ⟨z1, j, z2, z3, z4⟩
  · rw [if_neg (by omega)]
    exact z2
  · rw [if_pos z1, hasP_of hD z2 z4]
    exact z3
theorem btM_W {M O : MC} {a mo n : Nat} {how : Int} (hM : MW a M) (hO : MW a O) (ha : a ≤ 4) (m0 : 0 < M.1) (o0 : 0 < O.1) (h : Fin M O a mo n) : MW a (btM M O a how n) := by
  have hb := BI_bf hM hO ha m0 o0 n h.1
  refine ⟨fun s _ => ?_, fun i hi => ?_, fun s l hs hl hl4 => ?_⟩
  · rw [btM_m]
    split <;> omega
  · have hi : i < 4 * n := hi
    rw [btM_a]
    show _ ∧ _ < ((n : Nat) : Int)
    split
    · rename_i hl
      obtain ⟨j, j1, j2⟩ := hb.2.2.2.1 (i / 4) (i % 4) (by unfold lx; omega) hl
      rw [hasP_of hb.1 j1 j2]
      have := h.2
      exact ⟨by show (-1 : Int) ≤ (j : Nat); omega, by show ((j : Nat) : Int) < (n : Nat); omega⟩
    · omega
  · rw [btM_a, if_neg (by omega)]
theorem btR_le {M O : MC} {a k l : Nat} {how : Int} {X Y : PR} {mk ar : Nat → Int} (hk : k < X.2) (hle : leP X Y) (h : btR M O a how X k l mk ar) : btR M O a how Y k l mk ar := by
  refine ⟨fun s hs => ?_, fun s j hs hj => ?_, fun j hj hja => ?_⟩
  · rw [hle.2 s (by omega)]
    exact h.1 s hs
  · rcases h.2.1 s j hs hj with z | ⟨z1, i, z2, z3, z4⟩
    · exact Or.inl z
    · exact Or.inr ⟨z1, i, by have := hle.1; omega, z3, by rw [hle.2 i z2, hle.2 s (by omega)]; exact z4⟩
  · obtain ⟨i, z2, z3, z4⟩ := h.2.2 j hj hja
    exact ⟨i, by have := hle.1; omega, z3, by rw [hle.2 i z2, hle.2 k hk]; exact z4⟩
theorem btR_congr {M O : MC} {a k l : Nat} {how : Int} {X : PR} {mk ar mk' ar' : Nat → Int} (h : btR M O a how X k l mk ar) (e1 : ∀ s, s < k → mk' s = mk s) (e2 : ∀ i, i < 4 * k + l → ar' i = ar i) : btR M O a how X k l mk' ar' := by
  refine ⟨fun s hs => ?_, fun s j hs hj => ?_, fun j hj hja => ?_⟩
  · rw [e1 s hs]
    exact h.1 s hs
  · rw [e2 _ (by omega)]
    exact h.2.1 s j hs hj
  · rw [e2 _ (by omega)]
    exact h.2.2 j hj hja
