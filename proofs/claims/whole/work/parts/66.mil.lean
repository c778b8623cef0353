/-! pairs: the class -/
def lsx (X : PR) (v : Int) : Nat → Int
  | 0 => -1
  | n + 1 => if (X.1 n).1 = v then (n : Int) else lsx X v n
theorem lsx_s {X : PR} {v : Int} {n : Nat} : lsx X v (n + 1) = if (X.1 n).1 = v then (n : Int) else lsx X v n := rfl
theorem lsx_d {X : PR} {v : Int} : ∀ n, (lsx X v n = -1 ∧ ∀ j, j < n → (X.1 j).1 ≠ v) ∨ ∃ i : Nat, i < n ∧ lsx X v n = i ∧ (X.1 i).1 = v ∧ ∀ j, i < j → j < n → (X.1 j).1 ≠ v
  | 0 => Or.inl ⟨rfl, fun j h => by omega⟩
  | n + 1 => by
    rw [lsx_s]
    by_cases z : (X.1 n).1 = v
    · rw [if_pos z]
      exact Or.inr ⟨n, by omega, rfl, z, fun j h1 h2 => by omega⟩
    · rw [if_neg z]
      rcases lsx_d (X := X) (v := v) n with ⟨h1, h2⟩ | ⟨i, h1, h2, h3, h4⟩
      · refine Or.inl ⟨h1, fun j hj => ?_⟩
        by_cases zj : j = n
        · rw [zj]; exact z
        · exact h2 j (by omega)
      · refine Or.inr ⟨i, by omega, h2, h3, fun j hj1 hj2 => ?_⟩
        by_cases zj : j = n
        · rw [zj]; exact z
        · exact h4 j hj1 (by omega)
theorem lsx_congr {X Y : PR} {v : Int} : ∀ n, (∀ i, i < n → Y.1 i = X.1 i) → lsx Y v n = lsx X v n
  | 0, _ => rfl
  | n + 1, h => by rw [lsx_s, lsx_s, h n (by omega), lsx_congr n (fun i hi => h i (by omega))]
def MP (st : St) (X : PR) : Prop := st 87 9 = (X.2 : Nat) ∧ (∀ i, i < X.2 → st 91 i = (X.1 i).1 ∧ st 92 i = (X.1 i).2 ∧ st 94 i = lsx X (X.1 i).1 i) ∧ (∀ x : Nat, x < 202 → st 95 x = lsx X ((x : Int) - 1) X.2)
theorem sp_pnote {d c : Nat} {a b w : Int} {st : St} {Q : Rn} (hc : st 87 9 = (c : Nat)) (hc2 : c < 404)
    (hq : ∀ st' : St, st' 87 9 = (c + 1 : Nat) → st' 91 c = a → st' 92 c = b → st' 93 c = w → (∀ q i, ¬ (q = 87 ∧ i = 9) → ¬ ((q = 91 ∨ q = 92 ∨ q = 93) ∧ i = c) → st' q i = st q i) → Q (vi (c : Nat)) st') : MS (d + 1) 207 [vr 87, vi a, vi b, vi w] st Q := by
  have k0 : kl 87 = 4 := rfl
  have k1 : kl 91 = 50 := rfl
  have l1 : len 91 = 404 := rfl
  have k2 : kl 92 = 50 := rfl
  have l2 : len 92 = 404 := rfl
  have k3 : kl 93 = 50 := rfl
  have l3 : len 93 = 404 := rfl
  have e1 : up2 st 91 c a 87 9 = (c : Nat) := by rw [up2_ne (by decide)]; exact hc
  have e2 : up2 (up2 st 91 c a) 92 c b 87 9 = (c : Nat) := by rw [up2_ne (by decide)]; exact e1
  have e3 : up2 (up2 (up2 st 91 c a) 92 c b) 93 c w 87 9 = (c : Nat) := by rw [up2_ne (by decide)]; exact e2
  have w1 : Unit → wr ((c : Int) + 1) = ((c + 1 : Nat) : Int) := fun _ => by rw [wr_id (by omega) (by omega)]; omega
  have e4 : up2 (up2 (up2 (up2 st 91 c a) 92 c b) 93 c w) 87 9 ((c + 1 : Nat) : Int) 87 9 = ((c + 1 : Nat) : Int) := by rw [up2_self, upf_s]
  have w2 : Unit → wr (((c + 1 : Nat) : Int) - 1) = ((c : Nat) : Int) := fun _ => by rw [wr_id (by omega) (by omega)]; omega
  refine MS_v [vr 87, vi a, vi b, vi w] rfl rfl rfl rfl ?_
  try simp only [awu 207 0, awu 207 1, awu 207 2, awu 207 3, pe207, xs, i_load, i_loadR, i_inc, lg, lp, true_and, and_true, List.length_cons, List.length_nil, Nat.reduceAdd, Nat.reduceLeDiff, Nat.zero_le, Int.toNat_natCast, natLit, k0, k1, l1, k2, l2, k3, l3, hc, e1, e2, e3, w1 (), e4, w2 ()]
  refine ⟨fun h => by omega, fun _ => ⟨fun _ => ⟨by omega, by omega, by omega, ?_⟩, fun h => absurd (by omega) h⟩⟩
  refine hq _ e4 ?_ ?_ ?_ (fun q i h1 h2 => ?_)
  · rw [up2_ne (by decide), up2_ne (by decide), up2_ne (by decide), up2_self, upf_s]
  · rw [up2_ne (by decide), up2_ne (by decide), up2_self, upf_s]
  · rw [up2_ne (by decide), up2_self, upf_s]
  · simp only [up2_at]
    by_cases z1 : q = 87
    · subst z1
      simp
      intro hi
      exact absurd ⟨rfl, hi⟩ h1
    · by_cases z2 : q = 93
      · subst z2
        simp
        intro hi
        exact absurd ⟨Or.inr (Or.inr rfl), hi⟩ h2
      · by_cases z3 : q = 92
        · subst z3
          simp
          intro hi
          exact absurd ⟨Or.inr (Or.inl rfl), hi⟩ h2
        · by_cases z4 : q = 91
          · subst z4
            simp
            intro hi
            exact absurd ⟨Or.inl rfl, hi⟩ h2
          · rw [if_neg z1, if_neg z2, if_neg z3, if_neg z4]
def FrP (st st' : St) : Prop := ∀ q i, ¬ (q = 87 ∧ i = 9) → q < 91 ∨ 95 < q → st' q i = st q i
theorem sp_numberOf {d : Nat} {one other : Int} {st : St} {X : PR} {Q : Rn} (hP : MP st X) (hD : DP X) (hX : X.2 < 404) (h1 : -1 ≤ one) (h2 : one ≤ 200)
    (hq : ∀ st' : St, MP st' (addP X (one, other)) → FrP st st' → Q (vi (numP X (one, other) : Nat)) st') : MS (d + 2) 206 [vr 87, vi one, vi other] st Q := by
  have k0 : kl 87 = 4 := rfl
  have k2 : kl 92 = 50 := rfl
  have l2 : len 92 = 404 := rfl
  have k4 : kl 94 = 50 := rfl
  have l4 : len 94 = 404 := rfl
  have k5 : kl 95 = 50 := rfl
  have l5 : len 95 = 202 := rfl
  obtain ⟨p1, p2, p3⟩ := id hP
  have w1 : Unit → wr (one + 1) = (((one + 1).toNat : Nat) : Int) := fun _ => by rw [wr_id (by omega) (by omega)]; omega
  have key : ∀ n j t : Nat, j ≤ n → t + j ≤ X.2 → (∀ i, j ≤ i → i < X.2 → X.1 i ≠ (one, other)) → AW (P 206) Q (MS (d + 1)) 0 (fun _ => 0) 4 [vr 87, vi one, vi other, vi (lsx X one j), vi t] [] st := by
    intro n
    induction n with
    | zero =>
      intro j t g1 g2 g3
      have : j = 0 := by omega
      subst this
      have hno : hasP X (one, other) = none := by
        cases e : hasP X (one, other) with
        | none => rfl
        | some i => exact absurd (hasP_some e).2 (g3 i (by omega) (hasP_some e).1)
      rw [(addP_none hno).1, (addP_none hno).2] at hq
      rw [awu 206 4]
      try simp only [awu 206 5, awu 206 10, pe206, xs, i_load, i_loadR, i_inc, lg, lp, true_and, and_true, List.length_cons, List.length_nil, Nat.reduceAdd, Nat.reduceLeDiff, Nat.zero_le, Int.toNat_natCast, natLit, k0, show lsx X one 0 = -1 from rfl]
      refine ⟨fun h => by omega, fun _ => ⟨fun _ => ?_, fun h => absurd (by decide) h⟩⟩
      refine sp_pnote p1 hX (fun s1 y1 y2 y3 y4 y5 => ?_)
      dsimp only
      have e5 : s1 95 (one + 1).toNat = lsx X one X.2 := by
        rw [y5 95 _ (by omega) (by omega), p3 _ (by omega)]
        congr 1
        omega
      have e5' : up2 s1 94 X.2 (lsx X one X.2) 95 (one + 1).toNat = lsx X one X.2 := by
        rw [up2_ne (by decide)]
        exact e5
      try simp only [awu 206 10, awu 206 11, awu 206 12, pe206, xs, i_load, i_loadR, i_inc, lg, lp, true_and, and_true, List.length_cons, List.length_nil, Nat.reduceAdd, Nat.reduceLeDiff, Nat.zero_le, Int.toNat_natCast, natLit, k0, k4, l4, k5, l5, w1 (), e5, e5']
      refine ⟨fun h => by omega, fun _ => ⟨by omega, by omega, by omega, ?_⟩⟩
      refine hq _ ⟨?_, fun i hi => ?_, fun x hx => ?_⟩ (fun q i q1 q2 => ?_)
      · rw [up2_ne (by decide), up2_ne (by decide)]
        exact y1
      · have hi : i < X.2 + 1 := hi
        rw [up2_ne (by decide), up2_ne (by decide), up2_ne (by decide), up2_ne (by decide), up2_ne (by decide), up2_self]
        show _ = (updP X.1 X.2 (one, other) i).1 ∧ _ = (updP X.1 X.2 (one, other) i).2 ∧ _ = lsx (updP X.1 X.2 (one, other), X.2 + 1) (updP X.1 X.2 (one, other) i).1 i
        by_cases zi : i = X.2
        · rw [zi, upf_s, updP_s, y2, y3]
          exact ⟨rfl, rfl, (lsx_congr X.2 (fun i hi => updP_n (by omega))).symm⟩
        · rw [upf_n zi, updP_n zi, y5 91 i (by omega) (by omega), y5 92 i (by omega) (by omega), y5 94 i (by omega) (by omega)]
          obtain ⟨x1, x2, x3⟩ := p2 i (by omega)
          exact ⟨x1, x2, x3.trans (lsx_congr i (fun j hj => updP_n (by omega))).symm⟩
      · show _ = lsx (updP X.1 X.2 (one, other), X.2 + 1) ((x : Int) - 1) (X.2 + 1)
        rw [lsx_s]
        show _ = if (updP X.1 X.2 (one, other) X.2).1 = (x : Int) - 1 then _ else _
        rw [updP_s, up2_self]
        by_cases zx : x = (one + 1).toNat
        · rw [zx, upf_s, if_pos (by show one = _; omega)]
        · rw [upf_n zx, if_neg (by show ¬ one = _; omega), up2_ne (by decide), y5 95 x (by omega) (by omega), p3 x hx]
          exact (lsx_congr X.2 (fun i hi => updP_n (by omega))).symm
      · rw [up2_ne (by omega), up2_ne (by omega)]
        exact y5 q i q1 (by omega)
    | succ n ih =>
      intro j t g1 g2 g3
      rcases lsx_d (X := X) (v := one) j with ⟨z1, z2⟩ | ⟨i, z1, z2, z3, z4⟩
      · have := ih 0 t (by omega) (by omega) (fun i _ hi e => by
          rcases Nat.lt_or_ge i j with z | z
          · exact z2 i z (by rw [e])
          · exact g3 i z hi e)
        rw [z1]
        exact this
      · obtain ⟨x1, x2, x3⟩ := p2 i (by omega)
        rw [z3] at x3
        rw [z2]
        have wt : Unit → wr ((t : Int) + 1) = ((t + 1 : Nat) : Int) := fun _ => by rw [wr_id (by omega) (by omega)]; omega
        rw [awu 206 4]
        try simp only [awu 206 5, awu 206 6, awu 206 7, awu 206 8, awu 206 9, pe206, xs, i_load, i_loadR, i_inc, lg, lp, true_and, and_true, List.length_cons, List.length_nil, Nat.reduceAdd, Nat.reduceLeDiff, Nat.zero_le, Int.toNat_natCast, natLit, k0, p1, k2, l2, k4, l4, x2, x3, wt ()]
        refine ⟨fun h => by omega, fun _ => ⟨fun h => by omega, fun _ => ⟨fun h => by omega, fun _ => ⟨by omega, fun h => ⟨by omega, ?_⟩, fun h => ?_⟩⟩⟩⟩
        · refine ih i (t + 1) (by omega) (by omega) (fun t t1 t2 e => ?_)
          rcases Nat.lt_or_ge t j with y | y
          · by_cases zt : t = i
            · rw [zt] at e
              rw [e] at h
              exact h rfl
            · exact z4 t (by omega) y (by rw [e])
          · exact g3 t y t2 e
        · have e : X.1 i = (one, other) := by
            have h : (X.1 i).2 = other := Classical.not_not.mp h
            rw [← z3, ← h]
          have hs := hasP_of hD (show i < X.2 by omega) e
          rw [(addP_some hs).1, (addP_some hs).2] at hq
          exact hq st hP (fun _ _ _ _ => rfl)
  have e5 : st 95 (one + 1).toNat = lsx X one X.2 := by
    rw [p3 _ (by omega)]
    congr 1
    omega
  refine MS_v [vr 87, vi one, vi other, none, none] rfl rfl rfl rfl ?_
  try simp only [awu 206 0, awu 206 1, awu 206 3, pe206, xs, i_load, i_loadR, i_inc, lg, lp, true_and, and_true, List.length_cons, List.length_nil, Nat.reduceAdd, Nat.reduceLeDiff, Nat.zero_le, Int.toNat_natCast, natLit, k0, k5, l5, w1 (), e5]
  exact ⟨fun h => by omega, fun _ => ⟨fun _ => ⟨by omega, key X.2 X.2 0 (Nat.le_refl _) (by omega) (fun i h1 h2 => by omega)⟩, fun h => absurd (by omega) h⟩⟩
def P0 : PR := (fun _ => (0, 0), 0)
theorem sp_forget {d : Nat} {st : St} {Q : Rn} (hq : ∀ st' : St, MP st' P0 → (∀ q i, q ≠ 95 → ¬ (q = 87 ∧ i = 9) → st' q i = st q i) → Q none st') : MS (d + 1) 205 [vr 87] st Q := by
  have k0 : kl 87 = 4 := rfl
  have k5 : kl 95 = 50 := rfl
  have l5 : len 95 = 202 := rfl
  have key : ∀ mm k : Nat, ∀ s2 : St, k + mm = 202 → s2 87 9 = 0 → (∀ x, x < k → s2 95 x = -1) → (∀ q i, q ≠ 95 → ¬ (q = 87 ∧ i = 9) → s2 q i = st q i) → AW (P 205) Q (MS d) 0 (fun _ => 0) 1 [vr 87, vi k] [] s2 := by
    intro mm
    induction mm with
    | zero =>
      intro k s2 g1 g2 g3 g4
      have : k = 202 := by omega
      subst this
      rw [awu 205 1]
      try simp only [awu 205 3, pe205, xs, i_load, i_loadR, i_inc, lg, lp, true_and, and_true, List.length_cons, List.length_nil, Nat.reduceAdd, Nat.reduceLeDiff, Nat.zero_le, Int.toNat_natCast, natLit, k0]
      exact ⟨fun _ => hq s2 ⟨g2, fun i hi => absurd hi (Nat.not_lt_zero i), fun x hx => g3 x hx⟩ g4, fun h => absurd (by decide) h⟩
    | succ mm ih =>
      intro k s2 g1 g2 g3 g4
      have wk : Unit → wr ((k : Int) + 1) = ((k + 1 : Nat) : Int) := fun _ => by rw [wr_id (by omega) (by omega)]; omega
      rw [awu 205 1]
      try simp only [awu 205 2, pe205, xs, i_load, i_loadR, i_inc, lg, lp, true_and, and_true, List.length_cons, List.length_nil, Nat.reduceAdd, Nat.reduceLeDiff, Nat.zero_le, Int.toNat_natCast, natLit, k0, k5, l5, wk ()]
      refine ⟨fun h => by omega, fun _ => ⟨by omega, ih (k + 1) _ (by omega) ?_ (fun x hx => ?_) (fun q i q1 q2 => ?_)⟩⟩
      · rw [up2_ne (by decide)]
        exact g2
      · rw [up2_self]
        by_cases z : x = k
        · rw [z, upf_s]
        · rw [upf_n z]
          exact g3 x (by omega)
      · rw [up2_ne q1]
        exact g4 q i q1 q2
  refine MS_v [vr 87, none] rfl rfl rfl rfl ?_
  try simp only [awu 205 0, pe205, xs, i_load, i_loadR, i_inc, lg, lp, true_and, and_true, List.length_cons, List.length_nil, Nat.reduceAdd, Nat.reduceLeDiff, Nat.zero_le, Int.toNat_natCast, natLit, k0]
  refine key 202 0 _ (by omega) (by rw [up2_self, upf_s]) (fun x hx => by omega) (fun q i q1 q2 => ?_)
  rw [up2_at]
  by_cases z : q = 87
  · subst z
    rw [if_pos rfl, if_neg (by omega)]
  · rw [if_neg z]
theorem sp_milin {d : Nat} {x y : Bool} {how : Int} {st : St} {Q : Rn} (hq : Q (vi (if cb how x y then 1 else 0)) st) : MS (d + 1) 209 [vi (if x then 1 else 0), vi (if y then 1 else 0), vi how] st Q := by
  refine MS_s [vi (if x then 1 else 0), vi (if y then 1 else 0), vi how] rfl rfl rfl rfl ?_
  unfold cb at hq
  cases x <;> cases y <;> by_cases z0 : how = 0 <;> by_cases z1 : how = 1 <;> simp [z0, z1] at hq <;> (try simp only [awu 209 0, awu 209 1, awu 209 2, awu 209 3, awu 209 4, awu 209 5, awu 209 6, awu 209 7, awu 209 8, awu 209 9, awu 209 10, awu 209 11, awu 209 12, awu 209 13, awu 209 14, awu 209 15, pe209, xs, i_load, i_loadR, i_inc, lg, lp, true_and, and_true, List.length_cons, List.length_nil, Nat.reduceAdd, Nat.reduceLeDiff, Nat.zero_le, Int.toNat_natCast, natLit, ok01_0, ok01_1]) <;> simp [z0, z1] <;> first | exact hq | (rw [z0] at z1; cases z1) | skip
