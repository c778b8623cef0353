/-! one state takes in another (class) -/
def SK (st : St) (o : Nat) (T : List (Nat × Nat)) : Prop := st o 13 = (T.length : Nat) ∧ ∀ i, i < T.length → st (o + 7) i = ((T.getD (T.length - 1 - i) (0, 0)).1 : Nat) ∧ st (o + 8) i = ((T.getD (T.length - 1 - i) (0, 0)).2 : Nat)
theorem bor_bit {w l : Nat} (h : w < 8 * 2 ^ l) (hl : l < 4) : bor (w : Int) (bshl 8 (l : Int)) = ((w + 8 * 2 ^ l : Nat) : Int) := by
  have hp : 2 ^ l ≤ 2 ^ 3 := Nat.pow_le_pow_right (by decide) (by omega)
  have e1 : bshl 8 (l : Int) = ((8 * 2 ^ l : Nat) : Int) := bshl_nat 8 l (by omega) (by omega)
  rw [e1]
  have hb : bor (w : Int) ((8 * 2 ^ l : Nat) : Int) = bor ((8 * 2 ^ l : Nat) : Int) (w : Int) := by
    show (oI _ ||| oI _).toInt = (oI _ ||| oI _).toInt
    rw [Int32.or_comm]
  have e2 : 8 * 2 ^ l = 2 ^ (l + 3) := by rw [Nat.pow_add]; omega
  rw [hb, bor_add (8 * 2 ^ l) w (l + 3) (by rw [e2]; exact Nat.mod_self _) (by rw [← e2]; exact h) (by omega), Nat.add_comm]
theorem bor_mr {m r : Nat} (hm : m < 4) (hr : r = 0 ∨ r = 4) : bor (m : Int) (r : Int) = ((m + r : Nat) : Int) := by
  have hb : bor (m : Int) (r : Int) = bor (r : Int) (m : Int) := by
    show (oI _ ||| oI _).toInt = (oI _ ||| oI _).toInt
    rw [Int32.or_comm]
  rw [hb, bor_add r m 2 (by omega) (by omega) (by omega), Nat.add_comm]
set_option maxHeartbeats 1000000 in
theorem sp_fabs {d o n a b J : Nat} {st : St} {F : FS} {T : List (Nat × Nat)} {Q : Rn} (ho : isFd o) (hn : n ≤ 120) (hC : CR st o n F) (hF : FI n F) (hab : a < b) (hb : b < n) (ua : F.1 a = a) (ub : F.1 b = b) (hJ : st o 12 = J) (hJn : J < 120) (hT : SK st o T) (hTl : T.length ≤ 477)
    (hq : ∀ st' : St, CR st' o n (ab F a b) → SK st' o (plT F a b T 4) → st' o 12 = (J + 1 : Nat) → (∀ i, i < J → st' (o + 5) i = st (o + 5) i ∧ st' (o + 6) i = st (o + 6) i) → st' (o + 5) J = b → st' (o + 6) J = (chg F a b 4 : Nat) → (∀ j, j < o ∨ o + 9 ≤ j → st' j = st j) → Q none st') : MS (d + 1) 168 [vr o, vi a, vi b] st Q := by
  obtain ⟨k0, ⟨k1, l1⟩, ⟨k2, l2⟩, ⟨k3, l3⟩, ⟨k4, l4⟩, ⟨k5, l5⟩, ⟨k6, l6⟩, ⟨k7, l7⟩, ⟨k8, l8⟩, -⟩ := id ho
  obtain ⟨h9, h1, h4, h10, h11⟩ := id hC
  obtain ⟨a1, a2, a3⟩ := h1 a (by omega)
  obtain ⟨b1, b2, b3⟩ := h1 b hb
  have hma := hF.2.1 a (by omega)
  have hmb := hF.2.1 b hb
  have hra := hF.2.2.1 a (by omega)
  have hrb := hF.2.2.1 b hb
  have hcR := cR_ab (F := F) hab hb ub
  have hcM := cM_ab (F := F) hab hb ua ub
  have hcRl : cR F n ≤ n := cn_le n
  have hcMl : cM F n ≤ n := cn_le n
  -- the letters
  have L : ∀ m l : Nat, ∀ (s2 : St) (u1 u2 : V), l ≤ 4 → 4 - l = m → s2 o 9 = n → (∀ k, k < n → s2 (o + 1) k = (F.1 k : Nat) ∧ s2 (o + 2) k = (ab F a b).2.1 k ∧ s2 (o + 3) k = (ab F a b).2.2.1 k) → (∀ i, i < 4 * n → s2 (o + 4) i = abk F a b l i) → s2 o 10 = (cR F n : Nat) → s2 o 11 = (cM (ab F a b) n : Nat) → s2 o 12 = J → SK s2 o (plT F a b T l) → (∀ j, j = o + 5 ∨ j = o + 6 ∨ j < o ∨ o + 9 ≤ j → s2 j = st j) → AW (P 168) Q (MS d) 0 (fun _ => 0) 15 [vr o, vi a, vi b, vi (chg F a b l : Nat), vi l, u1, u2] [] s2 := by
    intro m
    induction m with
    | zero =>
      intro l s2 u1 u2 g1 g2 g3 g4 g5 g6 g7 g8 g9 g10
      have : l = 4 := by omega
      subst this
      have ew : Unit → wr ((J : Int) + 1) = ((J + 1 : Nat) : Int) := fun _ => by rw [wr_id (by omega) (by omega)]; omega
      have ew2 : Unit → wr ((cR F n : Int) - 1) = (cR (ab F a b) n : Int) := fun _ => by rw [wr_id (by omega) (by omega)]; omega
      have q1 : up2 s2 (o + 1) b a o 12 = J := by rw [up2_ne (by omega)]; exact g8
      have q2 : up2 (up2 s2 (o + 1) b a) (o + 5) J b o 12 = J := by rw [up2_ne (by omega), up2_ne (by omega)]; exact g8
      have q3 : up2 (up2 (up2 s2 (o + 1) b a) (o + 5) J b) (o + 6) J (chg F a b 4 : Nat) o 12 = J := by rw [up2_ne (by omega), up2_ne (by omega), up2_ne (by omega)]; exact g8
      have q4 : up2 (up2 (up2 (up2 s2 (o + 1) b a) (o + 5) J b) (o + 6) J (chg F a b 4 : Nat)) o 12 (J + 1 : Nat) o 10 = (cR F n : Nat) := by
        rw [up2_at, if_pos rfl, if_neg (by omega), up2_ne (by omega), up2_ne (by omega), up2_ne (by omega)]
        exact g6
      rw [awu 168 15]
      try simp only [awu 168 23, pe168, xs, i_load, i_loadR, i_inc, lg, lp, true_and, and_true, List.length_cons, List.length_nil, Nat.reduceAdd, Nat.reduceLeDiff, Nat.zero_le, Int.toNat_natCast, natLit, k0, k1, l1, k5, l5, k6, l6, q1, q2, q3, ew (), q4, ew2 ()]
      refine ⟨fun _ => ⟨by omega, by omega, by omega, ?_⟩, fun h => by omega⟩
      refine hq _ ⟨?_, fun k hk => ?_, fun i hi => ?_, ?_, ?_⟩ ⟨?_, fun i hi => ?_⟩ ?_ (fun i hi => ?_) ?_ ?_ (fun j hj => ?_)
      · simp only [up2_at]
        simp [g3]
      · obtain ⟨z1, z2, z3⟩ := g4 k hk
        simp only [up2_at]
        refine ⟨?_, ?_, ?_⟩
        · show _ = ((updN F.1 b a k : Nat) : Int)
          unfold updN
          by_cases e : k = b
          · simp [e]
          · simp [e, z1]
        · simp
          exact z2
        · simp
          exact z3
      · have := g5 i hi
        simp only [up2_at]
        simp
        exact this
      · simp only [up2_at]
        simp
      · simp only [up2_at]
        simp [g7]
      · simp only [up2_at]
        simp [g9.1]
      · have := g9.2 i hi
        simp only [up2_at]
        simp
        exact this
      · simp only [up2_at]
        simp
      · simp only [up2_at]
        simp [show i ≠ J by omega, g10 (o + 5) (by omega), g10 (o + 6) (by omega)]
      · simp only [up2_at]
        simp
      · simp only [up2_at]
        simp
      · rw [up2_ne (by omega), up2_ne (by omega), up2_ne (by omega), up2_ne (by omega), up2_ne (by omega)]
        exact g10 j (by omega)
    | succ m ih =>
      intro l s2 u1 u2 g1 g2 g3 g4 g5 g6 g7 g8 g9 g10
      have hl : l < 4 := by omega
      have fa := hF.2.2.2 (4 * a + l) (by omega)
      have fb := hF.2.2.2 (4 * b + l) (by omega)
      have ea : s2 (o + 4) (4 * a + l) = F.2.2.2 (4 * a + l) := by
        rw [g5 _ (by omega)]
        unfold abk
        rw [if_neg (by omega)]
      have eb : s2 (o + 4) (4 * b + l) = F.2.2.2 (4 * b + l) := by
        rw [g5 _ (by omega)]
        unfold abk
        rw [if_neg (by omega)]
      have w1 : Unit → wr ((a : Int) * 4) = ((4 * a : Nat) : Int) := fun _ => by rw [wr_id (by omega) (by omega)]; omega
      have w2 : Unit → wr (((4 * a : Nat) : Int) + (l : Int)) = ((4 * a + l : Nat) : Int) := fun _ => by rw [wr_id (by omega) (by omega)]; omega
      have w3 : Unit → wr ((b : Int) * 4) = ((4 * b : Nat) : Int) := fun _ => by rw [wr_id (by omega) (by omega)]; omega
      have w4 : Unit → wr (((4 * b : Nat) : Int) + (l : Int)) = ((4 * b + l : Nat) : Int) := fun _ => by rw [wr_id (by omega) (by omega)]; omega
      have w5 : Unit → wr ((l : Int) + 1) = ((l + 1 : Nat) : Int) := fun _ => by rw [wr_id (by omega) (by omega)]; omega
      have hch := chg_lt (b := b) hma hra l
      have hbb := bor_bit hch hl
      have hlen := plT_len (F := F) (a := a) (b := b) (T := T) l
      have c1 : chg F a b (l + 1) = chg F a b l + (if gt F a b l then 8 * 2 ^ l else 0) := rfl
      have p1 : plT F a b T (l + 1) = if bth F a b l then ((F.2.2.2 (4 * a + l)).toNat, (F.2.2.2 (4 * b + l)).toNat) :: plT F a b T l else plT F a b T l := rfl
      have abk1 : ∀ i, abk F a b (l + 1) i = if i = 4 * a + l then (if F.2.2.2 i = -1 then F.2.2.2 (4 * b + l) else F.2.2.2 i) else abk F a b l i := by
        intro i
        unfold abk
        by_cases e : i = 4 * a + l
        · subst e
          by_cases e2 : F.2.2.2 (4 * a + l) = -1
          · rw [if_pos (by omega), if_pos rfl, if_pos e2, show 4 * b + (4 * a + l - 4 * a) = 4 * b + l by omega]
          · rw [if_neg (by omega), if_pos rfl, if_neg e2]
        · rw [if_neg e]
          by_cases e3 : 4 * a ≤ i ∧ i < 4 * a + l ∧ F.2.2.2 i = -1
          · rw [if_pos (by omega), if_pos e3]
          · rw [if_neg (by omega), if_neg e3]
      rw [awu 168 15]
      try simp only [awu 168 16, awu 168 17, awu 168 18, awu 168 19, awu 168 20, awu 168 22, pe168, xs, i_load, i_loadR, i_inc, lg, lp, true_and, and_true, List.length_cons, List.length_nil, Nat.reduceAdd, Nat.reduceLeDiff, Nat.zero_le, Int.toNat_natCast, natLit, k0, k4, l4, w1 (), w2 (), w3 (), w4 (), w5 (), ea, eb, hbb]
      refine ⟨fun h => by omega, fun _ => ⟨by omega, fun hnb => ⟨by omega, fun hna => ?_, fun hna => ⟨by omega, ?_⟩⟩, fun hnb => ?_⟩⟩
      · -- both
        have hg : gt F a b l = false := by unfold gt; simp; intro e; exact absurd e hna
        have hbt : bth F a b l = true := by unfold bth; simp; exact ⟨hna, by omega⟩
        rw [hg] at c1
        rw [hbt, if_pos rfl] at p1
        have hs13 := g9.1
        have hs13' : up2 s2 (o + 7) (plT F a b T l).length (F.2.2.2 (4 * a + l)) o 13 = ((plT F a b T l).length : Nat) := by rw [up2_ne (by omega)]; exact hs13
        have hs13'' : up2 (up2 s2 (o + 7) (plT F a b T l).length (F.2.2.2 (4 * a + l))) (o + 8) (plT F a b T l).length (F.2.2.2 (4 * b + l)) o 13 = ((plT F a b T l).length : Nat) := by rw [up2_ne (by omega), up2_ne (by omega)]; exact hs13
        have w6 : Unit → wr (((plT F a b T l).length : Int) + 1) = (((plT F a b T l).length + 1 : Nat) : Int) := fun _ => by rw [wr_id (by omega) (by omega)]; omega
        try simp only [awu 168 20, awu 168 21, awu 168 22, pe168, xs, i_load, i_loadR, i_inc, lg, lp, true_and, and_true, List.length_cons, List.length_nil, Nat.reduceAdd, Nat.reduceLeDiff, Nat.zero_le, Int.toNat_natCast, natLit, k0, k4, l4, k7, l7, k8, l8, hs13, ea, hs13', hs13'', w6 (), w5 ()]
        refine ⟨fun h => by omega, fun _ => ⟨by omega, by omega, by omega, ?_⟩⟩
        have ih' := ih (l + 1) (up2 (up2 (up2 s2 (o + 7) (plT F a b T l).length (F.2.2.2 (4 * a + l))) (o + 8) (plT F a b T l).length (F.2.2.2 (4 * b + l))) o 13 ((plT F a b T l).length + 1 : Nat)) (vi (4 * a + l : Nat)) (vi (F.2.2.2 (4 * b + l))) (by omega) (by omega)
        rw [c1] at ih'
        refine ih' ?_ ?_ ?_ ?_ ?_ ?_ ?_ ?_
        · simp only [up2_at]; simp [g3]
        · intro k hk
          have := g4 k hk
          simp only [up2_at]
          simp
          exact this
        · intro i hi
          have := g5 i hi
          rw [abk1]
          simp only [up2_at]
          simp
          by_cases e : i = 4 * a + l
          · subst e
            simp [hna, ea]
          · simp [e, this]
        · simp only [up2_at]; simp [g6]
        · simp only [up2_at]; simp [g7]
        · simp only [up2_at]; simp [g8]
        · rw [p1]
          refine ⟨?_, fun i hi => ?_⟩
          · simp only [up2_at]
            simp
          · rw [List.length_cons] at hi ⊢
            simp only [up2_at]
            by_cases e : i = (plT F a b T l).length
            · subst e
              simp
              omega
            · have := g9.2 i (by omega)
              rw [show (plT F a b T l).length + 1 - 1 - i = ((plT F a b T l).length - 1 - i) + 1 by omega]
              simp [e]
              simp at this
              exact this
        · intro j hj
          rw [up2_ne (by omega), up2_ne (by omega), up2_ne (by omega)]
          exact g10 j hj
      · -- it gets the arrow
        have hna : F.2.2.2 (4 * a + l) = -1 := by omega
        have hg : gt F a b l = true := by unfold gt; simp; exact ⟨hna, by omega⟩
        have hbt : bth F a b l = false := by unfold bth; simp [hna]
        rw [hg, if_pos rfl] at c1
        rw [hbt] at p1
        have ih' := ih (l + 1) (up2 s2 (o + 4) (4 * a + l) (F.2.2.2 (4 * b + l))) (vi (4 * a + l : Nat)) (vi (F.2.2.2 (4 * b + l))) (by omega) (by omega)
        rw [c1] at ih'
        refine ih' ?_ ?_ ?_ ?_ ?_ ?_ ?_ ?_
        · rw [up2_ne (by omega)]; exact g3
        · intro k hk
          rw [up2_ne (by omega), up2_ne (by omega), up2_ne (by omega)]
          exact g4 k hk
        · intro i hi
          rw [abk1, up2_self]
          unfold upf
          by_cases e : i = 4 * a + l
          · subst e
            simp [hna]
          · rw [if_neg e, if_neg e]
            exact g5 i hi
        · rw [up2_ne (by omega)]; exact g6
        · rw [up2_ne (by omega)]; exact g7
        · rw [up2_ne (by omega)]; exact g8
        · rw [p1]
          refine ⟨by rw [up2_ne (by omega)]; exact g9.1, fun i hi => ?_⟩
          rw [up2_ne (by omega), up2_ne (by omega)]
          exact g9.2 i hi
        · intro j hj
          rw [up2_ne (by omega)]
          exact g10 j hj
      · -- there is none
        have hnb : F.2.2.2 (4 * b + l) = -1 := by omega
        have hg : gt F a b l = false := by unfold gt; simp [hnb]
        have hbt : bth F a b l = false := by unfold bth; simp [hnb]
        rw [hg] at c1
        rw [hbt] at p1
        have ih' := ih (l + 1) s2 (vi (4 * a + l : Nat)) (vi (F.2.2.2 (4 * b + l))) (by omega) (by omega)
        rw [c1, p1] at ih'
        refine ih' g3 g4 (fun i hi => ?_) g6 g7 g8 g9 g10
        rw [abk1]
        by_cases e : i = 4 * a + l
        · subst e
          rw [if_pos rfl, ea, hnb]
          split
          · rename_i h; exact h
          · rfl
        · rw [if_neg e]
          exact g5 i hi
  -- red
  have M : ∀ sM : St, sM o 9 = n → (∀ k, k < n → sM (o + 1) k = (F.1 k : Nat) ∧ sM (o + 2) k = (ab F a b).2.1 k ∧ sM (o + 3) k = F.2.2.1 k) → (∀ j, j = o + 4 ∨ j = o + 5 ∨ j = o + 6 ∨ j = o + 7 ∨ j = o + 8 ∨ j < o ∨ o + 9 ≤ j → sM j = st j) → sM o 10 = (cR F n : Nat) → sM o 11 = (cM (ab F a b) n : Nat) → sM o 12 = J → sM o 13 = st o 13 → AW (P 168) Q (MS d) 0 (fun _ => 0) 10 [vr o, vi a, vi b, vi (chg F a b 0 : Nat), none, none, none] [] sM := by
    intro sM g1 g2 g3 g4 g5 g6 g7
    have ra := (g2 a (by omega)).2.2
    have rb := (g2 b hb).2.2
    have fin : ∀ v : Int, v = (if F.2.2.1 a = 0 then F.2.2.1 b else F.2.2.1 a) → AW (P 168) Q (MS d) 0 (fun _ => 0) 15 [vr o, vi a, vi b, vi (chg F a b 0 : Nat), vi 0, none, none] [] (up2 sM (o + 3) a v) := by
      intro v hv
      refine L 4 0 _ none none (by omega) rfl (by rw [up2_ne (by omega)]; exact g1) (fun k hk => ?_) (fun i hi => ?_) (by rw [up2_ne (by omega)]; exact g4) (by rw [up2_ne (by omega)]; exact g5) (by rw [up2_ne (by omega)]; exact g6) ⟨?_, fun i hi => ?_⟩ (fun j hj => ?_)
      · obtain ⟨z1, z2, z3⟩ := g2 k hk
        rw [up2_ne (by omega), up2_ne (by omega), up2_self]
        refine ⟨z1, z2, ?_⟩
        show upf (sM (o + 3)) a v k = upf F.2.2.1 a _ k
        rw [hv]
        unfold upf
        split
        · rfl
        · exact z3
      · rw [up2_ne (by omega), g3 (o + 4) (by omega), h4 i hi]
        unfold abk
        rw [if_neg (by omega)]
      · rw [up2_ne (by omega), g7]
        exact hT.1
      · rw [up2_ne (by omega), up2_ne (by omega), g3 (o + 7) (by omega), g3 (o + 8) (by omega)]
        exact hT.2 i hi
      · rw [up2_ne (by omega)]
        exact g3 j (by omega)
    rw [awu 168 10]
    try simp only [awu 168 11, awu 168 12, awu 168 13, awu 168 14, pe168, xs, i_load, i_loadR, i_inc, lg, lp, true_and, and_true, List.length_cons, List.length_nil, Nat.reduceAdd, Nat.reduceLeDiff, Nat.zero_le, Int.toNat_natCast, natLit, k0, k3, l3, ra, rb]
    refine ⟨by omega, ?_⟩
    rcases hra with e | e
    · rw [e] at fin ⊢
      refine ⟨fun h => absurd rfl h, fun _ => ⟨by omega, ?_⟩⟩
      rcases hrb with e2 | e2
      · rw [e2] at fin ⊢
        exact ⟨fun _ => ⟨by omega, ok01_0, fin 0 rfl⟩, fun h => absurd rfl h⟩
      · rw [e2] at fin ⊢
        exact ⟨fun h => absurd h (by decide), fun _ => ⟨by omega, ok01_1, fin 1 rfl⟩⟩
    · rw [e] at fin ⊢
      exact ⟨fun _ => ⟨by omega, ok01_1, fin 1 rfl⟩, fun h => absurd (by decide) h⟩
  -- the mark
  have N : AW (P 168) Q (MS d) 0 (fun _ => 0) 8 [vr o, vi a, vi b, vi (chg F a b 0 : Nat), none, none, none] [] st ∨ F.2.1 a = 0 := by
    by_cases e0 : F.2.1 a = 0
    · exact Or.inr e0
    · left
      have ew : Unit → wr ((cM F n : Int) - 1) = ((cM F n - 1 : Int)) := fun _ => by rw [wr_id (by omega) (by omega)]
      have mm : ∀ k, k < n → (ab F a b).2.1 k = F.2.1 k := by
        intro k hk
        show upf F.2.1 a _ k = _
        unfold upf
        split
        · rename_i h
          subst h
          first | rfl | rw [if_neg e0]
        · rfl
      rw [awu 168 8]
      try simp only [awu 168 9, pe168, xs, i_load, i_loadR, i_inc, lg, lp, true_and, and_true, List.length_cons, List.length_nil, Nat.reduceAdd, Nat.reduceLeDiff, Nat.zero_le, Int.toNat_natCast, natLit, k0, k2, l2, b2, h11, ew ()]
      refine ⟨by omega, fun h => ?_, fun h => ?_⟩
      · rw [if_neg (fun z => z.2 h), Nat.add_zero] at hcM
        refine M st h9 (fun k hk => ?_) (fun _ _ => rfl) h10 (by rw [hcM]; exact h11) hJ rfl
        rw [mm k hk]
        exact h1 k hk
      · rw [if_pos ⟨e0, h⟩] at hcM
        refine M _ (by rw [up2_at, if_pos rfl, if_neg (by omega)]; exact h9) (fun k hk => ?_) (fun j hj => by rw [up2_ne (by omega)]) (by rw [up2_at, if_pos rfl, if_neg (by omega)]; exact h10) ?_ (by rw [up2_at, if_pos rfl, if_neg (by omega)]; exact hJ) (by rw [up2_at, if_pos rfl, if_neg (by omega)])
        · rw [mm k hk, up2_ne (by omega), up2_ne (by omega), up2_ne (by omega)]
          exact h1 k hk
        · rw [up2_at, if_pos rfl, if_pos rfl]
          omega
  have N0 : F.2.1 a = 0 → AW (P 168) Q (MS d) 0 (fun _ => 0) 10 [vr o, vi a, vi b, vi (chg F a b 0 : Nat), none, none, none] [] (up2 st (o + 2) a (F.2.1 b)) := by
    intro e0
    rw [if_neg (fun z => z.1 e0), Nat.add_zero] at hcM
    refine M _ (by rw [up2_ne (by omega)]; exact h9) (fun k hk => ?_) (fun j hj => by rw [up2_ne (by omega)]) (by rw [up2_ne (by omega)]; exact h10) (by rw [up2_ne (by omega), hcM]; exact h11) (by rw [up2_ne (by omega)]; exact hJ) (by rw [up2_ne (by omega)])
    obtain ⟨z1, z2, z3⟩ := h1 k hk
    rw [up2_ne (by omega), up2_self, up2_ne (by omega)]
    refine ⟨z1, ?_, z3⟩
    show upf (st (o + 2)) a _ k = upf F.2.1 a _ k
    rw [if_pos e0]
    unfold upf
    split
    · rfl
    · exact z2
  have wmr : bor (F.2.1 a) (if F.2.2.1 a = 0 then 0 else 4) = (chg F a b 0 : Nat) := by
    have e1 : F.2.1 a = (((F.2.1 a).toNat : Nat) : Int) := by omega
    have e2 : chg F a b 0 = (F.2.1 a).toNat + 4 * (F.2.2.1 a).toNat := rfl
    rw [e2]
    rcases hra with e | e
    · rw [e, if_pos rfl, e1]
      exact bor_mr (r := 0) (by omega) (Or.inl rfl)
    · rw [e, if_neg (by decide), e1]
      exact bor_mr (r := 4) (by omega) (Or.inr rfl)
  refine MS_v [vr o, vi a, vi b, none, none, none, none] rfl rfl k0 rfl ?_
  try simp only [awu 168 0, awu 168 1, awu 168 2, awu 168 3, awu 168 4, awu 168 5, awu 168 6, awu 168 7, pe168, xs, i_load, i_loadR, i_inc, lg, lp, true_and, and_true, List.length_cons, List.length_nil, Nat.reduceAdd, Nat.reduceLeDiff, Nat.zero_le, Int.toNat_natCast, natLit, k0, k2, l2, k3, l3, hJ, a2, a3, b2]
  refine ⟨fun h => by omega, fun _ => ⟨fun _ => ⟨by omega, by omega, fun h => ?_, fun h => ?_⟩, fun h => by omega⟩⟩
  · rw [if_pos h] at wmr
    rw [wmr]
    refine ⟨by omega, fun e0 => N.resolve_right e0, fun e0 => ⟨by omega, by omega, N0 (by omega)⟩⟩
  · rw [if_neg h] at wmr
    rw [wmr]
    refine ⟨by omega, fun e0 => N.resolve_right e0, fun e0 => ⟨by omega, by omega, N0 (by omega)⟩⟩
