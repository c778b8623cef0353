/-! the examples: the reference -/
theorem sp_mpl {d c : Nat} {st : St} {n w : Nat} {Q : Rn} (hc : st 99 8 = c) (hn : c ≤ 40) (h1 : ∀ i, i < c → 0 ≤ st 102 i ∧ st 102 i < 1048576) (hw : w < 1048576) (hq : ∀ p, IsPl (fun i => st 101 i * 1048576 + st 102 i) c ((n * 1048576 + w : Nat) : Int) p → Q (vi (p : Nat)) st) : MS (d + 2) 50 [vr 99, vi n, vi w] st Q := by
  have k0 : kl 99 = 12 := rfl
  have k1 : kl 101 = 50 := rfl
  have l1 : len 101 = 40 := rfl
  have k2 : kl 102 = 50 := rfl
  have l2 : len 102 = 40 := rfl
  refine MS_v [vr 99, vi n, vi w, none] rfl rfl rfl rfl ?_
  try simp only [awu 50 0, pe50, xs, i_load, i_loadR, i_inc, lg, lp, true_and, and_true, List.length_cons, List.length_nil, Nat.reduceAdd, Nat.reduceLeDiff, Nat.zero_le, Int.toNat_natCast, natLit, k0]
  have key : ∀ m k : Nat, k ≤ c → c - k = m → (∀ i, i < k → st 101 i * 1048576 + st 102 i < ((n * 1048576 + w : Nat) : Int)) → AW (P 50) Q (MS (d + 1)) 0 (fun _ => 0) 1 [vr 99, vi n, vi w, vi k] [] st := by
    intro m
    induction m with
    | zero =>
      intro k g1 g2 g3
      rw [awu 50 1]
      try simp only [awu 50 2, awu 50 4, pe50, xs, i_load, i_loadR, i_inc, lg, lp, true_and, and_true, List.length_cons, List.length_nil, Nat.reduceAdd, Nat.reduceLeDiff, Nat.zero_le, Int.toNat_natCast, natLit, k0, k1, l1, k2, l2, hc]
      exact ⟨fun _ => hq k ⟨g1, g3, fun h => by omega⟩, fun h => by omega⟩
    | succ m ih =>
      intro k g1 g2 g3
      have hb := h1 k (by omega)
      rw [awu 50 1]
      try simp only [awu 50 2, awu 50 4, pe50, xs, i_load, i_loadR, i_inc, lg, lp, true_and, and_true, List.length_cons, List.length_nil, Nat.reduceAdd, Nat.reduceLeDiff, Nat.zero_le, Int.toNat_natCast, natLit, k0, k1, l1, k2, l2, hc]
      refine ⟨fun h => by omega, fun _ => ⟨by omega, by omega, sp_ahead ?_⟩⟩
      dsimp only
      by_cases ha : st 101 k * 1048576 + st 102 k < ((n * 1048576 + w : Nat) : Int)
      · rw [if_pos (by omega)]
        try simp only [awu 50 3, awu 50 4, pe50, xs, i_load, i_loadR, i_inc, lg, lp, true_and, and_true, List.length_cons, List.length_nil, Nat.reduceAdd, Nat.reduceLeDiff, Nat.zero_le, Int.toNat_natCast, natLit, k0]
        refine ⟨fun h => absurd h (by decide), fun h1 => ?_⟩
        clear h1
        rw [wr_id (by omega) (by omega)]
        refine ih (k + 1) (by omega) (by omega) (fun i hi => ?_)
        by_cases e : i = k
        · subst e; exact ha
        · exact g3 i (by omega)
      · rw [if_neg (by omega)]
        try simp only [awu 50 3, awu 50 4, pe50, xs, i_load, i_loadR, i_inc, lg, lp, true_and, and_true, List.length_cons, List.length_nil, Nat.reduceAdd, Nat.reduceLeDiff, Nat.zero_le, Int.toNat_natCast, natLit, k0]
        exact ⟨fun _ => hq k ⟨g1, g3, fun _ => by show _ ≤ st 101 k * 1048576 + st 102 k; omega⟩, fun h => absurd trivial h⟩
  exact key c 0 (Nat.zero_le _) rfl (fun i hi => by omega)
theorem sp_mthere {d c : Nat} {st : St} {k n w : Int} {Q : Rn} (hc : st 99 8 = c) (hn : c ≤ 40) (hk : 0 ≤ k) (hq : Q (vi (if k < c ∧ st 101 k.toNat = n ∧ st 102 k.toNat = w then 1 else 0)) st) : MS (d + 1) 51 [vr 99, vi k, vi n, vi w] st Q := by
  have k0 : kl 99 = 12 := rfl
  have k1 : kl 101 = 50 := rfl
  have l1 : len 101 = 40 := rfl
  have k2 : kl 102 = 50 := rfl
  have l2 : len 102 = 40 := rfl
  refine MS_v [vr 99, vi k, vi n, vi w] rfl rfl rfl rfl ?_
  try simp only [awu 51 0, awu 51 1, awu 51 2, awu 51 3, awu 51 4, awu 51 5, pe51, xs, i_load, i_loadR, i_inc, lg, lp, true_and, and_true, List.length_cons, List.length_nil, Nat.reduceAdd, Nat.reduceLeDiff, Nat.zero_le, Int.toNat_natCast, natLit, k0, k1, l1, k2, l2, hc]
  refine ⟨fun a => ?_, fun a => ⟨by omega, fun b => ?_, fun b => ⟨by omega, fun g => ?_, fun g => ?_⟩⟩⟩
  · rw [if_neg (by omega)] at hq
    exact ⟨ok01_0, hq⟩
  · rw [if_neg (by omega)] at hq
    exact ⟨ok01_0, hq⟩
  · rw [if_neg (by omega)] at hq
    exact ⟨ok01_0, hq⟩
  · rw [if_pos (by omega)] at hq
    exact ⟨ok01_1, hq⟩
def mv3 (st : St) (a b : Nat) : St := up2 (up2 (up2 st 101 b (st 101 a)) 102 b (st 102 a)) 103 b (st 103 a)
theorem sp_move {d a b : Nat} {st : St} {Q : Rn} (ha : a < 40) (hb : b < 40) (h01 : ok01 (st 103 a)) (hq : Q none (mv3 st a b)) : MS (d + 1) 53 [vr 99, vi a, vi b] st Q := by
  have k0 : kl 99 = 12 := rfl
  have k1 : kl 101 = 50 := rfl
  have l1 : len 101 = 40 := rfl
  have k2 : kl 102 = 50 := rfl
  have l2 : len 102 = 40 := rfl
  have k3 : kl 103 = 52 := rfl
  have l3 : len 103 = 40 := rfl
  refine MS_v [vr 99, vi a, vi b] rfl rfl rfl rfl ?_
  try simp only [awu 53 0, pe53, xs, i_load, i_loadR, i_inc, lg, lp, true_and, and_true, List.length_cons, List.length_nil, Nat.reduceAdd, Nat.reduceLeDiff, Nat.zero_le, Int.toNat_natCast, natLit, k0, k1, l1, k2, l2, k3, l3]
  have e1 : up2 st 101 b (st 101 a) 102 a = st 102 a := by rw [up2_ne (by decide)]
  have e2 : up2 (up2 st 101 b (st 101 a)) 102 b (st 102 a) 103 a = st 103 a := by rw [up2_ne (by decide), up2_ne (by decide)]
  rw [e1, e2]
  exact ⟨by omega, by omega, by omega, by omega, by omega, by omega, h01, hq⟩
theorem mv3_at {st : St} {a b k j : Nat} : mv3 st a b k j = if (k = 101 ∨ k = 102 ∨ k = 103) ∧ j = b then st k a else st k j := by
  unfold mv3
  simp only [up2_at]
  by_cases h1 : k = 103
  · subst h1
    by_cases hj : j = b <;> simp [hj]
  · by_cases h2 : k = 102
    · subst h2
      by_cases hj : j = b <;> simp [hj]
    · by_cases h3 : k = 101
      · subst h3
        by_cases hj : j = b <;> simp [hj]
      · simp [h1, h2, h3]
theorem sp_mins {d c p : Nat} {st : St} {n w b : Int} {Q : Rn} (hc : st 99 8 = c) (hn : c < 40) (hp : p ≤ c) (hb : ok01 b) (h01 : ∀ i, i < c → ok01 (st 103 i))
    (hq : ∀ st' : St, st' 99 8 = (c + 1 : Nat) → (∀ i, i ≤ c → st' 101 i = insF (st 101) p n i) → (∀ i, i ≤ c → st' 102 i = insF (st 102) p w i) → (∀ i, i ≤ c → st' 103 i = insF (st 103) p b i) → (∀ j i, ¬ (j = 99 ∧ i = 8) → j ≠ 101 → j ≠ 102 → j ≠ 103 → st' j i = st j i) → Q none st') : MS (d + 2) 52 [vr 99, vi p, vi n, vi w, vi b] st Q := by
  have k0 : kl 99 = 12 := rfl
  have k1 : kl 101 = 50 := rfl
  have l1 : len 101 = 40 := rfl
  have k2 : kl 102 = 50 := rfl
  have l2 : len 102 = 40 := rfl
  have k3 : kl 103 = 52 := rfl
  have l3 : len 103 = 40 := rfl
  refine MS_v [vr 99, vi p, vi n, vi w, vi b, none] rfl rfl rfl rfl ?_
  try simp only [awu 52 0, pe52, xs, i_load, i_loadR, i_inc, lg, lp, true_and, and_true, List.length_cons, List.length_nil, Nat.reduceAdd, Nat.reduceLeDiff, Nat.zero_le, Int.toNat_natCast, natLit, k0, hc]
  have key : ∀ m k : Nat, ∀ st' : St, p ≤ k → k ≤ c → k - p = m → (∀ j i, i < k → st' j i = st j i) → (∀ j i, j = 101 ∨ j = 102 ∨ j = 103 → k < i → i ≤ c → st' j i = st j (i - 1)) → (∀ j, j ≠ 101 → j ≠ 102 → j ≠ 103 → st' j = st j) → AW (P 52) Q (MS (d + 1)) 0 (fun _ => 0) 1 [vr 99, vi p, vi n, vi w, vi b, vi k] [] st' := by
    intro m
    induction m with
    | zero =>
      intro k st' g1 g2 g3 g5 g6 g7
      have : k = p := by omega
      subst this
      have hc' : st' 99 8 = c := by rw [g7 99 (by decide) (by decide) (by decide)]; exact hc
      rw [awu 52 1]
      try simp only [awu 52 3, pe52, xs, i_load, i_loadR, i_inc, lg, lp, true_and, and_true, List.length_cons, List.length_nil, Nat.reduceAdd, Nat.reduceLeDiff, Nat.zero_le, Int.toNat_natCast, natLit, k0, k1, l1, k2, l2, k3, l3]
      refine ⟨fun _ => ⟨by omega, by omega, by omega, hb, ?_⟩, fun h => by omega⟩
      have ew : wr ((c : Int) + 1) = ((c + 1 : Nat) : Int) := by rw [wr_id (by omega) (by omega)]; omega
      apply hq
      · simp only [up2_at, if_true, hc']
        exact ew
      · intro i hi
        simp only [up2_at]
        unfold insF
        by_cases e : i = k
        · simp [e]
        · by_cases e2 : i < k
          · simp [e, e2, g5 101 i e2]
          · simp [e, e2, g6 101 i (by simp) (by omega) hi]
      · intro i hi
        simp only [up2_at]
        unfold insF
        by_cases e : i = k
        · simp [e]
        · by_cases e2 : i < k
          · simp [e, e2, g5 102 i e2]
          · simp [e, e2, g6 102 i (by simp) (by omega) hi]
      · intro i hi
        simp only [up2_at]
        unfold insF
        by_cases e : i = k
        · simp [e]
        · by_cases e2 : i < k
          · simp [e, e2, g5 103 i e2]
          · simp [e, e2, g6 103 i (by simp) (by omega) hi]
      · intro j i h1 h2 h3 h4
        simp only [up2_at]
        by_cases e : j = 99
        · subst e
          have : i ≠ 8 := fun e => h1 ⟨rfl, e⟩
          simp [this, g7 99]
        · simp [e, h2, h3, h4, g7 j h2 h3 h4]
    | succ m ih =>
      intro k st' g1 g2 g3 g5 g6 g7
      have ek : wr ((k : Int) - 1) = ((k - 1 : Nat) : Int) := by rw [wr_id (by omega) (by omega)]; omega
      have ek2 : wr ((k : Int) + -1) = ((k - 1 : Nat) : Int) := by rw [wr_id (by omega) (by omega)]; omega
      rw [awu 52 1]
      try simp only [awu 52 2, pe52, xs, i_load, i_loadR, i_inc, lg, lp, true_and, and_true, List.length_cons, List.length_nil, Nat.reduceAdd, Nat.reduceLeDiff, Nat.zero_le, Int.toNat_natCast, natLit, k0, ek, ek2]
      clear ek ek2
      refine ⟨fun h => by omega, fun _ => sp_move (by omega) (by omega) (by rw [g5 103 _ (by omega)]; exact h01 _ (by omega)) ?_⟩
      dsimp only
      refine ih (k - 1) _ (by omega) (by omega) (by omega) ?_ ?_ ?_
      · intro j i hi
        rw [mv3_at, if_neg (by omega)]
        exact g5 j i (by omega)
      · intro j i hj h1 h2
        rw [mv3_at]
        by_cases e : i = k
        · subst e
          rw [if_pos ⟨hj, rfl⟩]
          exact g5 j _ (by omega)
        · rw [if_neg (by omega)]
          exact g6 j i hj (by omega) h2
      · intro j h1 h2 h3
        funext i
        rw [mv3_at, if_neg (by omega)]
        exact congrFun (g7 j h1 h2 h3) i
  exact key (c - p) c st hp (Nat.le_refl _) rfl (fun _ _ _ => rfl) (fun j i _ h1 h2 => by omega) (fun _ _ _ _ => rfl)
theorem sp_mrem {d c p : Nat} {st : St} {Q : Rn} (hc : st 99 8 = c) (hn : c ≤ 40) (hp : p < c) (h01 : ∀ i, i < c → ok01 (st 103 i))
    (hq : ∀ st' : St, st' 99 8 = (c - 1 : Nat) → (∀ j i, j = 101 ∨ j = 102 ∨ j = 103 → i < c - 1 → st' j i = remF (st j) p i) → (∀ j i, ¬ (j = 99 ∧ i = 8) → j ≠ 101 → j ≠ 102 → j ≠ 103 → st' j i = st j i) → Q none st') : MS (d + 2) 54 [vr 99, vi p] st Q := by
  have k0 : kl 99 = 12 := rfl
  refine MS_v [vr 99, vi p, none] rfl rfl rfl rfl ?_
  try simp only [awu 54 0, pe54, xs, i_load, i_loadR, i_inc, lg, lp, true_and, and_true, List.length_cons, List.length_nil, Nat.reduceAdd, Nat.reduceLeDiff, Nat.zero_le, Int.toNat_natCast, natLit, k0, hc]
  rw [wr_id (by omega) (by omega)]
  have key : ∀ m k : Nat, ∀ st' : St, p ≤ k → k ≤ c - 1 → c - 1 - k = m → st' 99 8 = (c - 1 : Nat) → (∀ j i, j = 101 ∨ j = 102 ∨ j = 103 → i < k → st' j i = remF (st j) p i) → (∀ j i, j = 101 ∨ j = 102 ∨ j = 103 → k ≤ i → st' j i = st j i) → (∀ j i, ¬ (j = 99 ∧ i = 8) → j ≠ 101 → j ≠ 102 → j ≠ 103 → st' j i = st j i) → AW (P 54) Q (MS (d + 1)) 0 (fun _ => 0) 1 [vr 99, vi p, vi k] [] st' := by
    intro m
    induction m with
    | zero =>
      intro k st' g1 g2 g3 g4 g5 g6 g7
      have : k = c - 1 := by omega
      subst this
      rw [awu 54 1]
      try simp only [awu 54 3, pe54, xs, i_load, i_loadR, i_inc, lg, lp, true_and, and_true, List.length_cons, List.length_nil, Nat.reduceAdd, Nat.reduceLeDiff, Nat.zero_le, Int.toNat_natCast, natLit, k0, g4]
      exact ⟨fun _ => hq st' g4 g5 g7, fun h => by omega⟩
    | succ m ih =>
      intro k st' g1 g2 g3 g4 g5 g6 g7
      have ek : wr ((k : Int) + 1) = ((k + 1 : Nat) : Int) := by rw [wr_id (by omega) (by omega)]; omega
      rw [awu 54 1]
      try simp only [awu 54 2, pe54, xs, i_load, i_loadR, i_inc, lg, lp, true_and, and_true, List.length_cons, List.length_nil, Nat.reduceAdd, Nat.reduceLeDiff, Nat.zero_le, Int.toNat_natCast, natLit, k0, ek, g4]
      clear ek
      refine ⟨fun h => by omega, fun _ => sp_move (by omega) (by omega) (by rw [g6 103 _ (by simp) (by omega)]; exact h01 _ (by omega)) ?_⟩
      dsimp only
      refine ih (k + 1) _ (by omega) (by omega) (by omega) ?_ ?_ ?_ ?_
      · rw [mv3_at, if_neg (by omega)]
        exact g4
      · intro j i hj hi
        rw [mv3_at]
        by_cases e : i = k
        · subst e
          rw [if_pos ⟨hj, rfl⟩, g6 j _ hj (by omega)]
          simp [remF, show ¬ i < p by omega]
        · rw [if_neg (by omega)]
          exact g5 j i hj (by omega)
      · intro j i hj hi
        rw [mv3_at, if_neg (by omega)]
        exact g6 j i hj (by omega)
      · intro j i h0 h1 h2 h3
        rw [mv3_at, if_neg (by omega)]
        exact g7 j i h0 h1 h2 h3
  refine key (c - 1 - p) p _ (Nat.le_refl _) (by omega) rfl ?_ ?_ ?_ ?_
  · rw [up2_at, if_pos rfl, if_pos rfl]
    omega
  · intro j i hj hi
    rw [up2_at, if_neg (by omega)]
    simp [remF, hi]
  · intro j i hj _
    rw [up2_at, if_neg (by omega)]
  · intro j i h0 _ _ _
    rw [up2_at]
    by_cases e : j = 99
    · subst e
      rw [if_pos rfl, if_neg (fun e => h0 ⟨rfl, e⟩)]
    · rw [if_neg e]
theorem sp_inMany {d c : Nat} {st : St} {Q : Rn} (hc : st 99 8 = c) (hn : c ≤ 40) (h01 : ∀ i, i < c → ok01 (st 103 i)) (hq : Q (vi (sumF (st 103) c)) st) : MS (d + 1) 85 [vr 99] st Q := by
  have k0 : kl 99 = 12 := rfl
  have k3 : kl 103 = 52 := rfl
  have l3 : len 103 = 40 := rfl
  refine MS_v [vr 99, none, none] rfl rfl rfl rfl ?_
  try simp only [awu 85 0, pe85, xs, i_load, i_loadR, i_inc, lg, lp, true_and, and_true, List.length_cons, List.length_nil, Nat.reduceAdd, Nat.reduceLeDiff, Nat.zero_le, Int.toNat_natCast, natLit, k0]
  have key : ∀ m k : Nat, k ≤ c → c - k = m → AW (P 85) Q (MS d) 0 (fun _ => 0) 1 [vr 99, vi (sumF (st 103) k), vi k] [] st := by
    intro m
    induction m with
    | zero =>
      intro k g1 g2
      have : k = c := by omega
      subst this
      rw [awu 85 1]
      try simp only [awu 85 2, awu 85 6, pe85, xs, i_load, i_loadR, i_inc, lg, lp, true_and, and_true, List.length_cons, List.length_nil, Nat.reduceAdd, Nat.reduceLeDiff, Nat.zero_le, Int.toNat_natCast, natLit, k0, k3, l3, hc]
      exact ⟨fun _ => hq, fun h => by omega⟩
    | succ m ih =>
      intro k g1 g2
      have hs := sumF_b h01 k (by omega)
      rw [awu 85 1]
      try simp only [awu 85 2, awu 85 3, awu 85 4, awu 85 5, awu 85 6, pe85, xs, i_load, i_loadR, i_inc, lg, lp, true_and, and_true, List.length_cons, List.length_nil, Nat.reduceAdd, Nat.reduceLeDiff, Nat.zero_le, Int.toNat_natCast, natLit, k0, k3, l3, hc]
      refine ⟨fun h => by omega, fun _ => ⟨by omega, ?_⟩⟩
      have e1 : sumF (st 103) (k + 1) = sumF (st 103) k + st 103 k := rfl
      have ih' := ih (k + 1) (by omega) (by omega)
      refine ⟨fun h => ?_, fun h => ?_⟩
      · rw [e1, h] at ih'
        rw [wr_id (x := sumF (st 103) k + 0) (by omega) (by omega), wr_id (by omega) (by omega)]
        exact ih'
      · have h1 : st 103 k = 1 := by rcases h01 k (by omega) with e | e <;> omega
        rw [e1, h1] at ih'
        rw [wr_id (x := sumF (st 103) k + 1) (by omega) (by omega), wr_id (by omega) (by omega)]
        exact ih'
  exact key c 0 (Nat.zero_le _) rfl
