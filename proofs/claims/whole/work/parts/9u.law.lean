/-! the law: its loop -/
section LAW
variable {n i : Nat} {sx : Nat → Int} {st : St} {Q : Rn}
abbrev LWa (n : Nat) (sx : Nat → Int) (Q : Rn) (i b : Nat) (st : St) : Prop := AW PW Q (MS 10) (n + 1) sx b [vr 500, vr 0, vr 99, vi i] [] st
theorem lw_letters (hs : ∀ j, InR (sx j)) (hn : n ≤ 3072) (hi : i + 6 ≤ n) (h : INV st) (k : ∀ s, INV s → LWa n sx Q i 85 s) : LWa n sx Q i 3 st := by
  have w1 : wr ((i : Int) + 1) = ((i + 1 : Nat) : Int) := by rw [wr_id (by omega) (by omega)]; omega
  have g1 : (0 ≤ ((i + 1 : Nat) : Int)) = True := eq_true (by omega)
  have r1 : (((i + 1 : Nat) : Int) + 1 < ((n + 1 : Nat) : Int)) = True := eq_true (by omega)
  show AW PW Q (MS 10) (n + 1) sx 3 [vr 500, vr 0, vr 99, vi i] [] st
  rw [awW 3]
  simp only [pwl3, xs, i_load, i_loadR, i_inc, lg, lp, true_and, and_true, List.length_cons, List.length_nil, Nat.reduceAdd, Nat.reduceLeDiff, Nat.zero_le, Int.toNat_natCast, natLit, w1, g1, r1]
  refine MS_cons (o_letters  h) (fun v s1 hv => ?_)
  obtain ⟨r, rfl, hm⟩ := hv
  dsimp only
  refine MS_cons hm (fun v s2 hv => ?_)
  obtain ⟨rfl, h2⟩ := hv
  dsimp only
  try simp only [xs, i_load, i_loadR, i_inc, lg, lp, true_and, and_true, List.length_cons, List.length_nil, Nat.reduceAdd, Nat.reduceLeDiff, Nat.zero_le, Int.toNat_natCast, natLit]
  first | exact ⟨fun _ => k s2 h2, fun h => absurd rfl h⟩ | exact ⟨fun _ => k s2 h2, fun h => absurd trivial h⟩
theorem lw_feed (hs : ∀ j, InR (sx j)) (hn : n ≤ 3072) (hi : i + 6 ≤ n) (h : INV st) (k : ∀ s, INV s → LWa n sx Q i 85 s) : LWa n sx Q i 5 st := by
  have w1 : wr ((i : Int) + 1) = ((i + 1 : Nat) : Int) := by rw [wr_id (by omega) (by omega)]; omega
  have g1 : (0 ≤ ((i + 1 : Nat) : Int)) = True := eq_true (by omega)
  have r1 : (((i + 1 : Nat) : Int) + 1 < ((n + 1 : Nat) : Int)) = True := eq_true (by omega)
  have w2 : wr ((i : Int) + 2) = ((i + 2 : Nat) : Int) := by rw [wr_id (by omega) (by omega)]; omega
  have g2 : (0 ≤ ((i + 2 : Nat) : Int)) = True := eq_true (by omega)
  have r2 : (((i + 2 : Nat) : Int) + 1 < ((n + 1 : Nat) : Int)) = True := eq_true (by omega)
  have w3 : wr ((i : Int) + 3) = ((i + 3 : Nat) : Int) := by rw [wr_id (by omega) (by omega)]; omega
  have g3 : (0 ≤ ((i + 3 : Nat) : Int)) = True := eq_true (by omega)
  have r3 : (((i + 3 : Nat) : Int) + 1 < ((n + 1 : Nat) : Int)) = True := eq_true (by omega)
  have w4 : wr ((i : Int) + 4) = ((i + 4 : Nat) : Int) := by rw [wr_id (by omega) (by omega)]; omega
  have g4 : (0 ≤ ((i + 4 : Nat) : Int)) = True := eq_true (by omega)
  have r4 : (((i + 4 : Nat) : Int) + 1 < ((n + 1 : Nat) : Int)) = True := eq_true (by omega)
  have w5 : wr ((i : Int) + 5) = ((i + 5 : Nat) : Int) := by rw [wr_id (by omega) (by omega)]; omega
  have g5 : (0 ≤ ((i + 5 : Nat) : Int)) = True := eq_true (by omega)
  have r5 : (((i + 5 : Nat) : Int) + 1 < ((n + 1 : Nat) : Int)) = True := eq_true (by omega)
  show AW PW Q (MS 10) (n + 1) sx 5 [vr 500, vr 0, vr 99, vi i] [] st
  rw [awW 5]
  simp only [pwl5, xs, i_load, i_loadR, i_inc, lg, lp, true_and, and_true, List.length_cons, List.length_nil, Nat.reduceAdd, Nat.reduceLeDiff, Nat.zero_le, Int.toNat_natCast, natLit, w1, g1, r1, w2, g2, r2, w3, g3, r3, w4, g4, r4, w5, g5, r5]
  refine MS_cons (o_feed (hs _) (hs _) (hs _) (hs _) (hs _) h) (fun v s1 hv => ?_)
  obtain ⟨r, rfl, hm⟩ := hv
  dsimp only
  refine MS_cons hm (fun v s2 hv => ?_)
  obtain ⟨rfl, h2⟩ := hv
  dsimp only
  try simp only [xs, i_load, i_loadR, i_inc, lg, lp, true_and, and_true, List.length_cons, List.length_nil, Nat.reduceAdd, Nat.reduceLeDiff, Nat.zero_le, Int.toNat_natCast, natLit]
  first | exact ⟨fun _ => k s2 h2, fun h => absurd rfl h⟩ | exact ⟨fun _ => k s2 h2, fun h => absurd trivial h⟩
theorem lw_end (hs : ∀ j, InR (sx j)) (hn : n ≤ 3072) (hi : i + 6 ≤ n) (h : INV st) (k : ∀ s, INV s → LWa n sx Q i 85 s) : LWa n sx Q i 7 st := by
  have w1 : wr ((i : Int) + 1) = ((i + 1 : Nat) : Int) := by rw [wr_id (by omega) (by omega)]; omega
  have g1 : (0 ≤ ((i + 1 : Nat) : Int)) = True := eq_true (by omega)
  have r1 : (((i + 1 : Nat) : Int) + 1 < ((n + 1 : Nat) : Int)) = True := eq_true (by omega)
  show AW PW Q (MS 10) (n + 1) sx 7 [vr 500, vr 0, vr 99, vi i] [] st
  rw [awW 7]
  simp only [pwl7, xs, i_load, i_loadR, i_inc, lg, lp, true_and, and_true, List.length_cons, List.length_nil, Nat.reduceAdd, Nat.reduceLeDiff, Nat.zero_le, Int.toNat_natCast, natLit, w1, g1, r1]
  refine MS_cons (o_end  h) (fun v s1 hv => ?_)
  obtain ⟨r, rfl, hm⟩ := hv
  dsimp only
  refine MS_cons hm (fun v s2 hv => ?_)
  obtain ⟨rfl, h2⟩ := hv
  dsimp only
  try simp only [xs, i_load, i_loadR, i_inc, lg, lp, true_and, and_true, List.length_cons, List.length_nil, Nat.reduceAdd, Nat.reduceLeDiff, Nat.zero_le, Int.toNat_natCast, natLit]
  first | exact ⟨fun _ => k s2 h2, fun h => absurd rfl h⟩ | exact ⟨fun _ => k s2 h2, fun h => absurd trivial h⟩
theorem lw_drop (hs : ∀ j, InR (sx j)) (hn : n ≤ 3072) (hi : i + 6 ≤ n) (h : INV st) (k : ∀ s, INV s → LWa n sx Q i 85 s) : LWa n sx Q i 17 st := by
  have w1 : wr ((i : Int) + 1) = ((i + 1 : Nat) : Int) := by rw [wr_id (by omega) (by omega)]; omega
  have g1 : (0 ≤ ((i + 1 : Nat) : Int)) = True := eq_true (by omega)
  have r1 : (((i + 1 : Nat) : Int) + 1 < ((n + 1 : Nat) : Int)) = True := eq_true (by omega)
  show AW PW Q (MS 10) (n + 1) sx 17 [vr 500, vr 0, vr 99, vi i] [] st
  rw [awW 17]
  simp only [pwl17, xs, i_load, i_loadR, i_inc, lg, lp, true_and, and_true, List.length_cons, List.length_nil, Nat.reduceAdd, Nat.reduceLeDiff, Nat.zero_le, Int.toNat_natCast, natLit, w1, g1, r1]
  refine MS_cons (o_drop  h) (fun v s1 hv => ?_)
  obtain ⟨r, rfl, hm⟩ := hv
  dsimp only
  refine MS_cons hm (fun v s2 hv => ?_)
  obtain ⟨rfl, h2⟩ := hv
  dsimp only
  try simp only [xs, i_load, i_loadR, i_inc, lg, lp, true_and, and_true, List.length_cons, List.length_nil, Nat.reduceAdd, Nat.reduceLeDiff, Nat.zero_le, Int.toNat_natCast, natLit]
  first | exact ⟨fun _ => k s2 h2, fun h => absurd rfl h⟩ | exact ⟨fun _ => k s2 h2, fun h => absurd trivial h⟩
theorem lw_which (hs : ∀ j, InR (sx j)) (hn : n ≤ 3072) (hi : i + 6 ≤ n) (h : INV st) (k : ∀ s, INV s → LWa n sx Q i 85 s) : LWa n sx Q i 19 st := by
  have w1 : wr ((i : Int) + 1) = ((i + 1 : Nat) : Int) := by rw [wr_id (by omega) (by omega)]; omega
  have g1 : (0 ≤ ((i + 1 : Nat) : Int)) = True := eq_true (by omega)
  have r1 : (((i + 1 : Nat) : Int) + 1 < ((n + 1 : Nat) : Int)) = True := eq_true (by omega)
  have w2 : wr ((i : Int) + 2) = ((i + 2 : Nat) : Int) := by rw [wr_id (by omega) (by omega)]; omega
  have g2 : (0 ≤ ((i + 2 : Nat) : Int)) = True := eq_true (by omega)
  have r2 : (((i + 2 : Nat) : Int) + 1 < ((n + 1 : Nat) : Int)) = True := eq_true (by omega)
  show AW PW Q (MS 10) (n + 1) sx 19 [vr 500, vr 0, vr 99, vi i] [] st
  rw [awW 19]
  simp only [pwl19, xs, i_load, i_loadR, i_inc, lg, lp, true_and, and_true, List.length_cons, List.length_nil, Nat.reduceAdd, Nat.reduceLeDiff, Nat.zero_le, Int.toNat_natCast, natLit, w1, g1, r1, w2, g2, r2]
  refine MS_cons (o_which  h) (fun v s1 hv => ?_)
  obtain ⟨r, rfl, hm⟩ := hv
  dsimp only
  refine MS_cons hm (fun v s2 hv => ?_)
  obtain ⟨rfl, h2⟩ := hv
  dsimp only
  try simp only [xs, i_load, i_loadR, i_inc, lg, lp, true_and, and_true, List.length_cons, List.length_nil, Nat.reduceAdd, Nat.reduceLeDiff, Nat.zero_le, Int.toNat_natCast, natLit]
  first | exact ⟨fun _ => k s2 h2, fun h => absurd rfl h⟩ | exact ⟨fun _ => k s2 h2, fun h => absurd trivial h⟩
theorem lw_is (hs : ∀ j, InR (sx j)) (hn : n ≤ 3072) (hi : i + 6 ≤ n) (h : INV st) (k : ∀ s, INV s → LWa n sx Q i 85 s) : LWa n sx Q i 21 st := by
  have w1 : wr ((i : Int) + 1) = ((i + 1 : Nat) : Int) := by rw [wr_id (by omega) (by omega)]; omega
  have g1 : (0 ≤ ((i + 1 : Nat) : Int)) = True := eq_true (by omega)
  have r1 : (((i + 1 : Nat) : Int) + 1 < ((n + 1 : Nat) : Int)) = True := eq_true (by omega)
  show AW PW Q (MS 10) (n + 1) sx 21 [vr 500, vr 0, vr 99, vi i] [] st
  rw [awW 21]
  simp only [pwl21, xs, i_load, i_loadR, i_inc, lg, lp, true_and, and_true, List.length_cons, List.length_nil, Nat.reduceAdd, Nat.reduceLeDiff, Nat.zero_le, Int.toNat_natCast, natLit, w1, g1, r1]
  refine MS_cons (o_is  h) (fun v s1 hv => ?_)
  obtain ⟨r, rfl, hm⟩ := hv
  dsimp only
  refine MS_cons hm (fun v s2 hv => ?_)
  obtain ⟨rfl, h2⟩ := hv
  dsimp only
  try simp only [xs, i_load, i_loadR, i_inc, lg, lp, true_and, and_true, List.length_cons, List.length_nil, Nat.reduceAdd, Nat.reduceLeDiff, Nat.zero_le, Int.toNat_natCast, natLit]
  first | exact ⟨fun _ => k s2 h2, fun h => absurd rfl h⟩ | exact ⟨fun _ => k s2 h2, fun h => absurd trivial h⟩
theorem lw_node (hs : ∀ j, InR (sx j)) (hn : n ≤ 3072) (hi : i + 6 ≤ n) (h : INV st) (k : ∀ s, INV s → LWa n sx Q i 85 s) : LWa n sx Q i 23 st := by
  have w1 : wr ((i : Int) + 1) = ((i + 1 : Nat) : Int) := by rw [wr_id (by omega) (by omega)]; omega
  have g1 : (0 ≤ ((i + 1 : Nat) : Int)) = True := eq_true (by omega)
  have r1 : (((i + 1 : Nat) : Int) + 1 < ((n + 1 : Nat) : Int)) = True := eq_true (by omega)
  have w2 : wr ((i : Int) + 2) = ((i + 2 : Nat) : Int) := by rw [wr_id (by omega) (by omega)]; omega
  have g2 : (0 ≤ ((i + 2 : Nat) : Int)) = True := eq_true (by omega)
  have r2 : (((i + 2 : Nat) : Int) + 1 < ((n + 1 : Nat) : Int)) = True := eq_true (by omega)
  show AW PW Q (MS 10) (n + 1) sx 23 [vr 500, vr 0, vr 99, vi i] [] st
  rw [awW 23]
  simp only [pwl23, xs, i_load, i_loadR, i_inc, lg, lp, true_and, and_true, List.length_cons, List.length_nil, Nat.reduceAdd, Nat.reduceLeDiff, Nat.zero_le, Int.toNat_natCast, natLit, w1, g1, r1, w2, g2, r2]
  refine MS_cons (o_node  h) (fun v s1 hv => ?_)
  obtain ⟨r, rfl, hm⟩ := hv
  dsimp only
  refine MS_cons hm (fun v s2 hv => ?_)
  obtain ⟨rfl, h2⟩ := hv
  dsimp only
  try simp only [xs, i_load, i_loadR, i_inc, lg, lp, true_and, and_true, List.length_cons, List.length_nil, Nat.reduceAdd, Nat.reduceLeDiff, Nat.zero_le, Int.toNat_natCast, natLit]
  first | exact ⟨fun _ => k s2 h2, fun h => absurd rfl h⟩ | exact ⟨fun _ => k s2 h2, fun h => absurd trivial h⟩
theorem lw_writeNode (hs : ∀ j, InR (sx j)) (hn : n ≤ 3072) (hi : i + 6 ≤ n) (h : INV st) (k : ∀ s, INV s → LWa n sx Q i 85 s) : LWa n sx Q i 25 st := by
  have w1 : wr ((i : Int) + 1) = ((i + 1 : Nat) : Int) := by rw [wr_id (by omega) (by omega)]; omega
  have g1 : (0 ≤ ((i + 1 : Nat) : Int)) = True := eq_true (by omega)
  have r1 : (((i + 1 : Nat) : Int) + 1 < ((n + 1 : Nat) : Int)) = True := eq_true (by omega)
  show AW PW Q (MS 10) (n + 1) sx 25 [vr 500, vr 0, vr 99, vi i] [] st
  rw [awW 25]
  simp only [pwl25, xs, i_load, i_loadR, i_inc, lg, lp, true_and, and_true, List.length_cons, List.length_nil, Nat.reduceAdd, Nat.reduceLeDiff, Nat.zero_le, Int.toNat_natCast, natLit, w1, g1, r1]
  refine MS_cons (o_writeNode  h) (fun v s1 hv => ?_)
  obtain ⟨r, rfl, hm⟩ := hv
  dsimp only
  refine MS_cons hm (fun v s2 hv => ?_)
  obtain ⟨rfl, h2⟩ := hv
  dsimp only
  try simp only [xs, i_load, i_loadR, i_inc, lg, lp, true_and, and_true, List.length_cons, List.length_nil, Nat.reduceAdd, Nat.reduceLeDiff, Nat.zero_le, Int.toNat_natCast, natLit]
  first | exact ⟨fun _ => k s2 h2, fun h => absurd rfl h⟩ | exact ⟨fun _ => k s2 h2, fun h => absurd trivial h⟩
theorem lw_score (hs : ∀ j, InR (sx j)) (hn : n ≤ 3072) (hi : i + 6 ≤ n) (h : INV st) (k : ∀ s, INV s → LWa n sx Q i 85 s) : LWa n sx Q i 27 st := by
  have w1 : wr ((i : Int) + 1) = ((i + 1 : Nat) : Int) := by rw [wr_id (by omega) (by omega)]; omega
  have g1 : (0 ≤ ((i + 1 : Nat) : Int)) = True := eq_true (by omega)
  have r1 : (((i + 1 : Nat) : Int) + 1 < ((n + 1 : Nat) : Int)) = True := eq_true (by omega)
  have w2 : wr ((i : Int) + 2) = ((i + 2 : Nat) : Int) := by rw [wr_id (by omega) (by omega)]; omega
  have g2 : (0 ≤ ((i + 2 : Nat) : Int)) = True := eq_true (by omega)
  have r2 : (((i + 2 : Nat) : Int) + 1 < ((n + 1 : Nat) : Int)) = True := eq_true (by omega)
  have w3 : wr ((i : Int) + 3) = ((i + 3 : Nat) : Int) := by rw [wr_id (by omega) (by omega)]; omega
  have g3 : (0 ≤ ((i + 3 : Nat) : Int)) = True := eq_true (by omega)
  have r3 : (((i + 3 : Nat) : Int) + 1 < ((n + 1 : Nat) : Int)) = True := eq_true (by omega)
  show AW PW Q (MS 10) (n + 1) sx 27 [vr 500, vr 0, vr 99, vi i] [] st
  rw [awW 27]
  simp only [pwl27, xs, i_load, i_loadR, i_inc, lg, lp, true_and, and_true, List.length_cons, List.length_nil, Nat.reduceAdd, Nat.reduceLeDiff, Nat.zero_le, Int.toNat_natCast, natLit, w1, g1, r1, w2, g2, r2, w3, g3, r3]
  refine MS_cons (o_score  h) (fun v s1 hv => ?_)
  obtain ⟨r, rfl, hm⟩ := hv
  dsimp only
  refine MS_cons hm (fun v s2 hv => ?_)
  obtain ⟨rfl, h2⟩ := hv
  dsimp only
  try simp only [xs, i_load, i_loadR, i_inc, lg, lp, true_and, and_true, List.length_cons, List.length_nil, Nat.reduceAdd, Nat.reduceLeDiff, Nat.zero_le, Int.toNat_natCast, natLit]
  first | exact ⟨fun _ => k s2 h2, fun h => absurd rfl h⟩ | exact ⟨fun _ => k s2 h2, fun h => absurd trivial h⟩
theorem lw_merge (hs : ∀ j, InR (sx j)) (hn : n ≤ 3072) (hi : i + 6 ≤ n) (h : INV st) (k : ∀ s, INV s → LWa n sx Q i 85 s) : LWa n sx Q i 29 st := by
  have w1 : wr ((i : Int) + 1) = ((i + 1 : Nat) : Int) := by rw [wr_id (by omega) (by omega)]; omega
  have g1 : (0 ≤ ((i + 1 : Nat) : Int)) = True := eq_true (by omega)
  have r1 : (((i + 1 : Nat) : Int) + 1 < ((n + 1 : Nat) : Int)) = True := eq_true (by omega)
  have w2 : wr ((i : Int) + 2) = ((i + 2 : Nat) : Int) := by rw [wr_id (by omega) (by omega)]; omega
  have g2 : (0 ≤ ((i + 2 : Nat) : Int)) = True := eq_true (by omega)
  have r2 : (((i + 2 : Nat) : Int) + 1 < ((n + 1 : Nat) : Int)) = True := eq_true (by omega)
  show AW PW Q (MS 10) (n + 1) sx 29 [vr 500, vr 0, vr 99, vi i] [] st
  rw [awW 29]
  simp only [pwl29, xs, i_load, i_loadR, i_inc, lg, lp, true_and, and_true, List.length_cons, List.length_nil, Nat.reduceAdd, Nat.reduceLeDiff, Nat.zero_le, Int.toNat_natCast, natLit, w1, g1, r1, w2, g2, r2]
  refine MS_cons (o_merge  h) (fun v s1 hv => ?_)
  obtain ⟨r, rfl, hm⟩ := hv
  dsimp only
  refine MS_cons hm (fun v s2 hv => ?_)
  obtain ⟨rfl, h2⟩ := hv
  dsimp only
  try simp only [xs, i_load, i_loadR, i_inc, lg, lp, true_and, and_true, List.length_cons, List.length_nil, Nat.reduceAdd, Nat.reduceLeDiff, Nat.zero_le, Int.toNat_natCast, natLit]
  first | exact ⟨fun _ => k s2 h2, fun h => absurd rfl h⟩ | exact ⟨fun _ => k s2 h2, fun h => absurd trivial h⟩
theorem lw_step (hs : ∀ j, InR (sx j)) (hn : n ≤ 3072) (hi : i + 6 ≤ n) (h : INV st) (k : ∀ s, INV s → LWa n sx Q i 85 s) : LWa n sx Q i 31 st := by
  have w1 : wr ((i : Int) + 1) = ((i + 1 : Nat) : Int) := by rw [wr_id (by omega) (by omega)]; omega
  have g1 : (0 ≤ ((i + 1 : Nat) : Int)) = True := eq_true (by omega)
  have r1 : (((i + 1 : Nat) : Int) + 1 < ((n + 1 : Nat) : Int)) = True := eq_true (by omega)
  show AW PW Q (MS 10) (n + 1) sx 31 [vr 500, vr 0, vr 99, vi i] [] st
  rw [awW 31]
  simp only [pwl31, xs, i_load, i_loadR, i_inc, lg, lp, true_and, and_true, List.length_cons, List.length_nil, Nat.reduceAdd, Nat.reduceLeDiff, Nat.zero_le, Int.toNat_natCast, natLit, w1, g1, r1]
  refine MS_cons (o_step  h) (fun v s1 hv => ?_)
  obtain ⟨r, rfl, hm⟩ := hv
  dsimp only
  refine MS_cons hm (fun v s2 hv => ?_)
  obtain ⟨rfl, h2⟩ := hv
  dsimp only
  try simp only [xs, i_load, i_loadR, i_inc, lg, lp, true_and, and_true, List.length_cons, List.length_nil, Nat.reduceAdd, Nat.reduceLeDiff, Nat.zero_le, Int.toNat_natCast, natLit]
  first | exact ⟨fun _ => k s2 h2, fun h => absurd rfl h⟩ | exact ⟨fun _ => k s2 h2, fun h => absurd trivial h⟩
theorem lw_learn (hs : ∀ j, InR (sx j)) (hn : n ≤ 3072) (hi : i + 6 ≤ n) (h : INV st) (k : ∀ s, INV s → LWa n sx Q i 85 s) : LWa n sx Q i 33 st := by
  have w1 : wr ((i : Int) + 1) = ((i + 1 : Nat) : Int) := by rw [wr_id (by omega) (by omega)]; omega
  have g1 : (0 ≤ ((i + 1 : Nat) : Int)) = True := eq_true (by omega)
  have r1 : (((i + 1 : Nat) : Int) + 1 < ((n + 1 : Nat) : Int)) = True := eq_true (by omega)
  show AW PW Q (MS 10) (n + 1) sx 33 [vr 500, vr 0, vr 99, vi i] [] st
  rw [awW 33]
  simp only [pwl33, xs, i_load, i_loadR, i_inc, lg, lp, true_and, and_true, List.length_cons, List.length_nil, Nat.reduceAdd, Nat.reduceLeDiff, Nat.zero_le, Int.toNat_natCast, natLit, w1, g1, r1]
  refine MS_cons (o_learn  h) (fun v s1 hv => ?_)
  obtain ⟨r, rfl, hm⟩ := hv
  dsimp only
  refine MS_cons hm (fun v s2 hv => ?_)
  obtain ⟨rfl, h2⟩ := hv
  dsimp only
  try simp only [xs, i_load, i_loadR, i_inc, lg, lp, true_and, and_true, List.length_cons, List.length_nil, Nat.reduceAdd, Nat.reduceLeDiff, Nat.zero_le, Int.toNat_natCast, natLit]
  first | exact ⟨fun _ => k s2 h2, fun h => absurd rfl h⟩ | exact ⟨fun _ => k s2 h2, fun h => absurd trivial h⟩
theorem lw_undo (hs : ∀ j, InR (sx j)) (hn : n ≤ 3072) (hi : i + 6 ≤ n) (h : INV st) (k : ∀ s, INV s → LWa n sx Q i 85 s) : LWa n sx Q i 35 st := by
  show AW PW Q (MS 10) (n + 1) sx 35 [vr 500, vr 0, vr 99, vi i] [] st
  rw [awW 35]
  simp only [pwl35, xs, i_load, i_loadR, i_inc, lg, lp, true_and, and_true, List.length_cons, List.length_nil, Nat.reduceAdd, Nat.reduceLeDiff, Nat.zero_le, Int.toNat_natCast, natLit]
  refine MS_cons (o_undo  h) (fun v s1 hv => ?_)
  obtain ⟨r, rfl, hm⟩ := hv
  dsimp only
  refine MS_cons hm (fun v s2 hv => ?_)
  obtain ⟨rfl, h2⟩ := hv
  dsimp only
  try simp only [xs, i_load, i_loadR, i_inc, lg, lp, true_and, and_true, List.length_cons, List.length_nil, Nat.reduceAdd, Nat.reduceLeDiff, Nat.zero_le, Int.toNat_natCast, natLit]
  first | exact ⟨fun _ => k s2 h2, fun h => absurd rfl h⟩ | exact ⟨fun _ => k s2 h2, fun h => absurd trivial h⟩
theorem lw_deed (hs : ∀ j, InR (sx j)) (hn : n ≤ 3072) (hi : i + 6 ≤ n) (h : INV st) (k : ∀ s, INV s → LWa n sx Q i 85 s) : LWa n sx Q i 37 st := by
  have w1 : wr ((i : Int) + 1) = ((i + 1 : Nat) : Int) := by rw [wr_id (by omega) (by omega)]; omega
  have g1 : (0 ≤ ((i + 1 : Nat) : Int)) = True := eq_true (by omega)
  have r1 : (((i + 1 : Nat) : Int) + 1 < ((n + 1 : Nat) : Int)) = True := eq_true (by omega)
  have w2 : wr ((i : Int) + 2) = ((i + 2 : Nat) : Int) := by rw [wr_id (by omega) (by omega)]; omega
  have g2 : (0 ≤ ((i + 2 : Nat) : Int)) = True := eq_true (by omega)
  have r2 : (((i + 2 : Nat) : Int) + 1 < ((n + 1 : Nat) : Int)) = True := eq_true (by omega)
  show AW PW Q (MS 10) (n + 1) sx 37 [vr 500, vr 0, vr 99, vi i] [] st
  rw [awW 37]
  simp only [pwl37, xs, i_load, i_loadR, i_inc, lg, lp, true_and, and_true, List.length_cons, List.length_nil, Nat.reduceAdd, Nat.reduceLeDiff, Nat.zero_le, Int.toNat_natCast, natLit, w1, g1, r1, w2, g2, r2]
  refine MS_cons (o_deed (hs _) (hs _) h) (fun v s1 hv => ?_)
  obtain ⟨r, rfl, hm⟩ := hv
  dsimp only
  refine MS_cons hm (fun v s2 hv => ?_)
  obtain ⟨rfl, h2⟩ := hv
  dsimp only
  try simp only [xs, i_load, i_loadR, i_inc, lg, lp, true_and, and_true, List.length_cons, List.length_nil, Nat.reduceAdd, Nat.reduceLeDiff, Nat.zero_le, Int.toNat_natCast, natLit]
  first | exact ⟨fun _ => k s2 h2, fun h => absurd rfl h⟩ | exact ⟨fun _ => k s2 h2, fun h => absurd trivial h⟩
theorem lw_least (hs : ∀ j, InR (sx j)) (hn : n ≤ 3072) (hi : i + 6 ≤ n) (h : INV st) (k : ∀ s, INV s → LWa n sx Q i 85 s) : LWa n sx Q i 39 st := by
  show AW PW Q (MS 10) (n + 1) sx 39 [vr 500, vr 0, vr 99, vi i] [] st
  rw [awW 39]
  simp only [pwl39, xs, i_load, i_loadR, i_inc, lg, lp, true_and, and_true, List.length_cons, List.length_nil, Nat.reduceAdd, Nat.reduceLeDiff, Nat.zero_le, Int.toNat_natCast, natLit]
  refine MS_cons (o_least  h) (fun v s1 hv => ?_)
  obtain ⟨r, rfl, hm⟩ := hv
  dsimp only
  refine MS_cons hm (fun v s2 hv => ?_)
  obtain ⟨rfl, h2⟩ := hv
  dsimp only
  try simp only [xs, i_load, i_loadR, i_inc, lg, lp, true_and, and_true, List.length_cons, List.length_nil, Nat.reduceAdd, Nat.reduceLeDiff, Nat.zero_le, Int.toNat_natCast, natLit]
  first | exact ⟨fun _ => k s2 h2, fun h => absurd rfl h⟩ | exact ⟨fun _ => k s2 h2, fun h => absurd trivial h⟩
theorem lw_tries (hs : ∀ j, InR (sx j)) (hn : n ≤ 3072) (hi : i + 6 ≤ n) (h : INV st) (k : ∀ s, INV s → LWa n sx Q i 85 s) : LWa n sx Q i 41 st := by
  show AW PW Q (MS 10) (n + 1) sx 41 [vr 500, vr 0, vr 99, vi i] [] st
  rw [awW 41]
  simp only [pwl41, xs, i_load, i_loadR, i_inc, lg, lp, true_and, and_true, List.length_cons, List.length_nil, Nat.reduceAdd, Nat.reduceLeDiff, Nat.zero_le, Int.toNat_natCast, natLit]
  refine MS_cons (o_tries  h) (fun v s1 hv => ?_)
  obtain ⟨r, rfl, hm⟩ := hv
  dsimp only
  refine MS_cons hm (fun v s2 hv => ?_)
  obtain ⟨rfl, h2⟩ := hv
  dsimp only
  try simp only [xs, i_load, i_loadR, i_inc, lg, lp, true_and, and_true, List.length_cons, List.length_nil, Nat.reduceAdd, Nat.reduceLeDiff, Nat.zero_le, Int.toNat_natCast, natLit]
  first | exact ⟨fun _ => k s2 h2, fun h => absurd rfl h⟩ | exact ⟨fun _ => k s2 h2, fun h => absurd trivial h⟩
theorem lw_target (hs : ∀ j, InR (sx j)) (hn : n ≤ 3072) (hi : i + 6 ≤ n) (h : INV st) (k : ∀ s, INV s → LWa n sx Q i 85 s) : LWa n sx Q i 43 st := by
  show AW PW Q (MS 10) (n + 1) sx 43 [vr 500, vr 0, vr 99, vi i] [] st
  rw [awW 43]
  simp only [pwl43, xs, i_load, i_loadR, i_inc, lg, lp, true_and, and_true, List.length_cons, List.length_nil, Nat.reduceAdd, Nat.reduceLeDiff, Nat.zero_le, Int.toNat_natCast, natLit]
  refine MS_cons (o_target  h) (fun v s1 hv => ?_)
  obtain ⟨r, rfl, hm⟩ := hv
  dsimp only
  refine MS_cons hm (fun v s2 hv => ?_)
  obtain ⟨rfl, h2⟩ := hv
  dsimp only
  try simp only [xs, i_load, i_loadR, i_inc, lg, lp, true_and, and_true, List.length_cons, List.length_nil, Nat.reduceAdd, Nat.reduceLeDiff, Nat.zero_le, Int.toNat_natCast, natLit]
  first | exact ⟨fun _ => k s2 h2, fun h => absurd rfl h⟩ | exact ⟨fun _ => k s2 h2, fun h => absurd trivial h⟩
theorem lw_fault (hs : ∀ j, InR (sx j)) (hn : n ≤ 3072) (hi : i + 6 ≤ n) (h : INV st) (k : ∀ s, INV s → LWa n sx Q i 85 s) : LWa n sx Q i 45 st := by
  show AW PW Q (MS 10) (n + 1) sx 45 [vr 500, vr 0, vr 99, vi i] [] st
  rw [awW 45]
  simp only [pwl45, xs, i_load, i_loadR, i_inc, lg, lp, true_and, and_true, List.length_cons, List.length_nil, Nat.reduceAdd, Nat.reduceLeDiff, Nat.zero_le, Int.toNat_natCast, natLit]
  refine MS_cons (o_fault  h) (fun v s1 hv => ?_)
  obtain ⟨r, rfl, hm⟩ := hv
  dsimp only
  refine MS_cons hm (fun v s2 hv => ?_)
  obtain ⟨rfl, h2⟩ := hv
  dsimp only
  try simp only [xs, i_load, i_loadR, i_inc, lg, lp, true_and, and_true, List.length_cons, List.length_nil, Nat.reduceAdd, Nat.reduceLeDiff, Nat.zero_le, Int.toNat_natCast, natLit]
  first | exact ⟨fun _ => k s2 h2, fun h => absurd rfl h⟩ | exact ⟨fun _ => k s2 h2, fun h => absurd trivial h⟩
theorem lw_keep (hs : ∀ j, InR (sx j)) (hn : n ≤ 3072) (hi : i + 6 ≤ n) (h : INV st) (k : ∀ s, INV s → LWa n sx Q i 85 s) : LWa n sx Q i 47 st := by
  have w1 : wr ((i : Int) + 1) = ((i + 1 : Nat) : Int) := by rw [wr_id (by omega) (by omega)]; omega
  have g1 : (0 ≤ ((i + 1 : Nat) : Int)) = True := eq_true (by omega)
  have r1 : (((i + 1 : Nat) : Int) + 1 < ((n + 1 : Nat) : Int)) = True := eq_true (by omega)
  show AW PW Q (MS 10) (n + 1) sx 47 [vr 500, vr 0, vr 99, vi i] [] st
  rw [awW 47]
  simp only [pwl47, xs, i_load, i_loadR, i_inc, lg, lp, true_and, and_true, List.length_cons, List.length_nil, Nat.reduceAdd, Nat.reduceLeDiff, Nat.zero_le, Int.toNat_natCast, natLit, w1, g1, r1]
  refine MS_cons (o_keep  h) (fun v s1 hv => ?_)
  obtain ⟨r, rfl, hm⟩ := hv
  dsimp only
  refine MS_cons hm (fun v s2 hv => ?_)
  obtain ⟨rfl, h2⟩ := hv
  dsimp only
  try simp only [xs, i_load, i_loadR, i_inc, lg, lp, true_and, and_true, List.length_cons, List.length_nil, Nat.reduceAdd, Nat.reduceLeDiff, Nat.zero_le, Int.toNat_natCast, natLit]
  first | exact ⟨fun _ => k s2 h2, fun h => absurd rfl h⟩ | exact ⟨fun _ => k s2 h2, fun h => absurd trivial h⟩
theorem lw_state (hs : ∀ j, InR (sx j)) (hn : n ≤ 3072) (hi : i + 6 ≤ n) (h : INV st) (k : ∀ s, INV s → LWa n sx Q i 85 s) : LWa n sx Q i 49 st := by
  have w1 : wr ((i : Int) + 1) = ((i + 1 : Nat) : Int) := by rw [wr_id (by omega) (by omega)]; omega
  have g1 : (0 ≤ ((i + 1 : Nat) : Int)) = True := eq_true (by omega)
  have r1 : (((i + 1 : Nat) : Int) + 1 < ((n + 1 : Nat) : Int)) = True := eq_true (by omega)
  have w2 : wr ((i : Int) + 2) = ((i + 2 : Nat) : Int) := by rw [wr_id (by omega) (by omega)]; omega
  have g2 : (0 ≤ ((i + 2 : Nat) : Int)) = True := eq_true (by omega)
  have r2 : (((i + 2 : Nat) : Int) + 1 < ((n + 1 : Nat) : Int)) = True := eq_true (by omega)
  have w3 : wr ((i : Int) + 3) = ((i + 3 : Nat) : Int) := by rw [wr_id (by omega) (by omega)]; omega
  have g3 : (0 ≤ ((i + 3 : Nat) : Int)) = True := eq_true (by omega)
  have r3 : (((i + 3 : Nat) : Int) + 1 < ((n + 1 : Nat) : Int)) = True := eq_true (by omega)
  show AW PW Q (MS 10) (n + 1) sx 49 [vr 500, vr 0, vr 99, vi i] [] st
  rw [awW 49]
  simp only [pwl49, xs, i_load, i_loadR, i_inc, lg, lp, true_and, and_true, List.length_cons, List.length_nil, Nat.reduceAdd, Nat.reduceLeDiff, Nat.zero_le, Int.toNat_natCast, natLit, w1, g1, r1, w2, g2, r2, w3, g3, r3]
  refine MS_cons (o_state (hs _) h) (fun v s1 hv => ?_)
  obtain ⟨r, rfl, hm⟩ := hv
  dsimp only
  refine MS_cons hm (fun v s2 hv => ?_)
  obtain ⟨rfl, h2⟩ := hv
  dsimp only
  try simp only [xs, i_load, i_loadR, i_inc, lg, lp, true_and, and_true, List.length_cons, List.length_nil, Nat.reduceAdd, Nat.reduceLeDiff, Nat.zero_le, Int.toNat_natCast, natLit]
  first | exact ⟨fun _ => k s2 h2, fun h => absurd rfl h⟩ | exact ⟨fun _ => k s2 h2, fun h => absurd trivial h⟩
theorem lw_states (hs : ∀ j, InR (sx j)) (hn : n ≤ 3072) (hi : i + 6 ≤ n) (h : INV st) (k : ∀ s, INV s → LWa n sx Q i 85 s) : LWa n sx Q i 51 st := by
  have w1 : wr ((i : Int) + 1) = ((i + 1 : Nat) : Int) := by rw [wr_id (by omega) (by omega)]; omega
  have g1 : (0 ≤ ((i + 1 : Nat) : Int)) = True := eq_true (by omega)
  have r1 : (((i + 1 : Nat) : Int) + 1 < ((n + 1 : Nat) : Int)) = True := eq_true (by omega)
  show AW PW Q (MS 10) (n + 1) sx 51 [vr 500, vr 0, vr 99, vi i] [] st
  rw [awW 51]
  simp only [pwl51, xs, i_load, i_loadR, i_inc, lg, lp, true_and, and_true, List.length_cons, List.length_nil, Nat.reduceAdd, Nat.reduceLeDiff, Nat.zero_le, Int.toNat_natCast, natLit, w1, g1, r1]
  refine MS_cons (o_states  h) (fun v s1 hv => ?_)
  obtain ⟨r, rfl, hm⟩ := hv
  dsimp only
  refine MS_cons hm (fun v s2 hv => ?_)
  obtain ⟨rfl, h2⟩ := hv
  dsimp only
  try simp only [xs, i_load, i_loadR, i_inc, lg, lp, true_and, and_true, List.length_cons, List.length_nil, Nat.reduceAdd, Nat.reduceLeDiff, Nat.zero_le, Int.toNat_natCast, natLit]
  first | exact ⟨fun _ => k s2 h2, fun h => absurd rfl h⟩ | exact ⟨fun _ => k s2 h2, fun h => absurd trivial h⟩
theorem lw_takes (hs : ∀ j, InR (sx j)) (hn : n ≤ 3072) (hi : i + 6 ≤ n) (h : INV st) (k : ∀ s, INV s → LWa n sx Q i 85 s) : LWa n sx Q i 53 st := by
  have w1 : wr ((i : Int) + 1) = ((i + 1 : Nat) : Int) := by rw [wr_id (by omega) (by omega)]; omega
  have g1 : (0 ≤ ((i + 1 : Nat) : Int)) = True := eq_true (by omega)
  have r1 : (((i + 1 : Nat) : Int) + 1 < ((n + 1 : Nat) : Int)) = True := eq_true (by omega)
  show AW PW Q (MS 10) (n + 1) sx 53 [vr 500, vr 0, vr 99, vi i] [] st
  rw [awW 53]
  simp only [pwl53, xs, i_load, i_loadR, i_inc, lg, lp, true_and, and_true, List.length_cons, List.length_nil, Nat.reduceAdd, Nat.reduceLeDiff, Nat.zero_le, Int.toNat_natCast, natLit, w1, g1, r1]
  refine MS_cons (o_takes  h) (fun v s1 hv => ?_)
  obtain ⟨r, rfl, hm⟩ := hv
  dsimp only
  refine MS_cons hm (fun v s2 hv => ?_)
  obtain ⟨rfl, h2⟩ := hv
  dsimp only
  try simp only [xs, i_load, i_loadR, i_inc, lg, lp, true_and, and_true, List.length_cons, List.length_nil, Nat.reduceAdd, Nat.reduceLeDiff, Nat.zero_le, Int.toNat_natCast, natLit]
  first | exact ⟨fun _ => k s2 h2, fun h => absurd rfl h⟩ | exact ⟨fun _ => k s2 h2, fun h => absurd trivial h⟩
theorem lw_words (hs : ∀ j, InR (sx j)) (hn : n ≤ 3072) (hi : i + 6 ≤ n) (h : INV st) (k : ∀ s, INV s → LWa n sx Q i 85 s) : LWa n sx Q i 55 st := by
  have w1 : wr ((i : Int) + 1) = ((i + 1 : Nat) : Int) := by rw [wr_id (by omega) (by omega)]; omega
  have g1 : (0 ≤ ((i + 1 : Nat) : Int)) = True := eq_true (by omega)
  have r1 : (((i + 1 : Nat) : Int) + 1 < ((n + 1 : Nat) : Int)) = True := eq_true (by omega)
  have w2 : wr ((i : Int) + 2) = ((i + 2 : Nat) : Int) := by rw [wr_id (by omega) (by omega)]; omega
  have g2 : (0 ≤ ((i + 2 : Nat) : Int)) = True := eq_true (by omega)
  have r2 : (((i + 2 : Nat) : Int) + 1 < ((n + 1 : Nat) : Int)) = True := eq_true (by omega)
  show AW PW Q (MS 10) (n + 1) sx 55 [vr 500, vr 0, vr 99, vi i] [] st
  rw [awW 55]
  simp only [pwl55, xs, i_load, i_loadR, i_inc, lg, lp, true_and, and_true, List.length_cons, List.length_nil, Nat.reduceAdd, Nat.reduceLeDiff, Nat.zero_le, Int.toNat_natCast, natLit, w1, g1, r1, w2, g2, r2]
  refine MS_cons (o_words  h) (fun v s1 hv => ?_)
  obtain ⟨r, rfl, hm⟩ := hv
  dsimp only
  refine MS_cons hm (fun v s2 hv => ?_)
  obtain ⟨rfl, h2⟩ := hv
  dsimp only
  try simp only [xs, i_load, i_loadR, i_inc, lg, lp, true_and, and_true, List.length_cons, List.length_nil, Nat.reduceAdd, Nat.reduceLeDiff, Nat.zero_le, Int.toNat_natCast, natLit]
  first | exact ⟨fun _ => k s2 h2, fun h => absurd rfl h⟩ | exact ⟨fun _ => k s2 h2, fun h => absurd trivial h⟩
theorem lw_apart (hs : ∀ j, InR (sx j)) (hn : n ≤ 3072) (hi : i + 6 ≤ n) (h : INV st) (k : ∀ s, INV s → LWa n sx Q i 85 s) : LWa n sx Q i 57 st := by
  have w1 : wr ((i : Int) + 1) = ((i + 1 : Nat) : Int) := by rw [wr_id (by omega) (by omega)]; omega
  have g1 : (0 ≤ ((i + 1 : Nat) : Int)) = True := eq_true (by omega)
  have r1 : (((i + 1 : Nat) : Int) + 1 < ((n + 1 : Nat) : Int)) = True := eq_true (by omega)
  have w2 : wr ((i : Int) + 2) = ((i + 2 : Nat) : Int) := by rw [wr_id (by omega) (by omega)]; omega
  have g2 : (0 ≤ ((i + 2 : Nat) : Int)) = True := eq_true (by omega)
  have r2 : (((i + 2 : Nat) : Int) + 1 < ((n + 1 : Nat) : Int)) = True := eq_true (by omega)
  show AW PW Q (MS 10) (n + 1) sx 57 [vr 500, vr 0, vr 99, vi i] [] st
  rw [awW 57]
  simp only [pwl57, xs, i_load, i_loadR, i_inc, lg, lp, true_and, and_true, List.length_cons, List.length_nil, Nat.reduceAdd, Nat.reduceLeDiff, Nat.zero_le, Int.toNat_natCast, natLit, w1, g1, r1, w2, g2, r2]
  refine MS_cons (o_apart  h) (fun v s1 hv => ?_)
  obtain ⟨r, rfl, hm⟩ := hv
  dsimp only
  refine MS_cons hm (fun v s2 hv => ?_)
  obtain ⟨rfl, h2⟩ := hv
  dsimp only
  try simp only [xs, i_load, i_loadR, i_inc, lg, lp, true_and, and_true, List.length_cons, List.length_nil, Nat.reduceAdd, Nat.reduceLeDiff, Nat.zero_le, Int.toNat_natCast, natLit]
  first | exact ⟨fun _ => k s2 h2, fun h => absurd rfl h⟩ | exact ⟨fun _ => k s2 h2, fun h => absurd trivial h⟩
theorem lw_small (hs : ∀ j, InR (sx j)) (hn : n ≤ 3072) (hi : i + 6 ≤ n) (h : INV st) (k : ∀ s, INV s → LWa n sx Q i 85 s) : LWa n sx Q i 59 st := by
  have w1 : wr ((i : Int) + 1) = ((i + 1 : Nat) : Int) := by rw [wr_id (by omega) (by omega)]; omega
  have g1 : (0 ≤ ((i + 1 : Nat) : Int)) = True := eq_true (by omega)
  have r1 : (((i + 1 : Nat) : Int) + 1 < ((n + 1 : Nat) : Int)) = True := eq_true (by omega)
  show AW PW Q (MS 10) (n + 1) sx 59 [vr 500, vr 0, vr 99, vi i] [] st
  rw [awW 59]
  simp only [pwl59, xs, i_load, i_loadR, i_inc, lg, lp, true_and, and_true, List.length_cons, List.length_nil, Nat.reduceAdd, Nat.reduceLeDiff, Nat.zero_le, Int.toNat_natCast, natLit, w1, g1, r1]
  refine MS_cons (o_small  h) (fun v s1 hv => ?_)
  obtain ⟨r, rfl, hm⟩ := hv
  dsimp only
  refine MS_cons hm (fun v s2 hv => ?_)
  obtain ⟨rfl, h2⟩ := hv
  dsimp only
  try simp only [xs, i_load, i_loadR, i_inc, lg, lp, true_and, and_true, List.length_cons, List.length_nil, Nat.reduceAdd, Nat.reduceLeDiff, Nat.zero_le, Int.toNat_natCast, natLit]
  first | exact ⟨fun _ => k s2 h2, fun h => absurd rfl h⟩ | exact ⟨fun _ => k s2 h2, fun h => absurd trivial h⟩
theorem lw_tight (hs : ∀ j, InR (sx j)) (hn : n ≤ 3072) (hi : i + 6 ≤ n) (h : INV st) (k : ∀ s, INV s → LWa n sx Q i 85 s) : LWa n sx Q i 61 st := by
  have w1 : wr ((i : Int) + 1) = ((i + 1 : Nat) : Int) := by rw [wr_id (by omega) (by omega)]; omega
  have g1 : (0 ≤ ((i + 1 : Nat) : Int)) = True := eq_true (by omega)
  have r1 : (((i + 1 : Nat) : Int) + 1 < ((n + 1 : Nat) : Int)) = True := eq_true (by omega)
  show AW PW Q (MS 10) (n + 1) sx 61 [vr 500, vr 0, vr 99, vi i] [] st
  rw [awW 61]
  simp only [pwl61, xs, i_load, i_loadR, i_inc, lg, lp, true_and, and_true, List.length_cons, List.length_nil, Nat.reduceAdd, Nat.reduceLeDiff, Nat.zero_le, Int.toNat_natCast, natLit, w1, g1, r1]
  refine MS_cons (o_tight  h) (fun v s1 hv => ?_)
  obtain ⟨r, rfl, hm⟩ := hv
  dsimp only
  refine MS_cons hm (fun v s2 hv => ?_)
  obtain ⟨rfl, h2⟩ := hv
  dsimp only
  try simp only [xs, i_load, i_loadR, i_inc, lg, lp, true_and, and_true, List.length_cons, List.length_nil, Nat.reduceAdd, Nat.reduceLeDiff, Nat.zero_le, Int.toNat_natCast, natLit]
  first | exact ⟨fun _ => k s2 h2, fun h => absurd rfl h⟩ | exact ⟨fun _ => k s2 h2, fun h => absurd trivial h⟩
theorem lw_taken (hs : ∀ j, InR (sx j)) (hn : n ≤ 3072) (hi : i + 6 ≤ n) (h : INV st) (k : ∀ s, INV s → LWa n sx Q i 85 s) : LWa n sx Q i 63 st := by
  have w1 : wr ((i : Int) + 1) = ((i + 1 : Nat) : Int) := by rw [wr_id (by omega) (by omega)]; omega
  have g1 : (0 ≤ ((i + 1 : Nat) : Int)) = True := eq_true (by omega)
  have r1 : (((i + 1 : Nat) : Int) + 1 < ((n + 1 : Nat) : Int)) = True := eq_true (by omega)
  have w2 : wr ((i : Int) + 2) = ((i + 2 : Nat) : Int) := by rw [wr_id (by omega) (by omega)]; omega
  have g2 : (0 ≤ ((i + 2 : Nat) : Int)) = True := eq_true (by omega)
  have r2 : (((i + 2 : Nat) : Int) + 1 < ((n + 1 : Nat) : Int)) = True := eq_true (by omega)
  show AW PW Q (MS 10) (n + 1) sx 63 [vr 500, vr 0, vr 99, vi i] [] st
  rw [awW 63]
  simp only [pwl63, xs, i_load, i_loadR, i_inc, lg, lp, true_and, and_true, List.length_cons, List.length_nil, Nat.reduceAdd, Nat.reduceLeDiff, Nat.zero_le, Int.toNat_natCast, natLit, w1, g1, r1, w2, g2, r2]
  refine MS_cons (o_taken (hs _) h) (fun v s1 hv => ?_)
  obtain ⟨r, rfl, hm⟩ := hv
  dsimp only
  refine MS_cons hm (fun v s2 hv => ?_)
  obtain ⟨rfl, h2⟩ := hv
  dsimp only
  try simp only [xs, i_load, i_loadR, i_inc, lg, lp, true_and, and_true, List.length_cons, List.length_nil, Nat.reduceAdd, Nat.reduceLeDiff, Nat.zero_le, Int.toNat_natCast, natLit]
  first | exact ⟨fun _ => k s2 h2, fun h => absurd rfl h⟩ | exact ⟨fun _ => k s2 h2, fun h => absurd trivial h⟩
theorem lw_wrong (hs : ∀ j, InR (sx j)) (hn : n ≤ 3072) (hi : i + 6 ≤ n) (h : INV st) (k : ∀ s, INV s → LWa n sx Q i 85 s) : LWa n sx Q i 65 st := by
  have w1 : wr ((i : Int) + 1) = ((i + 1 : Nat) : Int) := by rw [wr_id (by omega) (by omega)]; omega
  have g1 : (0 ≤ ((i + 1 : Nat) : Int)) = True := eq_true (by omega)
  have r1 : (((i + 1 : Nat) : Int) + 1 < ((n + 1 : Nat) : Int)) = True := eq_true (by omega)
  show AW PW Q (MS 10) (n + 1) sx 65 [vr 500, vr 0, vr 99, vi i] [] st
  rw [awW 65]
  simp only [pwl65, xs, i_load, i_loadR, i_inc, lg, lp, true_and, and_true, List.length_cons, List.length_nil, Nat.reduceAdd, Nat.reduceLeDiff, Nat.zero_le, Int.toNat_natCast, natLit, w1, g1, r1]
  refine MS_cons (o_wrong  h) (fun v s1 hv => ?_)
  obtain ⟨r, rfl, hm⟩ := hv
  dsimp only
  refine MS_cons hm (fun v s2 hv => ?_)
  obtain ⟨rfl, h2⟩ := hv
  dsimp only
  try simp only [xs, i_load, i_loadR, i_inc, lg, lp, true_and, and_true, List.length_cons, List.length_nil, Nat.reduceAdd, Nat.reduceLeDiff, Nat.zero_le, Int.toNat_natCast, natLit]
  first | exact ⟨fun _ => k s2 h2, fun h => absurd rfl h⟩ | exact ⟨fun _ => k s2 h2, fun h => absurd trivial h⟩
theorem lw_both (hs : ∀ j, InR (sx j)) (hn : n ≤ 3072) (hi : i + 6 ≤ n) (h : INV st) (k : ∀ s, INV s → LWa n sx Q i 85 s) : LWa n sx Q i 67 st := by
  have w1 : wr ((i : Int) + 1) = ((i + 1 : Nat) : Int) := by rw [wr_id (by omega) (by omega)]; omega
  have g1 : (0 ≤ ((i + 1 : Nat) : Int)) = True := eq_true (by omega)
  have r1 : (((i + 1 : Nat) : Int) + 1 < ((n + 1 : Nat) : Int)) = True := eq_true (by omega)
  have w2 : wr ((i : Int) + 2) = ((i + 2 : Nat) : Int) := by rw [wr_id (by omega) (by omega)]; omega
  have g2 : (0 ≤ ((i + 2 : Nat) : Int)) = True := eq_true (by omega)
  have r2 : (((i + 2 : Nat) : Int) + 1 < ((n + 1 : Nat) : Int)) = True := eq_true (by omega)
  have w3 : wr ((i : Int) + 3) = ((i + 3 : Nat) : Int) := by rw [wr_id (by omega) (by omega)]; omega
  have g3 : (0 ≤ ((i + 3 : Nat) : Int)) = True := eq_true (by omega)
  have r3 : (((i + 3 : Nat) : Int) + 1 < ((n + 1 : Nat) : Int)) = True := eq_true (by omega)
  show AW PW Q (MS 10) (n + 1) sx 67 [vr 500, vr 0, vr 99, vi i] [] st
  rw [awW 67]
  simp only [pwl67, xs, i_load, i_loadR, i_inc, lg, lp, true_and, and_true, List.length_cons, List.length_nil, Nat.reduceAdd, Nat.reduceLeDiff, Nat.zero_le, Int.toNat_natCast, natLit, w1, g1, r1, w2, g2, r2, w3, g3, r3]
  refine MS_cons (o_both  h) (fun v s1 hv => ?_)
  obtain ⟨r, rfl, hm⟩ := hv
  dsimp only
  refine MS_cons hm (fun v s2 hv => ?_)
  obtain ⟨rfl, h2⟩ := hv
  dsimp only
  try simp only [xs, i_load, i_loadR, i_inc, lg, lp, true_and, and_true, List.length_cons, List.length_nil, Nat.reduceAdd, Nat.reduceLeDiff, Nat.zero_le, Int.toNat_natCast, natLit]
  first | exact ⟨fun _ => k s2 h2, fun h => absurd rfl h⟩ | exact ⟨fun _ => k s2 h2, fun h => absurd trivial h⟩
theorem lw_useful (hs : ∀ j, InR (sx j)) (hn : n ≤ 3072) (hi : i + 6 ≤ n) (h : INV st) (k : ∀ s, INV s → LWa n sx Q i 85 s) : LWa n sx Q i 69 st := by
  have w1 : wr ((i : Int) + 1) = ((i + 1 : Nat) : Int) := by rw [wr_id (by omega) (by omega)]; omega
  have g1 : (0 ≤ ((i + 1 : Nat) : Int)) = True := eq_true (by omega)
  have r1 : (((i + 1 : Nat) : Int) + 1 < ((n + 1 : Nat) : Int)) = True := eq_true (by omega)
  show AW PW Q (MS 10) (n + 1) sx 69 [vr 500, vr 0, vr 99, vi i] [] st
  rw [awW 69]
  simp only [pwl69, xs, i_load, i_loadR, i_inc, lg, lp, true_and, and_true, List.length_cons, List.length_nil, Nat.reduceAdd, Nat.reduceLeDiff, Nat.zero_le, Int.toNat_natCast, natLit, w1, g1, r1]
  refine MS_cons (o_useful  h) (fun v s1 hv => ?_)
  obtain ⟨r, rfl, hm⟩ := hv
  dsimp only
  refine MS_cons hm (fun v s2 hv => ?_)
  obtain ⟨rfl, h2⟩ := hv
  dsimp only
  try simp only [xs, i_load, i_loadR, i_inc, lg, lp, true_and, and_true, List.length_cons, List.length_nil, Nat.reduceAdd, Nat.reduceLeDiff, Nat.zero_le, Int.toNat_natCast, natLit]
  first | exact ⟨fun _ => k s2 h2, fun h => absurd rfl h⟩ | exact ⟨fun _ => k s2 h2, fun h => absurd trivial h⟩
theorem lw_longest (hs : ∀ j, InR (sx j)) (hn : n ≤ 3072) (hi : i + 6 ≤ n) (h : INV st) (k : ∀ s, INV s → LWa n sx Q i 85 s) : LWa n sx Q i 71 st := by
  have w1 : wr ((i : Int) + 1) = ((i + 1 : Nat) : Int) := by rw [wr_id (by omega) (by omega)]; omega
  have g1 : (0 ≤ ((i + 1 : Nat) : Int)) = True := eq_true (by omega)
  have r1 : (((i + 1 : Nat) : Int) + 1 < ((n + 1 : Nat) : Int)) = True := eq_true (by omega)
  show AW PW Q (MS 10) (n + 1) sx 71 [vr 500, vr 0, vr 99, vi i] [] st
  rw [awW 71]
  simp only [pwl71, xs, i_load, i_loadR, i_inc, lg, lp, true_and, and_true, List.length_cons, List.length_nil, Nat.reduceAdd, Nat.reduceLeDiff, Nat.zero_le, Int.toNat_natCast, natLit, w1, g1, r1]
  refine MS_cons (o_longest  h) (fun v s1 hv => ?_)
  obtain ⟨r, rfl, hm⟩ := hv
  dsimp only
  refine MS_cons hm (fun v s2 hv => ?_)
  obtain ⟨rfl, h2⟩ := hv
  dsimp only
  try simp only [xs, i_load, i_loadR, i_inc, lg, lp, true_and, and_true, List.length_cons, List.length_nil, Nat.reduceAdd, Nat.reduceLeDiff, Nat.zero_le, Int.toNat_natCast, natLit]
  first | exact ⟨fun _ => k s2 h2, fun h => absurd rfl h⟩ | exact ⟨fun _ => k s2 h2, fun h => absurd trivial h⟩
theorem lw_text (hs : ∀ j, InR (sx j)) (hn : n ≤ 3072) (hi : i + 6 ≤ n) (h : INV st) (k : ∀ s, INV s → LWa n sx Q i 85 s) : LWa n sx Q i 73 st := by
  have w1 : wr ((i : Int) + 1) = ((i + 1 : Nat) : Int) := by rw [wr_id (by omega) (by omega)]; omega
  have g1 : (0 ≤ ((i + 1 : Nat) : Int)) = True := eq_true (by omega)
  have r1 : (((i + 1 : Nat) : Int) + 1 < ((n + 1 : Nat) : Int)) = True := eq_true (by omega)
  show AW PW Q (MS 10) (n + 1) sx 73 [vr 500, vr 0, vr 99, vi i] [] st
  rw [awW 73]
  simp only [pwl73, xs, i_load, i_loadR, i_inc, lg, lp, true_and, and_true, List.length_cons, List.length_nil, Nat.reduceAdd, Nat.reduceLeDiff, Nat.zero_le, Int.toNat_natCast, natLit, w1, g1, r1]
  refine MS_cons (o_text  h) (fun v s1 hv => ?_)
  obtain ⟨r, rfl, hm⟩ := hv
  dsimp only
  refine MS_cons hm (fun v s2 hv => ?_)
  obtain ⟨rfl, h2⟩ := hv
  dsimp only
  try simp only [xs, i_load, i_loadR, i_inc, lg, lp, true_and, and_true, List.length_cons, List.length_nil, Nat.reduceAdd, Nat.reduceLeDiff, Nat.zero_le, Int.toNat_natCast, natLit]
  first | exact ⟨fun _ => k s2 h2, fun h => absurd rfl h⟩ | exact ⟨fun _ => k s2 h2, fun h => absurd trivial h⟩
theorem lw_octet (hs : ∀ j, InR (sx j)) (hn : n ≤ 3072) (hi : i + 6 ≤ n) (h : INV st) (k : ∀ s, INV s → LWa n sx Q i 85 s) : LWa n sx Q i 75 st := by
  have w1 : wr ((i : Int) + 1) = ((i + 1 : Nat) : Int) := by rw [wr_id (by omega) (by omega)]; omega
  have g1 : (0 ≤ ((i + 1 : Nat) : Int)) = True := eq_true (by omega)
  have r1 : (((i + 1 : Nat) : Int) + 1 < ((n + 1 : Nat) : Int)) = True := eq_true (by omega)
  show AW PW Q (MS 10) (n + 1) sx 75 [vr 500, vr 0, vr 99, vi i] [] st
  rw [awW 75]
  simp only [pwl75, xs, i_load, i_loadR, i_inc, lg, lp, true_and, and_true, List.length_cons, List.length_nil, Nat.reduceAdd, Nat.reduceLeDiff, Nat.zero_le, Int.toNat_natCast, natLit, w1, g1, r1]
  refine MS_cons (o_octet  h) (fun v s1 hv => ?_)
  obtain ⟨r, rfl, hm⟩ := hv
  dsimp only
  refine MS_cons hm (fun v s2 hv => ?_)
  obtain ⟨rfl, h2⟩ := hv
  dsimp only
  try simp only [xs, i_load, i_loadR, i_inc, lg, lp, true_and, and_true, List.length_cons, List.length_nil, Nat.reduceAdd, Nat.reduceLeDiff, Nat.zero_le, Int.toNat_natCast, natLit]
  first | exact ⟨fun _ => k s2 h2, fun h => absurd rfl h⟩ | exact ⟨fun _ => k s2 h2, fun h => absurd trivial h⟩
theorem lw_teach (hs : ∀ j, InR (sx j)) (hn : n ≤ 3072) (hi : i + 6 ≤ n) (h : INV st) (k : ∀ s, INV s → LWa n sx Q i 85 s) : LWa n sx Q i 77 st := by
  have w1 : wr ((i : Int) + 1) = ((i + 1 : Nat) : Int) := by rw [wr_id (by omega) (by omega)]; omega
  have g1 : (0 ≤ ((i + 1 : Nat) : Int)) = True := eq_true (by omega)
  have r1 : (((i + 1 : Nat) : Int) + 1 < ((n + 1 : Nat) : Int)) = True := eq_true (by omega)
  show AW PW Q (MS 10) (n + 1) sx 77 [vr 500, vr 0, vr 99, vi i] [] st
  rw [awW 77]
  simp only [pwl77, xs, i_load, i_loadR, i_inc, lg, lp, true_and, and_true, List.length_cons, List.length_nil, Nat.reduceAdd, Nat.reduceLeDiff, Nat.zero_le, Int.toNat_natCast, natLit, w1, g1, r1]
  refine MS_cons (o_teach  h) (fun v s1 hv => ?_)
  obtain ⟨r, rfl, hm⟩ := hv
  dsimp only
  refine MS_cons hm (fun v s2 hv => ?_)
  obtain ⟨rfl, h2⟩ := hv
  dsimp only
  try simp only [xs, i_load, i_loadR, i_inc, lg, lp, true_and, and_true, List.length_cons, List.length_nil, Nat.reduceAdd, Nat.reduceLeDiff, Nat.zero_le, Int.toNat_natCast, natLit]
  first | exact ⟨fun _ => k s2 h2, fun h => absurd rfl h⟩ | exact ⟨fun _ => k s2 h2, fun h => absurd trivial h⟩
theorem lw_without (hs : ∀ j, InR (sx j)) (hn : n ≤ 3072) (hi : i + 6 ≤ n) (h : INV st) (k : ∀ s, INV s → LWa n sx Q i 85 s) : LWa n sx Q i 79 st := by
  have w1 : wr ((i : Int) + 1) = ((i + 1 : Nat) : Int) := by rw [wr_id (by omega) (by omega)]; omega
  have g1 : (0 ≤ ((i + 1 : Nat) : Int)) = True := eq_true (by omega)
  have r1 : (((i + 1 : Nat) : Int) + 1 < ((n + 1 : Nat) : Int)) = True := eq_true (by omega)
  have w2 : wr ((i : Int) + 2) = ((i + 2 : Nat) : Int) := by rw [wr_id (by omega) (by omega)]; omega
  have g2 : (0 ≤ ((i + 2 : Nat) : Int)) = True := eq_true (by omega)
  have r2 : (((i + 2 : Nat) : Int) + 1 < ((n + 1 : Nat) : Int)) = True := eq_true (by omega)
  show AW PW Q (MS 10) (n + 1) sx 79 [vr 500, vr 0, vr 99, vi i] [] st
  rw [awW 79]
  simp only [pwl79, xs, i_load, i_loadR, i_inc, lg, lp, true_and, and_true, List.length_cons, List.length_nil, Nat.reduceAdd, Nat.reduceLeDiff, Nat.zero_le, Int.toNat_natCast, natLit, w1, g1, r1, w2, g2, r2]
  refine MS_cons (o_without  h) (fun v s1 hv => ?_)
  obtain ⟨r, rfl, hm⟩ := hv
  dsimp only
  refine MS_cons hm (fun v s2 hv => ?_)
  obtain ⟨rfl, h2⟩ := hv
  dsimp only
  try simp only [xs, i_load, i_loadR, i_inc, lg, lp, true_and, and_true, List.length_cons, List.length_nil, Nat.reduceAdd, Nat.reduceLeDiff, Nat.zero_le, Int.toNat_natCast, natLit]
  first | exact ⟨fun _ => k s2 h2, fun h => absurd rfl h⟩ | exact ⟨fun _ => k s2 h2, fun h => absurd trivial h⟩
theorem lw_guess (hs : ∀ j, InR (sx j)) (hn : n ≤ 3072) (hi : i + 6 ≤ n) (h : INV st) (k : ∀ s, INV s → LWa n sx Q i 85 s) : LWa n sx Q i 81 st := by
  show AW PW Q (MS 10) (n + 1) sx 81 [vr 500, vr 0, vr 99, vi i] [] st
  rw [awW 81]
  simp only [pwl81, xs, i_load, i_loadR, i_inc, lg, lp, true_and, and_true, List.length_cons, List.length_nil, Nat.reduceAdd, Nat.reduceLeDiff, Nat.zero_le, Int.toNat_natCast, natLit]
  refine MS_cons (o_guess  h) (fun v s1 hv => ?_)
  obtain ⟨r, rfl, hm⟩ := hv
  dsimp only
  refine MS_cons hm (fun v s2 hv => ?_)
  obtain ⟨rfl, h2⟩ := hv
  dsimp only
  try simp only [xs, i_load, i_loadR, i_inc, lg, lp, true_and, and_true, List.length_cons, List.length_nil, Nat.reduceAdd, Nat.reduceLeDiff, Nat.zero_le, Int.toNat_natCast, natLit]
  first | exact ⟨fun _ => k s2 h2, fun h => absurd rfl h⟩ | exact ⟨fun _ => k s2 h2, fun h => absurd trivial h⟩
theorem lw_blind (hs : ∀ j, InR (sx j)) (hn : n ≤ 3072) (hi : i + 6 ≤ n) (h : INV st) (k : ∀ s, INV s → LWa n sx Q i 85 s) : LWa n sx Q i 83 st := by
  have w1 : wr ((i : Int) + 1) = ((i + 1 : Nat) : Int) := by rw [wr_id (by omega) (by omega)]; omega
  have g1 : (0 ≤ ((i + 1 : Nat) : Int)) = True := eq_true (by omega)
  have r1 : (((i + 1 : Nat) : Int) + 1 < ((n + 1 : Nat) : Int)) = True := eq_true (by omega)
  show AW PW Q (MS 10) (n + 1) sx 83 [vr 500, vr 0, vr 99, vi i] [] st
  rw [awW 83]
  simp only [pwl83, xs, i_load, i_loadR, i_inc, lg, lp, true_and, and_true, List.length_cons, List.length_nil, Nat.reduceAdd, Nat.reduceLeDiff, Nat.zero_le, Int.toNat_natCast, natLit, w1, g1, r1]
  refine MS_cons (o_blind  h) (fun v s1 hv => ?_)
  obtain ⟨r, rfl, hm⟩ := hv
  dsimp only
  refine MS_cons hm (fun v s2 hv => ?_)
  obtain ⟨rfl, h2⟩ := hv
  dsimp only
  try simp only [xs, i_load, i_loadR, i_inc, lg, lp, true_and, and_true, List.length_cons, List.length_nil, Nat.reduceAdd, Nat.reduceLeDiff, Nat.zero_le, Int.toNat_natCast, natLit]
  first | exact ⟨fun _ => k s2 h2, fun h => absurd rfl h⟩ | exact ⟨fun _ => k s2 h2, fun h => absurd trivial h⟩
theorem lw_example (hs : ∀ j, InR (sx j)) (hn : n ≤ 3072) (hi : i + 6 ≤ n) (h : INV st) (k : ∀ s, INV s → LWa n sx Q i 85 s) : LWa n sx Q i 9 st := by
  have w1 : wr ((i : Int) + 1) = ((i + 1 : Nat) : Int) := by rw [wr_id (by omega) (by omega)]; omega
  have g1 : (0 ≤ ((i + 1 : Nat) : Int)) = True := eq_true (by omega)
  have r1 : (((i + 1 : Nat) : Int) + 1 < ((n + 1 : Nat) : Int)) = True := eq_true (by omega)
  show AW PW Q (MS 10) (n + 1) sx 9 [vr 500, vr 0, vr 99, vi i] [] st
  rw [awW 9]
  try simp only [pwl9, xs, i_load, i_loadR, i_inc, lg, lp, true_and, and_true, List.length_cons, List.length_nil, Nat.reduceAdd, Nat.reduceLeDiff, Nat.zero_le, Int.toNat_natCast, natLit, w1, g1, r1]
  by_cases z : sx (i + 1) = 0
  · refine ⟨fun _ => ?_, fun h => absurd z h⟩
    rw [awW 11]
    try simp only [pwl11, awW 12, pwl12, xs, i_load, i_loadR, i_inc, lg, lp, true_and, and_true, List.length_cons, List.length_nil, Nat.reduceAdd, Nat.reduceLeDiff, Nat.zero_le, Int.toNat_natCast, natLit, w1, g1, r1]
    refine MS_cons (o_example ok01_0 h) (fun v s1 hv => ?_)
    obtain ⟨r, rfl, hm⟩ := hv
    dsimp only
    try simp only [xs, i_load, i_loadR, i_inc, lg, lp, true_and, and_true, List.length_cons, List.length_nil, Nat.reduceAdd, Nat.reduceLeDiff, Nat.zero_le, Int.toNat_natCast, natLit, w1, g1, r1]
    refine ⟨fun _ => ?_, fun h => absurd z h⟩
    rw [awW 14]
    try simp only [pwl14, awW 15, pwl15, xs, i_load, i_loadR, i_inc, lg, lp, true_and, and_true, List.length_cons, List.length_nil, Nat.reduceAdd, Nat.reduceLeDiff, Nat.zero_le, Int.toNat_natCast, natLit]
    refine MS_cons hm (fun v s2 hv => ?_)
    obtain ⟨rfl, h2⟩ := hv
    dsimp only
    try simp only [xs, i_load, i_loadR, i_inc, lg, lp, true_and, and_true, List.length_cons, List.length_nil, Nat.reduceAdd, Nat.reduceLeDiff, Nat.zero_le, Int.toNat_natCast, natLit]
    first | exact ⟨fun _ => k s2 h2, fun h => absurd rfl h⟩ | exact ⟨fun _ => k s2 h2, fun h => absurd trivial h⟩
  · refine ⟨fun h => absurd h z, fun _ => ?_⟩
    rw [awW 10]
    try simp only [pwl10, awW 12, pwl12, xs, i_load, i_loadR, i_inc, lg, lp, true_and, and_true, List.length_cons, List.length_nil, Nat.reduceAdd, Nat.reduceLeDiff, Nat.zero_le, Int.toNat_natCast, natLit, w1, g1, r1]
    refine MS_cons (o_example ok01_1 h) (fun v s1 hv => ?_)
    obtain ⟨r, rfl, hm⟩ := hv
    dsimp only
    try simp only [xs, i_load, i_loadR, i_inc, lg, lp, true_and, and_true, List.length_cons, List.length_nil, Nat.reduceAdd, Nat.reduceLeDiff, Nat.zero_le, Int.toNat_natCast, natLit, w1, g1, r1]
    refine ⟨fun h => absurd h z, fun _ => ?_⟩
    rw [awW 13]
    try simp only [pwl13, awW 15, pwl15, xs, i_load, i_loadR, i_inc, lg, lp, true_and, and_true, List.length_cons, List.length_nil, Nat.reduceAdd, Nat.reduceLeDiff, Nat.zero_le, Int.toNat_natCast, natLit]
    refine MS_cons hm (fun v s2 hv => ?_)
    obtain ⟨rfl, h2⟩ := hv
    dsimp only
    try simp only [xs, i_load, i_loadR, i_inc, lg, lp, true_and, and_true, List.length_cons, List.length_nil, Nat.reduceAdd, Nat.reduceLeDiff, Nat.zero_le, Int.toNat_natCast, natLit]
    first | exact ⟨fun _ => k s2 h2, fun h => absurd rfl h⟩ | exact ⟨fun _ => k s2 h2, fun h => absurd trivial h⟩
theorem lw_fin (hn : n ≤ 3072) (hi : ¬ i + 6 ≤ n) (h : INV st) (hq : ∀ s, INV s → Q (vi 1) s) : LWa n sx Q i 1 st := by
  have w1 : wr (((n + 1 : Nat) : Int) - 1 - 6) = (n : Int) - 6 := by rw [wr_id (by omega) (by omega)]; omega
  show AW PW Q (MS 10) (n + 1) sx 1 [vr 500, vr 0, vr 99, vi i] [] st
  rw [awW 1]
  try simp only [pwl1, awW 86, pwl86, xs, i_load, i_loadR, i_inc, lg, lp, true_and, and_true, List.length_cons, List.length_nil, Nat.reduceAdd, Nat.reduceLeDiff, Nat.zero_le, Int.toNat_natCast, natLit, w1]
  exact ⟨by omega, fun _ => ⟨ok01_1, hq st h⟩, fun h => by omega⟩
theorem lw_loop (hs : ∀ j, InR (sx j)) (hn : n ≤ 3072) (hq : ∀ s, INV s → Q (vi 1) s) : ∀ m i : Nat, ∀ st : St, n ≤ i + m → INV st → LWa n sx Q i 1 st := by
  intro m
  induction m with
  | zero =>
    intro i st hm h
    exact lw_fin hn (by omega) h hq
  | succ m ih =>
    intro i st hm h
    by_cases z : i + 6 ≤ n
    · have k : ∀ s, INV s → LWa n sx Q i 85 s := by
        intro s h2
        show AW PW Q (MS 10) (n + 1) sx 85 [vr 500, vr 0, vr 99, vi i] [] s
        rw [awW 85]
        try simp only [pwl85, xs, i_load, i_loadR, i_inc, lg, lp, true_and, and_true, List.length_cons, List.length_nil, Nat.reduceAdd, Nat.reduceLeDiff, Nat.zero_le, Int.toNat_natCast, natLit]
        rw [wr_id (by omega) (by omega)]
        exact ih (i + 6) s (by omega) h2
      have w1 : wr (((n + 1 : Nat) : Int) - 1 - 6) = (n : Int) - 6 := by rw [wr_id (by omega) (by omega)]; omega
      have g1 : (0 ≤ ((i : Nat) : Int)) = True := eq_true (by omega)
      have r1 : (((i : Nat) : Int) + 1 < ((n + 1 : Nat) : Int)) = True := eq_true (by omega)
      show AW PW Q (MS 10) (n + 1) sx 1 [vr 500, vr 0, vr 99, vi i] [] st
      rw [awW 1]
      try simp only [pwl1, xs, i_load, i_loadR, i_inc, lg, lp, true_and, and_true, List.length_cons, List.length_nil, Nat.reduceAdd, Nat.reduceLeDiff, Nat.zero_le, Int.toNat_natCast, natLit, w1]
      refine ⟨by omega, fun h => by omega, fun _ => ?_⟩
      rw [awW 2]
      try simp only [pwl2, xs, t_sw, i_load, i_loadR, i_inc, lg, lp, true_and, and_true, List.length_cons, List.length_nil, Nat.reduceAdd, Nat.reduceLeDiff, Nat.zero_le, Int.toNat_natCast, natLit, g1, r1]
      exact ⟨fun _ => lw_letters hs hn z h k, fun _ => ⟨fun _ => lw_feed hs hn z h k, fun _ => ⟨fun _ => lw_end hs hn z h k, fun _ => ⟨fun _ => lw_example hs hn z h k, fun _ => ⟨fun _ => lw_drop hs hn z h k, fun _ => ⟨fun _ => lw_which hs hn z h k, fun _ => ⟨fun _ => lw_is hs hn z h k, fun _ => ⟨fun _ => lw_node hs hn z h k, fun _ => ⟨fun _ => lw_writeNode hs hn z h k, fun _ => ⟨fun _ => lw_score hs hn z h k, fun _ => ⟨fun _ => lw_merge hs hn z h k, fun _ => ⟨fun _ => lw_step hs hn z h k, fun _ => ⟨fun _ => lw_learn hs hn z h k, fun _ => ⟨fun _ => lw_undo hs hn z h k, fun _ => ⟨fun _ => lw_deed hs hn z h k, fun _ => ⟨fun _ => lw_least hs hn z h k, fun _ => ⟨fun _ => lw_tries hs hn z h k, fun _ => ⟨fun _ => lw_target hs hn z h k, fun _ => ⟨fun _ => lw_fault hs hn z h k, fun _ => ⟨fun _ => lw_keep hs hn z h k, fun _ => ⟨fun _ => lw_state hs hn z h k, fun _ => ⟨fun _ => lw_states hs hn z h k, fun _ => ⟨fun _ => lw_takes hs hn z h k, fun _ => ⟨fun _ => lw_words hs hn z h k, fun _ => ⟨fun _ => lw_apart hs hn z h k, fun _ => ⟨fun _ => lw_small hs hn z h k, fun _ => ⟨fun _ => lw_tight hs hn z h k, fun _ => ⟨fun _ => lw_taken hs hn z h k, fun _ => ⟨fun _ => lw_wrong hs hn z h k, fun _ => ⟨fun _ => lw_both hs hn z h k, fun _ => ⟨fun _ => lw_useful hs hn z h k, fun _ => ⟨fun _ => lw_longest hs hn z h k, fun _ => ⟨fun _ => lw_text hs hn z h k, fun _ => ⟨fun _ => lw_octet hs hn z h k, fun _ => ⟨fun _ => lw_teach hs hn z h k, fun _ => ⟨fun _ => lw_without hs hn z h k, fun _ => ⟨fun _ => lw_guess hs hn z h k, fun _ => ⟨fun _ => lw_blind hs hn z h k, fun _ => k st h⟩⟩⟩⟩⟩⟩⟩⟩⟩⟩⟩⟩⟩⟩⟩⟩⟩⟩⟩⟩⟩⟩⟩⟩⟩⟩⟩⟩⟩⟩⟩⟩⟩⟩⟩⟩⟩⟩
    · exact lw_fin hn z h hq
end LAW
