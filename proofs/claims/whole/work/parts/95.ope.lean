/-! keep, on both -/
theorem o_keep {m : Int} {st : St} (h : INV st) : OPr 26 104 [vi m] st := by
  obtain ⟨tp, a, ex, tn, D, F, M1, M2, M3, L, t, fa, hC, hM, hP⟩ := h
  refine opp rl1 rl1 ?_
  have k63 : kl 63 = 2 := rfl
  refine MS_v [vr 0, vi m] rfl rfl rfl rfl ?_
  try simp only [awu 26 0, awu 26 1, pe26, xs, i_load, i_loadR, i_inc, lg, lp, true_and, and_true, List.length_cons, List.length_nil, Nat.reduceAdd, Nat.reduceLeDiff, Nat.zero_le, Int.toNat_natCast, natLit, cK0]
  have no : ¬ (0 < (mof F tn.1 M1 M2 M3 m).1 ∧ m ≠ 3) → QC st 104 [vi m] (vi (-1)) st := by
    intro hn
    refine ⟨_, tp, a, ex, tn, D, F, M1, M2, M3, L, t, fa, rfl, hC, hP, fun s hs => ?_⟩
    have hM := Min_s hM hs
    refine MS_v [vr 99, vi m] rfl rfl rfl rfl ?_
    try simp only [awu 104 0, pe104, xs, i_load, i_loadR, i_inc, lg, lp, true_and, and_true, List.length_cons, List.length_nil, Nat.reduceAdd, Nat.reduceLeDiff, Nat.zero_le, Int.toNat_natCast, natLit, mK0]
    refine sp_isIn ?_
    dsimp only
    by_cases z : 0 ≤ m ∧ m ≤ 2
    · rw [if_pos z]
      try simp only [awu 104 1, pe104, xs, i_load, i_loadR, i_inc, lg, lp, true_and, and_true, List.length_cons, List.length_nil, Nat.reduceAdd, Nat.reduceLeDiff, Nat.zero_le, Int.toNat_natCast, natLit, mK0]
      refine ⟨fun h => absurd h (by decide), fun _ => ?_⟩
      refine MM hM hP (fun s2 z' _ _ _ => absurd ⟨z', by omega⟩ hn) (fun _ => ?_)
      dsimp only
      try simp only [awu 104 2, pe104, xs, i_load, i_loadR, i_inc, lg, lp, true_and, and_true, List.length_cons, List.length_nil, Nat.reduceAdd, Nat.reduceLeDiff, Nat.zero_le, Int.toNat_natCast, natLit, mK0]
      exact ⟨fun h => absurd trivial h, fun _ => hM⟩
    · rw [if_neg z]
      try simp only [awu 104 2, pe104, xs, i_load, i_loadR, i_inc, lg, lp, true_and, and_true, List.length_cons, List.length_nil, Nat.reduceAdd, Nat.reduceLeDiff, Nat.zero_le, Int.toNat_natCast, natLit, mK0]
      exact ⟨fun _ => hM, fun h => absurd trivial h⟩
  refine ⟨fun h => ?_, fun h => ?_⟩
  · try simp only [awu 26 2, pe26, xs, i_load, i_loadR, i_inc, lg, lp, true_and, and_true, List.length_cons, List.length_nil, Nat.reduceAdd, Nat.reduceLeDiff, Nat.zero_le, Int.toNat_natCast, natLit, cK0]
    exact no (fun z => z.2 h)
  · refine sp_isThere (Cin_X hC hP) ?_
    dsimp only
    by_cases z : 0 < (mof F tn.1 M1 M2 M3 m).1
    · rw [if_pos z]
      have hr := mof_r z
      obtain ⟨k, rfl, hk⟩ := mof_n z
      try simp only [awu 26 3, pe26, xs, i_load, i_loadR, i_inc, lg, lp, true_and, and_true, List.length_cons, List.length_nil, Nat.reduceAdd, Nat.reduceLeDiff, Nat.zero_le, Int.toNat_natCast, natLit, cK0, Nat.zero_add]
      refine ⟨fun _ => ?_, fun h => absurd h (by decide)⟩
      refine CM hC hP z (fun s1 hC hN => ?_)
      dsimp only
      try simp only [awu 26 3, pe26, xs, i_load, i_loadR, i_inc, lg, lp, true_and, and_true, List.length_cons, List.length_nil, Nat.reduceAdd, Nat.reduceLeDiff, Nat.zero_le, Int.toNat_natCast, natLit, cK0, Nat.zero_add]
      have ob : 54 ≤ oof k ∧ oof k ≤ 60 := by
        unfold oof
        split
        · decide
        · split
          · decide
          · rw [if_pos (by omega)]
            decide
      have h2 := q199 hP h
      refine sp_mccopy isMc_63 (oof_c k) hN (by omega) (by omega) (fun s3 y1 f3 => ?_)
      dsimp only
      have hC3 := Cin_3 hC (fun q i hx => by rw [f3 q (by omega) (by omega) (by omega)]) y1
      try simp only [awu 26 3, pe26, xs, i_load, i_loadR, i_inc, lg, lp, true_and, and_true, List.length_cons, List.length_nil, Nat.reduceAdd, Nat.reduceLeDiff, Nat.zero_le, Int.toNat_natCast, natLit, cK0, k63, y1.1, Nat.zero_add]
      refine ⟨_, tp, a, ex, tn, D, F, M1, M2, _, L, t, fa, rfl, hC3, Pur_3 hP (pMW hP) (by omega) (Or.inl h2), fun s hs => ?_⟩
      have hM := Min_s hM hs
      refine MS_v [vr 99, vi k] rfl rfl rfl rfl ?_
      try simp only [awu 104 0, pe104, xs, i_load, i_loadR, i_inc, lg, lp, true_and, and_true, List.length_cons, List.length_nil, Nat.reduceAdd, Nat.reduceLeDiff, Nat.zero_le, Int.toNat_natCast, natLit, mK0]
      refine sp_isIn ?_
      dsimp only
      rw [if_pos (by omega)]
      try simp only [awu 104 1, pe104, xs, i_load, i_loadR, i_inc, lg, lp, true_and, and_true, List.length_cons, List.length_nil, Nat.reduceAdd, Nat.reduceLeDiff, Nat.zero_le, Int.toNat_natCast, natLit, mK0]
      refine ⟨fun h => absurd h (by decide), fun _ => ?_⟩
      refine MM hM hP (fun s2 _ hM hN _ => ?_) (fun z' => absurd z z')
      dsimp only
      rw [Int.toNat_natCast] at hN
      try simp only [awu 104 3, pe104, xs, i_load, i_loadR, i_inc, lg, lp, true_and, and_true, List.length_cons, List.length_nil, Nat.reduceAdd, Nat.reduceLeDiff, Nat.zero_le, Int.toNat_natCast, natLit, mK0]
      refine ⟨fun _ => ?_, fun h => absurd h (by decide)⟩
      refine sp_mcopy (t := 3) hN (by omega) (by decide) (by omega) (fun s4 y1 f4 => ?_)
      dsimp only
      have e3 := y1.1
      try simp only [awu 104 3, pe104, xs, i_load, i_loadR, i_inc, lg, lp, true_and, and_true, List.length_cons, List.length_nil, Nat.reduceAdd, Nat.reduceLeDiff, Nat.zero_le, Int.toNat_natCast, natLit, mK0, mK19, mL19, e3, Int.toNat_ofNat]
      exact ⟨by decide, by decide, by show vi (s4 119 3) = _; rw [e3], Min_3 hM (fun q i _ g1 g2 g3 => f4 q i (by omega) (by omega) (by omega)) y1⟩
    · rw [if_neg z]
      try simp only [awu 26 2, pe26, xs, i_load, i_loadR, i_inc, lg, lp, true_and, and_true, List.length_cons, List.length_nil, Nat.reduceAdd, Nat.reduceLeDiff, Nat.zero_le, Int.toNat_natCast, natLit, cK0]
      exact ⟨fun h => absurd trivial h, fun _ => no (fun h => z h.1)⟩
