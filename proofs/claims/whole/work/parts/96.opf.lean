/-! takes, on both -/
theorem o_takes {m : Int} {st : St} (h : INV st) : OPr 29 108 [vi m] st := by
  obtain ⟨tp, a, ex, tn, D, F, M1, M2, M3, L, t, fa, hC, hM, hP⟩ := h
  refine opp rl1 rl1 ?_
  have hP0 := Pur_0 hP
  refine MS_v [vr 0, vi m, none] rfl rfl rfl rfl ?_
  try simp only [awu 29 0, pe29, xs, i_load, i_loadR, i_inc, lg, lp, true_and, and_true, List.length_cons, List.length_nil, Nat.reduceAdd, Nat.reduceLeDiff, Nat.zero_le, Int.toNat_natCast, natLit, cK0]
  refine CT hC hP (fun hC => ?_)
  dsimp only
  cases ew : wo tp.2 a tp.1 with
  | none =>
    try simp only [awu 29 0, pe29, xs, i_load, i_loadR, i_inc, lg, lp, true_and, and_true, List.length_cons, List.length_nil, Nat.reduceAdd, Nat.reduceLeDiff, Nat.zero_le, Int.toNat_natCast, natLit, cK0, woN]
    refine sp_isThere (Cin_X hC hP0) ?_
    dsimp only
    have mo : ∀ r : Int, (∀ (s2 : St), Min s2 (0, tp.2) a ex tn D F M1 M2 M3 L t fa → 0 < (mof F tn.1 M1 M2 M3 m).1 → r = -2) → (¬ 0 < (mof F tn.1 M1 M2 M3 m).1 → r = -1) → QC st 108 [vi m] (vi r) (up2 st 1 1 0) := by
      intro r r1 r2
      refine ⟨_, (0, tp.2), a, ex, tn, D, F, M1, M2, M3, L, t, fa, rfl, hC, hP0, fun s hs => ?_⟩
      have hM := Min_s hM hs
      refine MS_v [vr 99, vi m, none] rfl rfl rfl rfl ?_
      try simp only [awu 108 0, pe108, xs, i_load, i_loadR, i_inc, lg, lp, true_and, and_true, List.length_cons, List.length_nil, Nat.reduceAdd, Nat.reduceLeDiff, Nat.zero_le, Int.toNat_natCast, natLit, mK0]
      refine MTp hM hP (fun w s2 ew' => by rw [ew] at ew'; cases ew') (fun s2 _ hM => ?_)
      dsimp only
      try simp only [awu 108 0, pe108, xs, i_load, i_loadR, i_inc, lg, lp, true_and, and_true, List.length_cons, List.length_nil, Nat.reduceAdd, Nat.reduceLeDiff, Nat.zero_le, Int.toNat_natCast, natLit, mK0]
      refine MM hM hP0 (fun s3 z hM3 hN _ => ?_) (fun z => ?_)
      · dsimp only
        try simp only [awu 108 2, awu 108 6, awu 108 7, pe108, xs, i_load, i_loadR, i_inc, lg, lp, true_and, and_true, List.length_cons, List.length_nil, Nat.reduceAdd, Nat.reduceLeDiff, Nat.zero_le, Int.toNat_natCast, natLit, mK0]
        refine ⟨fun _ => ⟨fun _ => ⟨by rw [r1 s3 hM3 z], hM3⟩, fun h => absurd trivial h⟩, fun h => absurd h (by decide)⟩
      · dsimp only
        try simp only [awu 108 1, pe108, xs, i_load, i_loadR, i_inc, lg, lp, true_and, and_true, List.length_cons, List.length_nil, Nat.reduceAdd, Nat.reduceLeDiff, Nat.zero_le, Int.toNat_natCast, natLit, mK0]
        exact ⟨fun h => absurd trivial h, fun _ => ⟨by rw [r2 z], hM⟩⟩
    by_cases z : 0 < (mof F tn.1 M1 M2 M3 m).1
    · rw [if_pos z]
      try simp only [awu 29 2, awu 29 3, pe29, xs, i_load, i_loadR, i_inc, lg, lp, true_and, and_true, List.length_cons, List.length_nil, Nat.reduceAdd, Nat.reduceLeDiff, Nat.zero_le, Int.toNat_natCast, natLit, cK0, woN]
      exact ⟨fun _ => ⟨fun h => absurd trivial h, fun _ => mo _ (fun _ _ _ => rfl) (fun h => absurd z h)⟩, fun h => absurd h (by decide)⟩
    · rw [if_neg z]
      try simp only [awu 29 1, pe29, xs, i_load, i_loadR, i_inc, lg, lp, true_and, and_true, List.length_cons, List.length_nil, Nat.reduceAdd, Nat.reduceLeDiff, Nat.zero_le, Int.toNat_natCast, natLit, cK0]
      exact ⟨fun h => absurd trivial h, fun _ => mo _ (fun _ _ h => absurd h z) (fun _ => rfl)⟩
  | some w =>
    have hw := okw_wf (wo_ok hP.2.1.2 ew)
    try simp only [awu 29 0, pe29, xs, i_load, i_loadR, i_inc, lg, lp, true_and, and_true, List.length_cons, List.length_nil, Nat.reduceAdd, Nat.reduceLeDiff, Nat.zero_le, Int.toNat_natCast, natLit, cK0, woS]
    refine sp_isThere (Cin_X hC hP0) ?_
    dsimp only
    by_cases z : 0 < (mof F tn.1 M1 M2 M3 m).1
    · rw [if_pos z]
      obtain ⟨k, rfl, hk⟩ := mof_n z
      try simp only [awu 29 2, pe29, xs, i_load, i_loadR, i_inc, lg, lp, true_and, and_true, List.length_cons, List.length_nil, Nat.reduceAdd, Nat.reduceLeDiff, Nat.zero_le, Int.toNat_natCast, natLit, cK0, woS]
      refine ⟨fun _ => ⟨fun _ => ?_, fun h => by omega⟩, fun h => absurd h (by decide)⟩
      try simp only [awu 29 4, pe29, xs, i_load, i_loadR, i_inc, lg, lp, true_and, and_true, List.length_cons, List.length_nil, Nat.reduceAdd, Nat.reduceLeDiff, Nat.zero_le, Int.toNat_natCast, natLit, cK0, woS]
      refine CM hC hP0 z (fun s1 hC hN => ?_)
      dsimp only
      try simp only [awu 29 4, pe29, xs, i_load, i_loadR, i_inc, lg, lp, true_and, and_true, List.length_cons, List.length_nil, Nat.reduceAdd, Nat.reduceLeDiff, Nat.zero_le, Int.toNat_natCast, natLit, cK0, woS]
      refine sp_mcacc (oof_c k) hN (pMW hP) hw ?_
      dsimp only
      have mo : ∀ r : Int, r = (if acc (mof F tn.1 M1 M2 M3 (k : Int)) w then 1 else 0) → QC st 108 [vi k] (vi r) s1 := by
        intro r er
        refine ⟨_, (0, tp.2), a, ex, tn, D, F, M1, M2, M3, L, t, fa, rfl, hC, hP0, fun s hs => ?_⟩
        have hM := Min_s hM hs
        refine MS_v [vr 99, vi k, none] rfl rfl rfl rfl ?_
        try simp only [awu 108 0, pe108, xs, i_load, i_loadR, i_inc, lg, lp, true_and, and_true, List.length_cons, List.length_nil, Nat.reduceAdd, Nat.reduceLeDiff, Nat.zero_le, Int.toNat_natCast, natLit, mK0]
        refine MTp hM hP (fun w' s2 ew' e3 e4 hM => ?_) (fun s2 ew' => by rw [ew] at ew'; cases ew')
        rw [ew] at ew'
        cases ew'
        dsimp only
        try simp only [awu 108 0, pe108, xs, i_load, i_loadR, i_inc, lg, lp, true_and, and_true, List.length_cons, List.length_nil, Nat.reduceAdd, Nat.reduceLeDiff, Nat.zero_le, Int.toNat_natCast, natLit, mK0]
        refine MM hM hP0 (fun s3 _ hM hN f3 => ?_) (fun z' => absurd z z')
        dsimp only
        rw [Int.toNat_natCast] at hN
        have e3 : s3 99 3 = (wl w : Nat) := (f3 99 3 (by decide) (by omega) (by omega) (by omega)).trans e3
        have e4 : s3 99 4 = (wc w : Nat) := (f3 99 4 (by decide) (by omega) (by omega) (by omega)).trans e4
        try simp only [awu 108 2, awu 108 3, pe108, xs, i_load, i_loadR, i_inc, lg, lp, true_and, and_true, List.length_cons, List.length_nil, Nat.reduceAdd, Nat.reduceLeDiff, Nat.zero_le, Int.toNat_natCast, natLit, mK0, e3, e4]
        refine ⟨fun _ => ⟨fun h => absurd h (by decide), fun _ => ?_⟩, fun h => absurd h (by decide)⟩
        refine sp_taken hN (by omega) (pMW hP) z hw ?_
        dsimp only
        by_cases za : acc (mof F tn.1 M1 M2 M3 (k : Int)) w = true
        · rw [if_pos za]
          rw [if_pos za] at er
          try simp only [awu 108 4, awu 108 7, pe108, xs, i_load, i_loadR, i_inc, lg, lp, true_and, and_true, List.length_cons, List.length_nil, Nat.reduceAdd, Nat.reduceLeDiff, Nat.zero_le, Int.toNat_natCast, natLit, mK0]
          exact ⟨fun h => absurd h (by decide), fun _ => ⟨by rw [er], hM⟩⟩
        · rw [if_neg za]
          rw [if_neg za] at er
          try simp only [awu 108 5, awu 108 7, pe108, xs, i_load, i_loadR, i_inc, lg, lp, true_and, and_true, List.length_cons, List.length_nil, Nat.reduceAdd, Nat.reduceLeDiff, Nat.zero_le, Int.toNat_natCast, natLit, mK0]
          exact ⟨fun _ => ⟨by rw [er], hM⟩, fun h => absurd trivial h⟩
      by_cases za : acc (mof F tn.1 M1 M2 M3 (k : Int)) w = true
      · rw [if_pos za] at mo ⊢
        try simp only [awu 29 5, awu 29 7, pe29, xs, i_load, i_loadR, i_inc, lg, lp, true_and, and_true, List.length_cons, List.length_nil, Nat.reduceAdd, Nat.reduceLeDiff, Nat.zero_le, Int.toNat_natCast, natLit, cK0]
        exact ⟨fun h => absurd h (by decide), fun _ => mo _ rfl⟩
      · rw [if_neg za] at mo ⊢
        try simp only [awu 29 6, awu 29 7, pe29, xs, i_load, i_loadR, i_inc, lg, lp, true_and, and_true, List.length_cons, List.length_nil, Nat.reduceAdd, Nat.reduceLeDiff, Nat.zero_le, Int.toNat_natCast, natLit, cK0]
        exact ⟨fun _ => mo _ rfl, fun h => absurd trivial h⟩
    · rw [if_neg z]
      try simp only [awu 29 1, pe29, xs, i_load, i_loadR, i_inc, lg, lp, true_and, and_true, List.length_cons, List.length_nil, Nat.reduceAdd, Nat.reduceLeDiff, Nat.zero_le, Int.toNat_natCast, natLit, cK0]
      refine ⟨fun h => absurd trivial h, fun _ => ?_⟩
      refine ⟨_, (0, tp.2), a, ex, tn, D, F, M1, M2, M3, L, t, fa, rfl, hC, hP0, fun s hs => ?_⟩
      have hM := Min_s hM hs
      refine MS_v [vr 99, vi m, none] rfl rfl rfl rfl ?_
      try simp only [awu 108 0, pe108, xs, i_load, i_loadR, i_inc, lg, lp, true_and, and_true, List.length_cons, List.length_nil, Nat.reduceAdd, Nat.reduceLeDiff, Nat.zero_le, Int.toNat_natCast, natLit, mK0]
      refine MTp hM hP (fun w' s2 ew' e3 e4 hM => ?_) (fun s2 ew' => by rw [ew] at ew'; cases ew')
      dsimp only
      try simp only [awu 108 0, pe108, xs, i_load, i_loadR, i_inc, lg, lp, true_and, and_true, List.length_cons, List.length_nil, Nat.reduceAdd, Nat.reduceLeDiff, Nat.zero_le, Int.toNat_natCast, natLit, mK0]
      refine MM hM hP0 (fun s3 z' _ _ _ => absurd z' z) (fun _ => ?_)
      dsimp only
      try simp only [awu 108 1, pe108, xs, i_load, i_loadR, i_inc, lg, lp, true_and, and_true, List.length_cons, List.length_nil, Nat.reduceAdd, Nat.reduceLeDiff, Nat.zero_le, Int.toNat_natCast, natLit, mK0]
      exact ⟨fun h => absurd trivial h, fun _ => hM⟩
