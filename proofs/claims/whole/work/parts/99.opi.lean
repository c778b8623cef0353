/-! calls on both: state, wrong -/
theorem o_state {m x l : Int} {st : St} (il : InR l) (h : INV st) : OPr 27 106 [vi m, vi x, vi l] st := by
  obtain ⟨tp, a, ex, tn, D, F, M1, M2, M3, L, t, fa, hC, hM, hP⟩ := h
  refine opp rl3 rl3 ?_
  have ha4 := hP.2.1.2
  refine MS_v [vr 0, vi m, vi x, vi l, none] rfl rfl rfl rfl ?_
  try simp only [awu 27 0, pe27, xs, i_load, i_loadR, i_inc, lg, lp, true_and, and_true, List.length_cons, List.length_nil, Nat.reduceAdd, Nat.reduceLeDiff, Nat.zero_le, Int.toNat_natCast, natLit, cK0]
  refine sp_isThere (Cin_X hC hP) ?_
  dsimp only
  have no : ¬ (0 < (mof F tn.1 M1 M2 M3 m).1 ∧ (0 ≤ x ∧ x < (mof F tn.1 M1 M2 M3 m).1) ∧ 0 ≤ l ∧ l ≤ a) → ∀ s1 : St, Cin s1 tp a ex tn D F M1 M2 M3 L t fa → QC st 106 [vi m, vi x, vi l] (vi (-2)) s1 := by
    intro hn s1 hC
    refine ⟨_, tp, a, ex, tn, D, F, M1, M2, M3, L, t, fa, rfl, hC, hP, fun s hs => ?_⟩
    have hM := Min_s hM hs
    refine MS_v [vr 99, vi m, vi x, vi l] rfl rfl rfl rfl ?_
    try simp only [awu 106 0, pe106, xs, i_load, i_loadR, i_inc, lg, lp, true_and, and_true, List.length_cons, List.length_nil, Nat.reduceAdd, Nat.reduceLeDiff, Nat.zero_le, Int.toNat_natCast, natLit, mK0]
    refine MM hM hP (fun s2 z hM hN _ => ?_) (fun _ => ?_)
    · dsimp only
      have hr := mof_r z
      have h2 := pM2 (m := m) hP
      have e := hN.1
      have e2 := hM.2.1
      have w1 : wr (((mof F tn.1 M1 M2 M3 m).1 : Int) - 1) = ((mof F tn.1 M1 M2 M3 m).1 : Int) - 1 := wr_id (by omega) (by omega)
      try simp only [awu 106 1, pe106, xs, i_load, i_loadR, i_inc, lg, lp, true_and, and_true, List.length_cons, List.length_nil, Nat.reduceAdd, Nat.reduceLeDiff, Nat.zero_le, Int.toNat_natCast, natLit, mK0, mK19, mL19, e, w1]
      refine ⟨fun h => absurd h (by decide), fun _ => ⟨by omega, ?_⟩⟩
      refine sp_isIn ?_
      dsimp only
      by_cases zx : 0 ≤ x ∧ x ≤ ((mof F tn.1 M1 M2 M3 m).1 : Int) - 1
      · rw [if_pos zx]
        try simp only [awu 106 2, pe106, xs, i_load, i_loadR, i_inc, lg, lp, true_and, and_true, List.length_cons, List.length_nil, Nat.reduceAdd, Nat.reduceLeDiff, Nat.zero_le, Int.toNat_natCast, natLit, mK0, e2]
        refine ⟨fun h => absurd h (by decide), fun _ => ?_⟩
        refine sp_isIn ?_
        dsimp only
        rw [if_neg (fun h => hn ⟨z, by omega, h⟩)]
        try simp only [awu 106 3, pe106, xs, i_load, i_loadR, i_inc, lg, lp, true_and, and_true, List.length_cons, List.length_nil, Nat.reduceAdd, Nat.reduceLeDiff, Nat.zero_le, Int.toNat_natCast, natLit, mK0]
        exact ⟨fun h => absurd trivial h, fun _ => hM⟩
      · rw [if_neg zx]
        try simp only [awu 106 3, pe106, xs, i_load, i_loadR, i_inc, lg, lp, true_and, and_true, List.length_cons, List.length_nil, Nat.reduceAdd, Nat.reduceLeDiff, Nat.zero_le, Int.toNat_natCast, natLit, mK0]
        exact ⟨fun _ => hM, fun h => absurd trivial h⟩
    · dsimp only
      try simp only [awu 106 3, pe106, xs, i_load, i_loadR, i_inc, lg, lp, true_and, and_true, List.length_cons, List.length_nil, Nat.reduceAdd, Nat.reduceLeDiff, Nat.zero_le, Int.toNat_natCast, natLit, mK0]
      exact ⟨fun _ => hM, fun h => absurd trivial h⟩
  by_cases z : 0 < (mof F tn.1 M1 M2 M3 m).1
  · rw [if_pos z]
    obtain ⟨k, rfl, hk⟩ := mof_n z
    try simp only [awu 27 2, pe27, xs, i_load, i_loadR, i_inc, lg, lp, true_and, and_true, List.length_cons, List.length_nil, Nat.reduceAdd, Nat.reduceLeDiff, Nat.zero_le, Int.toNat_natCast, natLit, cK0, Nat.zero_add]
    refine ⟨fun _ => ?_, fun h => absurd h (by decide)⟩
    refine CM hC hP z (fun s1 hC hN => ?_)
    dsimp only
    try simp only [awu 27 2, pe27, xs, i_load, i_loadR, i_inc, lg, lp, true_and, and_true, List.length_cons, List.length_nil, Nat.reduceAdd, Nat.reduceLeDiff, Nat.zero_le, Int.toNat_natCast, natLit, cK0, Nat.zero_add]
    refine sp_mchas (oof_c k) hN.1 hN.2.1 ?_
    dsimp only
    by_cases zx : 0 ≤ x ∧ x < ((mof F tn.1 M1 M2 M3 (k : Int)).1 : Nat)
    · rw [if_pos zx]
      obtain ⟨j, rfl⟩ : ∃ j : Nat, x = j := ⟨x.toNat, by omega⟩
      have e := hC.2.1
      try simp only [awu 27 3, awu 27 4, awu 27 5, pe27, xs, i_load, i_loadR, i_inc, lg, lp, true_and, and_true, List.length_cons, List.length_nil, Nat.reduceAdd, Nat.reduceLeDiff, Nat.zero_le, Int.toNat_natCast, natLit, cK0, e]
      refine ⟨fun h => absurd h (by decide), fun _ => ⟨fun h => no (by omega) s1 hC, fun h => ⟨fun h2 => ?_, fun h2 => no (by omega) s1 hC⟩⟩⟩
      have hmo : ∀ r : Int, r = (if l = 0 then (mof F tn.1 M1 M2 M3 (k : Int)).2.1 j else fo (mof F tn.1 M1 M2 M3 (k : Int)) (j : Int) (l - 1).toNat) → QC st 106 [vi k, vi j, vi l] (vi r) s1 := by
        intro r er
        refine ⟨_, tp, a, ex, tn, D, F, M1, M2, M3, L, t, fa, rfl, hC, hP, fun s hs => ?_⟩
        have hM := Min_s hM hs
        refine MS_v [vr 99, vi k, vi j, vi l] rfl rfl rfl rfl ?_
        try simp only [awu 106 0, pe106, xs, i_load, i_loadR, i_inc, lg, lp, true_and, and_true, List.length_cons, List.length_nil, Nat.reduceAdd, Nat.reduceLeDiff, Nat.zero_le, Int.toNat_natCast, natLit, mK0]
        refine MM hM hP (fun s2 _ hM hN _ => ?_) (fun z' => absurd z z')
        dsimp only
        rw [Int.toNat_natCast] at hN
        have h2 := pM2 (m := (k : Int)) hP
        have e := hN.1
        have e2 := hM.2.1
        have w1 : wr (((mof F tn.1 M1 M2 M3 (k : Int)).1 : Int) - 1) = ((mof F tn.1 M1 M2 M3 (k : Int)).1 : Int) - 1 := wr_id (by omega) (by omega)
        try simp only [awu 106 1, pe106, xs, i_load, i_loadR, i_inc, lg, lp, true_and, and_true, List.length_cons, List.length_nil, Nat.reduceAdd, Nat.reduceLeDiff, Nat.zero_le, Int.toNat_natCast, natLit, mK0, mK19, mL19, e, w1]
        refine ⟨fun h => absurd h (by decide), fun _ => ⟨by omega, ?_⟩⟩
        refine sp_isIn ?_
        dsimp only
        rw [if_pos (by omega)]
        try simp only [awu 106 2, pe106, xs, i_load, i_loadR, i_inc, lg, lp, true_and, and_true, List.length_cons, List.length_nil, Nat.reduceAdd, Nat.reduceLeDiff, Nat.zero_le, Int.toNat_natCast, natLit, mK0, e2]
        refine ⟨fun h => absurd h (by decide), fun _ => ?_⟩
        refine sp_isIn ?_
        dsimp only
        rw [if_pos (by omega)]
        try simp only [awu 106 4, awu 106 5, awu 106 6, pe106, xs, i_load, i_loadR, i_inc, lg, lp, true_and, and_true, List.length_cons, List.length_nil, Nat.reduceAdd, Nat.reduceLeDiff, Nat.zero_le, Int.toNat_natCast, natLit, mK0]
        refine ⟨fun _ => ⟨fun hl => ?_, fun hl => ?_⟩, fun h => absurd h (by decide)⟩
        · rw [if_neg hl] at er
          have w2 : wr (l - 1) = (((l - 1).toNat : Nat) : Int) := by rw [wr_id (by omega) (by omega)]; omega
          rw [w2]
          refine sp_arrowOf hN (by omega) (Or.inr (by omega)) (by omega) ?_
          dsimp only
          try simp only [awu 106 7, pe106, xs, i_load, i_loadR, i_inc, lg, lp, true_and, and_true, List.length_cons, List.length_nil, Nat.reduceAdd, Nat.reduceLeDiff, Nat.zero_le, Int.toNat_natCast, natLit, mK0]
          exact ⟨by rw [er], hM⟩
        · have hl : l = 0 := by omega
          rw [if_pos hl] at er
          refine sp_markOf hN (by omega) (by omega) ?_
          dsimp only
          try simp only [awu 106 7, pe106, xs, i_load, i_loadR, i_inc, lg, lp, true_and, and_true, List.length_cons, List.length_nil, Nat.reduceAdd, Nat.reduceLeDiff, Nat.zero_le, Int.toNat_natCast, natLit, mK0]
          exact ⟨by rw [er], hM⟩
      obtain ⟨ko, ⟨k1, l1⟩, -⟩ := oof_c (k : Int)
      have em := hN.2.2.1 j (by omega)
      have hcap := hN.2.1
      try simp only [awu 27 6, awu 27 7, awu 27 8, awu 27 9, pe27, xs, i_load, i_loadR, i_inc, lg, lp, true_and, and_true, List.length_cons, List.length_nil, Nat.reduceAdd, Nat.reduceLeDiff, Nat.zero_le, Int.toNat_natCast, natLit, cK0, ko, k1, l1, em]
      refine ⟨fun hl => ?_, fun hl => ⟨by omega, ?_⟩⟩
      · have w2 : wr (l - 1) = (((l - 1).toNat : Nat) : Int) := by rw [wr_id (by omega) (by omega)]; omega
        rw [w2]
        refine sp_mcfollow (oof_c k) hN (pMW hP) (by omega) ?_
        dsimp only
        try simp only [awu 27 9, pe27, xs, i_load, i_loadR, i_inc, lg, lp, true_and, and_true, List.length_cons, List.length_nil, Nat.reduceAdd, Nat.reduceLeDiff, Nat.zero_le, Int.toNat_natCast, natLit, cK0]
        exact hmo _ (by rw [if_neg hl])
      · exact hmo _ (by rw [if_pos (by omega)])
    · rw [if_neg zx]
      try simp only [awu 27 5, pe27, xs, i_load, i_loadR, i_inc, lg, lp, true_and, and_true, List.length_cons, List.length_nil, Nat.reduceAdd, Nat.reduceLeDiff, Nat.zero_le, Int.toNat_natCast, natLit, cK0]
      exact ⟨fun _ => no (fun h => zx h.2.1) s1 hC, fun h => absurd trivial h⟩
  · rw [if_neg z]
    try simp only [awu 27 1, pe27, xs, i_load, i_loadR, i_inc, lg, lp, true_and, and_true, List.length_cons, List.length_nil, Nat.reduceAdd, Nat.reduceLeDiff, Nat.zero_le, Int.toNat_natCast, natLit, cK0]
    exact ⟨fun h => absurd trivial h, fun _ => no (fun h => z h.1) st hC⟩
noncomputable def wrB (N : MC) (ex : TE) (i : Nat) : Bool := !decide ((if acc N (ex.2.1 i) then (1 : Int) else 0) = ex.2.2 i)
theorem wr_T {N : MC} {ex : TE} {i : Nat} (h : (if acc N (ex.2.1 i) then (1 : Int) else 0) = ex.2.2 i) : cn (wrB N ex) (i + 1) = cn (wrB N ex) i := by
  rw [cn_s]
  unfold wrB
  rw [decide_eq_true h]
  rfl
theorem wr_F {N : MC} {ex : TE} {i : Nat} (h : ¬ (if acc N (ex.2.1 i) then (1 : Int) else 0) = ex.2.2 i) : cn (wrB N ex) (i + 1) = cn (wrB N ex) i + 1 := by
  rw [cn_s]
  have : wrB N ex i = true := by unfold wrB; rw [decide_eq_false h]; rfl
  rw [this]
  rfl
theorem o_wrong {m : Int} {st : St} (h : INV st) : OPr 32 142 [vi m] st := by
  obtain ⟨tp, a, ex, tn, D, F, M1, M2, M3, L, t, fa, hC, hM, hP⟩ := h
  refine opp rl1 rl1 ?_
  have k5 : kl 5 = 7 := rfl
  have hx40 := hP.2.2.1.1
  refine MS_v [vr 0, vi m, none, none, none] rfl rfl rfl rfl ?_
  try simp only [awu 32 0, pe32, xs, i_load, i_loadR, i_inc, lg, lp, true_and, and_true, List.length_cons, List.length_nil, Nat.reduceAdd, Nat.reduceLeDiff, Nat.zero_le, Int.toNat_natCast, natLit, cK0]
  refine sp_isThere (Cin_X hC hP) ?_
  dsimp only
  by_cases z : 0 < (mof F tn.1 M1 M2 M3 m).1
  · rw [if_pos z]
    obtain ⟨k, rfl, hk⟩ := mof_n z
    try simp only [awu 32 2, pe32, xs, i_load, i_loadR, i_inc, lg, lp, true_and, and_true, List.length_cons, List.length_nil, Nat.reduceAdd, Nat.reduceLeDiff, Nat.zero_le, Int.toNat_natCast, natLit, cK0, Nat.zero_add]
    refine ⟨fun _ => ?_, fun h => absurd h (by decide)⟩
    refine CM hC hP z (fun s1 hC hN => ?_)
    dsimp only
    try simp only [awu 32 2, pe32, xs, i_load, i_loadR, i_inc, lg, lp, true_and, and_true, List.length_cons, List.length_nil, Nat.reduceAdd, Nat.reduceLeDiff, Nat.zero_le, Int.toNat_natCast, natLit, cK0, Nat.zero_add]
    generalize hNN : mof F tn.1 M1 M2 M3 (k : Int) = N at *
    have hNW : MW a N := by rw [← hNN]; exact pMW hP
    have c2 := hC.2.2.1.1
    have key : ∀ mm i : Nat, i + mm = ex.1 → AW (P 32) (QC st 142 [vi k]) (MS 9) 0 (fun _ => 0) 3 [vr 0, vi k, vr (oof k), vi (cn (wrB N ex) i : Nat), vi i] [] s1 := by
      intro mm
      induction mm with
      | zero =>
        intro i hi
        rw [awu 32 3]
        try simp only [awu 32 7, pe32, xs, i_load, i_loadR, i_inc, lg, lp, true_and, and_true, List.length_cons, List.length_nil, Nat.reduceAdd, Nat.reduceLeDiff, Nat.zero_le, Int.toNat_natCast, natLit, cK0, k5, c2, Nat.zero_add]
        refine ⟨fun _ => ?_, fun h => by omega⟩
        have hi : i = ex.1 := by omega
        subst hi
        refine ⟨_, tp, a, ex, tn, D, F, M1, M2, M3, L, t, fa, rfl, hC, hP, fun s hs => ?_⟩
        have hM := Min_s hM hs
        refine MS_v [vr 99, vi k, none, none] rfl rfl rfl rfl ?_
        try simp only [awu 142 0, pe142, xs, i_load, i_loadR, i_inc, lg, lp, true_and, and_true, List.length_cons, List.length_nil, Nat.reduceAdd, Nat.reduceLeDiff, Nat.zero_le, Int.toNat_natCast, natLit, mK0]
        refine MM hM hP (fun s2 _ hM hN _ => ?_) (fun z' => absurd (by rw [hNN]; exact z) z')
        dsimp only
        rw [Int.toNat_natCast, hNN] at hN
        try simp only [awu 142 2, pe142, xs, i_load, i_loadR, i_inc, lg, lp, true_and, and_true, List.length_cons, List.length_nil, Nat.reduceAdd, Nat.reduceLeDiff, Nat.zero_le, Int.toNat_natCast, natLit, mK0]
        refine ⟨fun _ => ?_, fun h => absurd h (by decide)⟩
        have c8 := hM.2.2.1.1
        have key2 : ∀ mm i : Nat, i + mm = ex.1 → AW (P 142) (fun v' s2 => v' = vi (cn (wrB N ex) ex.1 : Nat) ∧ Min s2 tp a ex tn D F M1 M2 M3 L t fa) (MS 9) 0 (fun _ => 0) 3 [vr 99, vi k, vi (cn (wrB N ex) i : Nat), vi i] [] s2 := by
          intro mm
          induction mm with
          | zero =>
            intro i hi
            rw [awu 142 3]
            try simp only [awu 142 8, pe142, xs, i_load, i_loadR, i_inc, lg, lp, true_and, and_true, List.length_cons, List.length_nil, Nat.reduceAdd, Nat.reduceLeDiff, Nat.zero_le, Int.toNat_natCast, natLit, mK0, c8]
            refine ⟨fun _ => ⟨by rw [show i = ex.1 by omega], hM⟩, fun h => by omega⟩
          | succ mm ih =>
            intro i hi
            have ih := ih (i + 1) (by omega)
            obtain ⟨e1, e2, e3⟩ := hM.2.2.1.2 i (by omega)
            have hw := okw_wf (hP.2.2.2.1.2.2.2 i (by omega))
            have h01 := hP.2.2.1.2.1 i (by omega)
            have k01 : kl 101 = 50 := rfl
            have l01 : len 101 = 40 := rfl
            have k02 : kl 102 = 50 := rfl
            have l02 : len 102 = 40 := rfl
            have k03 : kl 103 = 52 := rfl
            have l03 : len 103 = 40 := rfl
            rw [awu 142 3]
            try simp only [awu 142 4, pe142, xs, i_load, i_loadR, i_inc, lg, lp, true_and, and_true, List.length_cons, List.length_nil, Nat.reduceAdd, Nat.reduceLeDiff, Nat.zero_le, Int.toNat_natCast, natLit, mK0, c8, k01, l01, k02, l02, e1, e2]
            refine ⟨fun h => by omega, fun _ => ⟨by omega, by omega, ?_⟩⟩
            refine sp_taken hN (by omega) hNW z hw ?_
            dsimp only
            try simp only [awu 142 4, awu 142 5, awu 142 6, awu 142 7, pe142, xs, i_load, i_loadR, i_inc, lg, lp, true_and, and_true, List.length_cons, List.length_nil, Nat.reduceAdd, Nat.reduceLeDiff, Nat.zero_le, Int.toNat_natCast, natLit, mK0, k03, l03, e3]
            have hc := cn_le (p := wrB N ex) i
            refine ⟨by omega, fun hb => ?_, fun hb => ?_⟩
            · rw [wr_id (by omega) (by omega), wr_id (by omega) (by omega), Int.add_zero]
              rw [wr_T hb] at ih
              exact ih
            · rw [wr_id (by omega) (by omega), wr_id (by omega) (by omega)]
              rw [wr_F hb] at ih
              exact ih
        exact key2 ex.1 0 (by omega)
      | succ mm ih =>
        intro i hi
        have ih := ih (i + 1) (by omega)
        obtain ⟨e1, e2⟩ := hC.2.2.1.2 i (by omega)
        have hw := okw_wf (hP.2.2.2.1.2.2.2 i (by omega))
        have h01 := hP.2.2.1.2.1
        rw [awu 32 3]
        try simp only [awu 32 4, pe32, xs, i_load, i_loadR, i_inc, lg, lp, true_and, and_true, List.length_cons, List.length_nil, Nat.reduceAdd, Nat.reduceLeDiff, Nat.zero_le, Int.toNat_natCast, natLit, cK0, k5, c2, Nat.zero_add]
        refine ⟨fun h => by omega, fun _ => ?_⟩
        refine sp_scode c2 hx40 ?_
        dsimp only
        rw [if_pos (by omega), Int.toNat_natCast, e1]
        try simp only [awu 32 4, pe32, xs, i_load, i_loadR, i_inc, lg, lp, true_and, and_true, List.length_cons, List.length_nil, Nat.reduceAdd, Nat.reduceLeDiff, Nat.zero_le, Int.toNat_natCast, natLit, cK0, Nat.zero_add]
        refine sp_mcacc (oof_c k) hN hNW hw ?_
        dsimp only
        try simp only [awu 32 4, pe32, xs, i_load, i_loadR, i_inc, lg, lp, true_and, and_true, List.length_cons, List.length_nil, Nat.reduceAdd, Nat.reduceLeDiff, Nat.zero_le, Int.toNat_natCast, natLit, cK0, Nat.zero_add]
        refine sp_sisIn c2 hx40 (fun j hj => by rw [(hC.2.2.1.2 j hj).2]; exact h01 j hj) ?_
        dsimp only
        rw [if_pos (by omega), Int.toNat_natCast, e2]
        try simp only [awu 32 4, awu 32 5, awu 32 6, pe32, xs, i_load, i_loadR, i_inc, lg, lp, true_and, and_true, List.length_cons, List.length_nil, Nat.reduceAdd, Nat.reduceLeDiff, Nat.zero_le, Int.toNat_natCast, natLit, cK0, Nat.zero_add]
        have hc := cn_le (p := wrB N ex) i
        refine ⟨fun hb => ?_, fun hb => ?_⟩
        · rw [wr_id (by omega) (by omega)]
          rw [wr_T hb] at ih
          exact ih
        · rw [wr_id (by omega) (by omega), wr_id (by omega) (by omega)]
          rw [wr_F hb] at ih
          exact ih
    exact key ex.1 0 (by omega)
  · rw [if_neg z]
    try simp only [awu 32 1, pe32, xs, i_load, i_loadR, i_inc, lg, lp, true_and, and_true, List.length_cons, List.length_nil, Nat.reduceAdd, Nat.reduceLeDiff, Nat.zero_le, Int.toNat_natCast, natLit, cK0]
    refine ⟨fun h => absurd trivial h, fun _ => ?_⟩
    refine ⟨_, tp, a, ex, tn, D, F, M1, M2, M3, L, t, fa, rfl, hC, hP, fun s hs => ?_⟩
    have hM := Min_s hM hs
    refine MS_v [vr 99, vi m, none, none] rfl rfl rfl rfl ?_
    try simp only [awu 142 0, pe142, xs, i_load, i_loadR, i_inc, lg, lp, true_and, and_true, List.length_cons, List.length_nil, Nat.reduceAdd, Nat.reduceLeDiff, Nat.zero_le, Int.toNat_natCast, natLit, mK0]
    refine MM hM hP (fun s2 z' _ _ _ => absurd z' z) (fun _ => ?_)
    dsimp only
    try simp only [awu 142 1, pe142, xs, i_load, i_loadR, i_inc, lg, lp, true_and, and_true, List.length_cons, List.length_nil, Nat.reduceAdd, Nat.reduceLeDiff, Nat.zero_le, Int.toNat_natCast, natLit, mK0]
    exact ⟨fun h => absurd trivial h, fun _ => hM⟩
