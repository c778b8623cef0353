/-! calls on both: both, tight -/
theorem TT_W {M : MC} {a : Nat} {T : MC} (ha : a ≤ 4) (h : TT M a T) : MW a T := by
  obtain ⟨z, h0, h1, h2, h3, -, -, h6⟩ := h
  refine ⟨fun s hs => ?_, fun i hi => ?_, h6⟩
  · rw [h2 s hs]
    split <;> omega
  · by_cases hl : i % 4 < a
    · obtain ⟨j, j1, j2, -⟩ := h3 (i / 4) (i % 4) (by omega) hl
      rw [show 4 * (i / 4) + i % 4 = i by omega] at j2
      rw [j2]
      omega
    · have := h6 (i / 4) (i % 4) (by omega) (by omega) (by omega)
      rw [show 4 * (i / 4) + i % 4 = i by omega] at this
      rw [this]
      omega
theorem TT_c {M : MC} {a : Nat} {T : MC} (h : TT M a T) : ∀ s l, s < T.1 → l < a → 0 ≤ T.2.2 (4 * s + l) := by
  intro s l hs hl
  obtain ⟨z, -, -, -, h3, -⟩ := h
  obtain ⟨j, j1, j2, -⟩ := h3 s l hs hl
  rw [j2]
  omega
theorem o_both {m x y : Int} {st : St} (h : INV st) : OPr 40 132 [vi m, vi x, vi y] st := by
  obtain ⟨tp, a, ex, tn, D, F, M1, M2, M3, L, t, fa, hC, hM, hP⟩ := h
  refine opp rl3 rl3 ?_
  have k63 : kl 63 = 2 := rfl
  have k87 : kl 87 = 4 := rfl
  refine MS_v [vr 0, vi m, vi x, vi y] rfl rfl rfl rfl ?_
  try simp only [awu 40 0, pe40, xs, i_load, i_loadR, i_inc, lg, lp, true_and, and_true, List.length_cons, List.length_nil, Nat.reduceAdd, Nat.reduceLeDiff, Nat.zero_le, Int.toNat_natCast, natLit, cK0]
  refine sp_isThere (Cin_X hC hP) ?_
  dsimp only
  have no : ¬ ((0 < (mof F tn.1 M1 M2 M3 m).1 ∧ 0 < (mof F tn.1 M1 M2 M3 x).1) ∧ 0 ≤ y ∧ y ≤ 2) → QC st 132 [vi m, vi x, vi y] (vi (-1)) st := by
    intro hn
    refine ⟨_, tp, a, ex, tn, D, F, M1, M2, M3, L, t, fa, rfl, hC, hP, fun s hs => ?_⟩
    have hM := Min_s hM hs
    refine MS_v [vr 99, vi m, vi x, vi y, none, none, none, none] rfl rfl rfl rfl ?_
    try simp only [awu 132 0, pe132, xs, i_load, i_loadR, i_inc, lg, lp, true_and, and_true, List.length_cons, List.length_nil, Nat.reduceAdd, Nat.reduceLeDiff, Nat.zero_le, Int.toNat_natCast, natLit, mK0]
    refine sp_areM hM hP (fun s2 z1 z2 hM _ _ => ?_) (fun s2 _ hM => ?_)
    · dsimp only
      try simp only [awu 132 1, pe132, xs, i_load, i_loadR, i_inc, lg, lp, true_and, and_true, List.length_cons, List.length_nil, Nat.reduceAdd, Nat.reduceLeDiff, Nat.zero_le, Int.toNat_natCast, natLit, mK0]
      refine ⟨fun h => absurd h (by decide), fun _ => ?_⟩
      refine sp_isIn ?_
      dsimp only
      rw [if_neg (fun h => hn ⟨⟨z1, z2⟩, h⟩)]
      try simp only [awu 132 2, pe132, xs, i_load, i_loadR, i_inc, lg, lp, true_and, and_true, List.length_cons, List.length_nil, Nat.reduceAdd, Nat.reduceLeDiff, Nat.zero_le, Int.toNat_natCast, natLit, mK0]
      exact ⟨fun h => absurd trivial h, fun _ => hM⟩
    · dsimp only
      try simp only [awu 132 2, pe132, xs, i_load, i_loadR, i_inc, lg, lp, true_and, and_true, List.length_cons, List.length_nil, Nat.reduceAdd, Nat.reduceLeDiff, Nat.zero_le, Int.toNat_natCast, natLit, mK0]
      exact ⟨fun _ => hM, fun h => absurd trivial h⟩
  by_cases z : 0 < (mof F tn.1 M1 M2 M3 m).1
  · rw [if_pos z]
    try simp only [awu 40 1, pe40, xs, i_load, i_loadR, i_inc, lg, lp, true_and, and_true, List.length_cons, List.length_nil, Nat.reduceAdd, Nat.reduceLeDiff, Nat.zero_le, Int.toNat_natCast, natLit, cK0]
    refine ⟨fun h => absurd h (by decide), fun _ => ?_⟩
    refine sp_isThere (Cin_X hC hP) ?_
    dsimp only
    by_cases zx : 0 < (mof F tn.1 M1 M2 M3 x).1
    · rw [if_pos zx]
      obtain ⟨k, rfl, hk⟩ := mof_n z
      obtain ⟨o, rfl, ho⟩ := mof_n zx
      try simp only [awu 40 2, awu 40 3, awu 40 4, pe40, xs, i_load, i_loadR, i_inc, lg, lp, true_and, and_true, List.length_cons, List.length_nil, Nat.reduceAdd, Nat.reduceLeDiff, Nat.zero_le, Int.toNat_natCast, natLit, cK0]
      refine ⟨fun h => absurd h (by decide), fun _ => ⟨fun h => no (by omega), fun h => ⟨fun h2 => ?_, fun h2 => no (by omega)⟩⟩⟩
      try simp only [awu 40 5, pe40, xs, i_load, i_loadR, i_inc, lg, lp, true_and, and_true, List.length_cons, List.length_nil, Nat.reduceAdd, Nat.reduceLeDiff, Nat.zero_le, Int.toNat_natCast, natLit, cK0, Nat.zero_add]
      refine CM hC hP z (fun s1 hC hN => ?_)
      dsimp only
      try simp only [awu 40 5, pe40, xs, i_load, i_loadR, i_inc, lg, lp, true_and, and_true, List.length_cons, List.length_nil, Nat.reduceAdd, Nat.reduceLeDiff, Nat.zero_le, Int.toNat_natCast, natLit, cK0, Nat.zero_add]
      refine CM2 hC hP z zx hN (fun s2 hC hN hO => ?_)
      dsimp only
      have e := hC.2.1
      try simp only [awu 40 5, pe40, xs, i_load, i_loadR, i_inc, lg, lp, true_and, and_true, List.length_cons, List.length_nil, Nat.reduceAdd, Nat.reduceLeDiff, Nat.zero_le, Int.toNat_natCast, natLit, cK0, e, Nat.zero_add]
      have ob := oof_b k
      have ob' := oof_b o
      refine sp_putTog (mo := 200) (oof_c k) (oof_c o) (by omega) (by omega) hN hO (pMW hP) (pMW hP) z zx (pM2 hP) hP.2.1.2 (by decide) (by decide) (fun s3 n y1 y2 f3 => ?_) (fun s3 n y1 f3 => ?_)
      · dsimp only
        have hC := Cin_congr (st' := s3) hC (fun q i hr => f3 q i (by unfold rC at hr; omega))
        try simp only [awu 40 7, pe40, xs, i_load, i_loadR, i_inc, lg, lp, true_and, and_true, List.length_cons, List.length_nil, Nat.reduceAdd, Nat.reduceLeDiff, Nat.zero_le, Int.toNat_natCast, natLit, cK0, k87, Nat.zero_add]
        refine ⟨fun _ => ?_, fun h => absurd h (by decide)⟩
        have hn := Fin_le y1 (by decide)
        refine sp_mccopy isMc_63 isMc_88 y2 (by show n ≤ 201; omega) (by decide) (fun s5 g1 f5 => ?_)
        dsimp only
        have hC := Cin_3 hC (fun q i hx => by rw [f5 q (by omega) (by omega) (by omega)]) g1
        have e6 : s5 63 2 = (n : Nat) := g1.1
        try simp only [awu 40 7, pe40, xs, i_load, i_loadR, i_inc, lg, lp, true_and, and_true, List.length_cons, List.length_nil, Nat.reduceAdd, Nat.reduceLeDiff, Nat.zero_le, Int.toNat_natCast, natLit, cK0, k63, e6, Nat.zero_add]
        refine ⟨_, tp, a, ex, tn, D, F, M1, M2, _, L, t, fa, rfl, hC, Pur_3 hP (btM_W (pMW hP) (pMW hP) hP.2.1.2 z zx y1) hn (Or.inr (fun s l hs hl => ?_)), fun s hs => ?_⟩
        · rw [btM_a, if_pos (by omega)]
          omega
        · have hM := Min_s hM hs
          refine MS_v [vr 99, vi k, vi o, vi y, none, none, none, none] rfl rfl rfl rfl ?_
          try simp only [awu 132 0, pe132, xs, i_load, i_loadR, i_inc, lg, lp, true_and, and_true, List.length_cons, List.length_nil, Nat.reduceAdd, Nat.reduceLeDiff, Nat.zero_le, Int.toNat_natCast, natLit, mK0]
          refine sp_areM hM hP (fun s2 _ _ hM hN hO => ?_) (fun s2 z' _ => absurd ⟨z, zx⟩ z')
          dsimp only
          rw [Int.toNat_natCast] at hN hO
          try simp only [awu 132 1, pe132, xs, i_load, i_loadR, i_inc, lg, lp, true_and, and_true, List.length_cons, List.length_nil, Nat.reduceAdd, Nat.reduceLeDiff, Nat.zero_le, Int.toNat_natCast, natLit, mK0]
          refine ⟨fun h => absurd h (by decide), fun _ => ?_⟩
          refine sp_isIn ?_
          dsimp only
          rw [if_pos (by omega)]
          try simp only [pe132, xs, i_load, i_loadR, i_inc, lg, lp, true_and, and_true, List.length_cons, List.length_nil, Nat.reduceAdd, Nat.reduceLeDiff, Nat.zero_le, Int.toNat_natCast, natLit, mK0]
          refine ⟨fun _ => ?_, fun h => absurd h (by decide)⟩
          refine sp_mboth hk ho hN hO (pMW hP) (pMW hP) z zx hP.2.1.2 hM.2.1 (fun s4 n' w1 w2 w3 => ?_) (fun s4 j w1 _ => (Fin_Ovf (by decide) y1 w1).elim)
          have en := Fin_u w1 y1
          subst en
          exact ⟨rfl, Min_3 (Min_congr (st' := fun q i => if q = 99 ∧ i = 52 then s4 q i else s2 q i) hM (fun q i hr => by
            show (if q = 99 ∧ i = 52 then s4 q i else s2 q i) = s2 q i
            rw [if_neg (by unfold rM at hr; omega)])) (fun q i g0 g1 g2 g3 => by
            show s4 q i = (if q = 99 ∧ i = 52 then s4 q i else s2 q i)
            by_cases zz : q = 99 ∧ i = 52
            · rw [if_pos zz]
            · rw [if_neg zz]
              exact w3 q i zz (by omega) (by omega) (by omega) (by omega)) w2⟩
      · dsimp only
        try simp only [awu 40 6, pe40, xs, i_load, i_loadR, i_inc, lg, lp, true_and, and_true, List.length_cons, List.length_nil, Nat.reduceAdd, Nat.reduceLeDiff, Nat.zero_le, Int.toNat_natCast, natLit, cK0, Nat.zero_add]
        refine ⟨fun h => absurd trivial h, fun _ => ?_⟩
        refine ⟨_, tp, a, ex, tn, D, F, M1, M2, M3, L, t, fa, rfl, Cin_congr hC (fun q i hr => f3 q i (by unfold rC at hr; omega)), hP, fun s hs => ?_⟩
        have hM := Min_s hM hs
        refine MS_v [vr 99, vi k, vi o, vi y, none, none, none, none] rfl rfl rfl rfl ?_
        try simp only [awu 132 0, pe132, xs, i_load, i_loadR, i_inc, lg, lp, true_and, and_true, List.length_cons, List.length_nil, Nat.reduceAdd, Nat.reduceLeDiff, Nat.zero_le, Int.toNat_natCast, natLit, mK0]
        refine sp_areM hM hP (fun s2 _ _ hM hN hO => ?_) (fun s2 z' _ => absurd ⟨z, zx⟩ z')
        dsimp only
        rw [Int.toNat_natCast] at hN hO
        try simp only [awu 132 1, pe132, xs, i_load, i_loadR, i_inc, lg, lp, true_and, and_true, List.length_cons, List.length_nil, Nat.reduceAdd, Nat.reduceLeDiff, Nat.zero_le, Int.toNat_natCast, natLit, mK0]
        refine ⟨fun h => absurd h (by decide), fun _ => ?_⟩
        refine sp_isIn ?_
        dsimp only
        rw [if_pos (by omega)]
        try simp only [pe132, xs, i_load, i_loadR, i_inc, lg, lp, true_and, and_true, List.length_cons, List.length_nil, Nat.reduceAdd, Nat.reduceLeDiff, Nat.zero_le, Int.toNat_natCast, natLit, mK0]
        refine ⟨fun _ => ?_, fun h => absurd h (by decide)⟩
        exact sp_mboth hk ho hN hO (pMW hP) (pMW hP) z zx hP.2.1.2 hM.2.1 (fun s4 n' w1 w2 w3 => (Fin_Ovf (by decide) w1 y1).elim) (fun s4 j w1 w3 => ⟨rfl, Min_congr hM (fun q i hr => w3 q i (by unfold rM at hr; omega) (by unfold rM at hr; omega) (by unfold rM at hr; omega) (by unfold rM at hr; omega) (by unfold rM at hr; omega))⟩)
    · rw [if_neg zx]
      try simp only [awu 40 4, pe40, xs, i_load, i_loadR, i_inc, lg, lp, true_and, and_true, List.length_cons, List.length_nil, Nat.reduceAdd, Nat.reduceLeDiff, Nat.zero_le, Int.toNat_natCast, natLit, cK0]
      exact ⟨fun _ => no (fun h => zx h.1.2), fun h => absurd trivial h⟩
  · rw [if_neg z]
    try simp only [awu 40 4, pe40, xs, i_load, i_loadR, i_inc, lg, lp, true_and, and_true, List.length_cons, List.length_nil, Nat.reduceAdd, Nat.reduceLeDiff, Nat.zero_le, Int.toNat_natCast, natLit, cK0]
    exact ⟨fun _ => no (fun h => z h.1.1), fun h => absurd trivial h⟩
theorem o_tight {m : Int} {st : St} (h : INV st) : OPr 39 139 [vi m] st := by
  obtain ⟨tp, a, ex, tn, D, F, M1, M2, M3, L, t, fa, hC, hM, hP⟩ := h
  refine opp rl1 rl1 ?_
  have k63 : kl 63 = 2 := rfl
  refine MS_v [vr 0, vi m] rfl rfl rfl rfl ?_
  try simp only [awu 39 0, pe39, xs, i_load, i_loadR, i_inc, lg, lp, true_and, and_true, List.length_cons, List.length_nil, Nat.reduceAdd, Nat.reduceLeDiff, Nat.zero_le, Int.toNat_natCast, natLit, cK0]
  refine sp_isThere (Cin_X hC hP) ?_
  dsimp only
  by_cases z : 0 < (mof F tn.1 M1 M2 M3 m).1
  · rw [if_pos z]
    obtain ⟨k, rfl, hk⟩ := mof_n z
    try simp only [awu 39 2, pe39, xs, i_load, i_loadR, i_inc, lg, lp, true_and, and_true, List.length_cons, List.length_nil, Nat.reduceAdd, Nat.reduceLeDiff, Nat.zero_le, Int.toNat_natCast, natLit, cK0, Nat.zero_add]
    refine ⟨fun _ => ?_, fun h => absurd h (by decide)⟩
    refine CM hC hP z (fun s1 hC hN => ?_)
    dsimp only
    have e := hC.2.1
    try simp only [awu 39 2, pe39, xs, i_load, i_loadR, i_inc, lg, lp, true_and, and_true, List.length_cons, List.length_nil, Nat.reduceAdd, Nat.reduceLeDiff, Nat.zero_le, Int.toNat_natCast, natLit, cK0, e, Nat.zero_add]
    have ob := oof_b k
    refine sp_shrink (oof_c k) (by omega) hN (pMW hP) z (pM2 hP) hP.2.1.2 (fun s3 n kk y0 y1 y2 y3 y4 f3 => ?_)
    dsimp only
    have hC := Cin_congr (st' := s3) hC (fun q i hr => by rw [f3 q (by unfold rC at hr; omega)])
    have e := hC.2.1
    try simp only [awu 39 2, pe39, xs, i_load, i_loadR, i_inc, lg, lp, true_and, and_true, List.length_cons, List.length_nil, Nat.reduceAdd, Nat.reduceLeDiff, Nat.zero_le, Int.toNat_natCast, natLit, cK0, e, Nat.zero_add]
    refine sp_tellShr hP.2.1.2 y1 (btM_W (pMW hP) (pMW hP) hP.2.1.2 z z y0) y2 y3 y4 (fun s5 T w1 w2 w3 f5 => ?_)
    dsimp only
    have hC := Cin_3 hC (fun q i hx => by rw [f5 q (by omega) (by omega) (by omega)]) w3
    try simp only [awu 39 2, pe39, xs, i_load, i_loadR, i_inc, lg, lp, true_and, and_true, List.length_cons, List.length_nil, Nat.reduceAdd, Nat.reduceLeDiff, Nat.zero_le, Int.toNat_natCast, natLit, cK0, k63, w3.1, Nat.zero_add]
    have hT : T.1 ≤ 200 := by
      rw [w2]
      exact pcap hP z _ (KD_NC y1 y2)
    refine ⟨_, tp, a, ex, tn, D, F, M1, M2, T, L, t, fa, rfl, hC, Pur_3 hP (TT_W hP.2.1.2 w1) hT (Or.inr (TT_c w1)), fun s hs => ?_⟩
    have hM := Min_s hM hs
    refine MS_v [vr 99, vi k, none, none, none, none, none] rfl rfl rfl rfl ?_
    try simp only [awu 139 0, pe139, xs, i_load, i_loadR, i_inc, lg, lp, true_and, and_true, List.length_cons, List.length_nil, Nat.reduceAdd, Nat.reduceLeDiff, Nat.zero_le, Int.toNat_natCast, natLit, mK0]
    refine MM hM hP (fun s2 _ hM hN _ => ?_) (fun z' => absurd z z')
    dsimp only
    rw [Int.toNat_natCast] at hN
    try simp only [pe139, xs, i_load, i_loadR, i_inc, lg, lp, true_and, and_true, List.length_cons, List.length_nil, Nat.reduceAdd, Nat.reduceLeDiff, Nat.zero_le, Int.toNat_natCast, natLit, mK0]
    refine ⟨fun _ => ?_, fun h => absurd h (by decide)⟩
    refine sp_mtight hN hk (pMW hP) hP.2.1.2 z hM.2.1 (pcap hP z) (fun s4 T' v1 v2 f4 => ?_)
    obtain ⟨u1, u2, u3⟩ := TT_u w1 v1
    refine ⟨by rw [u1], Min_3 hM (fun q i g0 g1 g2 g3 => f4 q i (by omega) (by omega) (by omega) (by omega)) ⟨?_, hT, fun s hs => ?_, fun i hi => ?_⟩⟩
    · rw [u1]
      exact v2.1
    · rw [u2 s hs]
      exact v2.2.2.1 s (by omega)
    · rw [u3 i hi]
      exact v2.2.2.2 i (by omega)
  · rw [if_neg z]
    try simp only [awu 39 1, pe39, xs, i_load, i_loadR, i_inc, lg, lp, true_and, and_true, List.length_cons, List.length_nil, Nat.reduceAdd, Nat.reduceLeDiff, Nat.zero_le, Int.toNat_natCast, natLit, cK0]
    refine ⟨fun h => absurd trivial h, fun _ => ?_⟩
    refine ⟨_, tp, a, ex, tn, D, F, M1, M2, M3, L, t, fa, rfl, hC, hP, fun s hs => ?_⟩
    have hM := Min_s hM hs
    refine MS_v [vr 99, vi m, none, none, none, none, none] rfl rfl rfl rfl ?_
    try simp only [awu 139 0, pe139, xs, i_load, i_loadR, i_inc, lg, lp, true_and, and_true, List.length_cons, List.length_nil, Nat.reduceAdd, Nat.reduceLeDiff, Nat.zero_le, Int.toNat_natCast, natLit, mK0]
    refine MM hM hP (fun s2 z' _ _ _ => absurd z' z) (fun _ => ?_)
    dsimp only
    try simp only [awu 139 1, pe139, xs, i_load, i_loadR, i_inc, lg, lp, true_and, and_true, List.length_cons, List.length_nil, Nat.reduceAdd, Nat.reduceLeDiff, Nat.zero_le, Int.toNat_natCast, natLit, mK0]
    exact ⟨fun h => absurd trivial h, fun _ => hM⟩
