/-! calls on both: steps, learning, what was done -/
theorem LB_n {p : Nat → Bool} {n b : Nat} {r : Int} (h : LB p n 0 r) (hb : b < n) (hp : p b = true) : r ≠ -1 := by
  rcases h with ⟨_, h⟩ | ⟨k, hk, _⟩
  · have := h b (Nat.zero_le _) hb
    rw [hp] at this
    cases this
  · omega
theorem LB_y {p : Nat → Bool} {n : Nat} {r : Int} (h : LB p n 0 r) (hc : cn p n = 0) : r = -1 := by
  rcases h with ⟨h, _⟩ | ⟨k, hk, _, h2, h3, _⟩
  · exact h
  · have := cn_pos (p := p) h2 h3
    omega
theorem o_step {w : Int} {st : St} (h : INV st) : OPr 14 94 [vi w] st := by
  obtain ⟨tp, a, ex, tn, D, F, M1, M2, M3, L, t, fa, hC, hM, hP⟩ := h
  refine opp rl1 rl1 ?_
  have k13 : kl 13 = 1 := rfl
  have k14 : kl 14 = 0 := rfl
  have hn := hP.2.2.2.1.1
  refine MS_v [vr 0, vi w] rfl rfl rfl rfl ?_
  try simp only [awu 14 0, pe14, xs, i_load, i_loadR, i_inc, lg, lp, true_and, and_true, List.length_cons, List.length_nil, Nat.reduceAdd, Nat.reduceLeDiff, Nat.zero_le, Int.toNat_natCast, natLit, cK0]
  refine sp_isWay ?_
  dsimp only
  by_cases z : 0 ≤ w ∧ w ≤ 2
  · rw [if_pos z]
    try simp only [awu 14 2, pe14, xs, i_load, i_loadR, i_inc, lg, lp, true_and, and_true, List.length_cons, List.length_nil, Nat.reduceAdd, Nat.reduceLeDiff, Nat.zero_le, Int.toNat_natCast, natLit, cK0, Nat.zero_add]
    refine ⟨fun _ => ?_, fun h => absurd h (by decide)⟩
    have hL5 := hC.2.2.2.2.1
    refine sp_paint isLn_13 hn hL5.1 hL5.2.1 (fun s1 y1 y2 y3 => ?_)
    dsimp only
    have hC := Cin_congr (st' := s1) hC (fun q i hr => y3 q i (by unfold rC at hr; omega) (by unfold rC at hr; omega) (by unfold rC at hr; omega) (by unfold rC at hr; omega))
    have hL5 := hC.2.2.2.2.1
    have e10 := hL5.2.2.2.1
    have e9 := y1.2.1
    try simp only [awu 14 2, awu 14 3, awu 14 4, awu 14 5, pe14, xs, i_load, i_loadR, i_inc, lg, lp, true_and, and_true, List.length_cons, List.length_nil, Nat.reduceAdd, Nat.reduceLeDiff, Nat.zero_le, Int.toNat_natCast, natLit, cK0, k13, e9, e10, Nat.zero_add]
    refine ⟨fun hb => ⟨fun h200 => ?_, fun h200 => ?_⟩, fun hb => ?_⟩
    · obtain ⟨b, hb1, hb2⟩ : ∃ b, b < tn.1 ∧ blB F tn.1 b = true := cn_ex (fun h => hb (by rw [h]; rfl))
      try simp only [awu 14 6, pe14, xs, i_load, i_loadR, i_inc, lg, lp, true_and, and_true, List.length_cons, List.length_nil, Nat.reduceAdd, Nat.reduceLeDiff, Nat.zero_le, Int.toNat_natCast, natLit, cK0, k13, Nat.zero_add]
      refine sp_doStep isLn_13 hn hL5 y1 (by omega) hb1 hb2 (fun s2 v1 v2 => ?_)
      dsimp only
      have e10' := v1.1.2.2.2.1
      try simp only [awu 14 6, pe14, xs, i_load, i_loadR, i_inc, lg, lp, true_and, and_true, List.length_cons, List.length_nil, Nat.reduceAdd, Nat.reduceLeDiff, Nat.zero_le, Int.toNat_natCast, natLit, cK0, k13, k14, e10', Nat.zero_add, Nat.reduceAdd]
      refine ⟨_, tp, a, ex, tn, _, _, M1, M2, M3, L, t, fa, rfl, Cin_D hC v1 (fun q hq => v2.1 q (by omega)), Pur_D hP v1, fun s hs => ?_⟩
      have hM := Min_s hM hs
      obtain ⟨g1, g2, g3, g4, g6, g7, g8⟩ := id hM.2.2.2.2.1
      refine MS_v [vr 99, vi w] rfl rfl rfl rfl ?_
      try simp only [awu 94 0, pe94, xs, i_load, i_loadR, i_inc, lg, lp, true_and, and_true, List.length_cons, List.length_nil, Nat.reduceAdd, Nat.reduceLeDiff, Nat.zero_le, Int.toNat_natCast, natLit, mK0]
      refine sp_isHow ?_
      dsimp only
      rw [if_pos z]
      try simp only [awu 94 2, pe94, xs, i_load, i_loadR, i_inc, lg, lp, true_and, and_true, List.length_cons, List.length_nil, Nat.reduceAdd, Nat.reduceLeDiff, Nat.zero_le, Int.toNat_natCast, natLit, mK0]
      refine ⟨fun _ => ?_, fun h => absurd h (by decide)⟩
      refine sp_lblue (fr := 0) hn hP.2.1.2 g1 g2 g3 (by omega) (fun r hr => ?_)
      dsimp only
      try simp only [awu 94 2, awu 94 4, pe94, xs, i_load, i_loadR, i_inc, lg, lp, true_and, and_true, List.length_cons, List.length_nil, Nat.reduceAdd, Nat.reduceLeDiff, Nat.zero_le, Int.toNat_natCast, natLit, mK0, g7]
      refine ⟨fun _ => ⟨fun _ => ?_, fun h => by omega⟩, fun hr1 => ?_⟩
      · try simp only [awu 94 6, pe94, xs, i_load, i_loadR, i_inc, lg, lp, true_and, and_true, List.length_cons, List.length_nil, Nat.reduceAdd, Nat.reduceLeDiff, Nat.zero_le, Int.toNat_natCast, natLit, mK0]
        refine sp_stepNow hn hP.2.1.2 hM.2.2.2.2.1 (by omega) z hb1 hb2 (fun s4 u1 u2 => ?_)
        dsimp only
        try simp only [awu 94 6, awu 94 7, pe94, xs, i_load, i_loadR, i_inc, lg, lp, true_and, and_true, List.length_cons, List.length_nil, Nat.reduceAdd, Nat.reduceLeDiff, Nat.zero_le, Int.toNat_natCast, natLit, mK0]
        exact Min_D hM u1 u2
      · have hr1 : r = -1 := by omega
        exact absurd hr1 (LB_n hr hb1 hb2)
    · refine ⟨_, tp, a, ex, tn, D, F, M1, M2, M3, L, t, fa, rfl, hC, hP, fun s hs => ?_⟩
      have hM := Min_s hM hs
      obtain ⟨g1, g2, g3, g4, g6, g7, g8⟩ := id hM.2.2.2.2.1
      refine MS_v [vr 99, vi w] rfl rfl rfl rfl ?_
      try simp only [awu 94 0, pe94, xs, i_load, i_loadR, i_inc, lg, lp, true_and, and_true, List.length_cons, List.length_nil, Nat.reduceAdd, Nat.reduceLeDiff, Nat.zero_le, Int.toNat_natCast, natLit, mK0]
      refine sp_isHow ?_
      dsimp only
      rw [if_pos z]
      try simp only [awu 94 2, pe94, xs, i_load, i_loadR, i_inc, lg, lp, true_and, and_true, List.length_cons, List.length_nil, Nat.reduceAdd, Nat.reduceLeDiff, Nat.zero_le, Int.toNat_natCast, natLit, mK0]
      refine ⟨fun _ => ?_, fun h => absurd h (by decide)⟩
      refine sp_lblue (fr := 0) hn hP.2.1.2 g1 g2 g3 (by omega) (fun r hr => ?_)
      dsimp only
      try simp only [awu 94 2, awu 94 4, awu 94 5, awu 94 7, pe94, xs, i_load, i_loadR, i_inc, lg, lp, true_and, and_true, List.length_cons, List.length_nil, Nat.reduceAdd, Nat.reduceLeDiff, Nat.zero_le, Int.toNat_natCast, natLit, mK0, g7]
      refine ⟨fun _ => ⟨fun h => by omega, fun _ => hM⟩, fun hr1 => ?_⟩
      have hr1 : r = -1 := by omega
      obtain ⟨b, hb1, hb2⟩ : ∃ b, b < tn.1 ∧ blB F tn.1 b = true := cn_ex (fun h => hb (by rw [h]; rfl))
      exact absurd hr1 (LB_n hr hb1 hb2)
    · refine ⟨_, tp, a, ex, tn, D, F, M1, M2, M3, L, t, fa, rfl, hC, hP, fun s hs => ?_⟩
      have hM := Min_s hM hs
      obtain ⟨g1, g2, g3, g4, g6, g7, g8⟩ := id hM.2.2.2.2.1
      refine MS_v [vr 99, vi w] rfl rfl rfl rfl ?_
      try simp only [awu 94 0, pe94, xs, i_load, i_loadR, i_inc, lg, lp, true_and, and_true, List.length_cons, List.length_nil, Nat.reduceAdd, Nat.reduceLeDiff, Nat.zero_le, Int.toNat_natCast, natLit, mK0]
      refine sp_isHow ?_
      dsimp only
      rw [if_pos z]
      try simp only [awu 94 2, pe94, xs, i_load, i_loadR, i_inc, lg, lp, true_and, and_true, List.length_cons, List.length_nil, Nat.reduceAdd, Nat.reduceLeDiff, Nat.zero_le, Int.toNat_natCast, natLit, mK0]
      refine ⟨fun _ => ?_, fun h => absurd h (by decide)⟩
      refine sp_lblue (fr := 0) hn hP.2.1.2 g1 g2 g3 (by omega) (fun r hr => ?_)
      dsimp only
      try simp only [awu 94 2, awu 94 3, pe94, xs, i_load, i_loadR, i_inc, lg, lp, true_and, and_true, List.length_cons, List.length_nil, Nat.reduceAdd, Nat.reduceLeDiff, Nat.zero_le, Int.toNat_natCast, natLit, mK0, g7]
      exact ⟨fun hr1 => absurd (LB_y hr (by omega)) hr1, fun _ => hM⟩
  · rw [if_neg z]
    try simp only [awu 14 1, pe14, xs, i_load, i_loadR, i_inc, lg, lp, true_and, and_true, List.length_cons, List.length_nil, Nat.reduceAdd, Nat.reduceLeDiff, Nat.zero_le, Int.toNat_natCast, natLit, cK0]
    refine ⟨fun h => absurd trivial h, fun _ => ?_⟩
    refine ⟨_, tp, a, ex, tn, D, F, M1, M2, M3, L, t, fa, rfl, hC, hP, fun s hs => ?_⟩
    have hM := Min_s hM hs
    refine MS_v [vr 99, vi w] rfl rfl rfl rfl ?_
    try simp only [awu 94 0, pe94, xs, i_load, i_loadR, i_inc, lg, lp, true_and, and_true, List.length_cons, List.length_nil, Nat.reduceAdd, Nat.reduceLeDiff, Nat.zero_le, Int.toNat_natCast, natLit, mK0]
    refine sp_isHow ?_
    dsimp only
    rw [if_neg z]
    try simp only [awu 94 1, pe94, xs, i_load, i_loadR, i_inc, lg, lp, true_and, and_true, List.length_cons, List.length_nil, Nat.reduceAdd, Nat.reduceLeDiff, Nat.zero_le, Int.toNat_natCast, natLit, mK0]
    exact ⟨fun h => absurd trivial h, fun _ => hM⟩
theorem T0c {st : St} {tp : Nat × (Nat → Int)} {a : Nat} {ex : TE} {tn : TN} {D : List Dd} {F : FS} {M1 M2 M3 : MC} {L : List Nat} {t : Nat} {fa : Int} (h : Cin st tp a ex tn D F M1 M2 M3 L t fa) (p : Pur tp a ex tn D F M1 M2 M3 L t) : T0 tn.1 (cF0 ex tn) (st 10) (st 12) := by
  obtain ⟨-, -, h1, -, h2⟩ := h.2.2.2.1
  exact cF0_T0 p.2.2.2.1.2.1.1 (fun i j hi hj e => Srt_inj p.2.2.1.2.2 hi hj e) h1 h2
theorem T0m {st : St} {tp : Nat × (Nat → Int)} {a : Nat} {ex : TE} {tn : TN} {D : List Dd} {F : FS} {M1 M2 M3 : MC} {L : List Nat} {t : Nat} {fa : Int} (h : Min st tp a ex tn D F M1 M2 M3 L t fa) (p : Pur tp a ex tn D F M1 M2 M3 L t) : T0 tn.1 (cF0 ex tn) (st 106) (st 108) := by
  obtain ⟨-, -, h1, -, h2⟩ := h.2.2.2.1
  exact cF0_T0 p.2.2.2.1.2.1.1 (fun i j hi hj e => Srt_inj p.2.2.1.2.2 hi hj e) h1 h2
theorem o_learn {w : Int} {st : St} (h : INV st) : OPr 15 95 [vi w] st := by
  obtain ⟨tp, a, ex, tn, D, F, M1, M2, M3, L, t, fa, hC, hM, hP⟩ := h
  refine opp rl1 rl1 ?_
  have hn := hP.2.2.2.1.1
  refine MS_v [vr 0, vi w] rfl rfl rfl rfl ?_
  try simp only [awu 15 0, pe15, xs, i_load, i_loadR, i_inc, lg, lp, true_and, and_true, List.length_cons, List.length_nil, Nat.reduceAdd, Nat.reduceLeDiff, Nat.zero_le, Int.toNat_natCast, natLit, cK0]
  refine sp_isWay ?_
  dsimp only
  by_cases z : 0 ≤ w ∧ w ≤ 2
  · rw [if_pos z]
    try simp only [awu 15 1, pe15, xs, i_load, i_loadR, i_inc, lg, lp, true_and, and_true, List.length_cons, List.length_nil, Nat.reduceAdd, Nat.reduceLeDiff, Nat.zero_le, Int.toNat_natCast, natLit, cK0, Nat.zero_add]
    refine ⟨fun h => absurd h (by decide), fun _ => ?_⟩
    refine sp_learn isLn_13 isTr_8 (by decide) hC.2.2.2.1.1 hn (T0c hC hP) cF0_FI (fun s1 y1 y2 => ?_)
    dsimp only
    try simp only [awu 15 1, awu 15 3, pe15, xs, i_load, i_loadR, i_inc, lg, lp, true_and, and_true, List.length_cons, List.length_nil, Nat.reduceAdd, Nat.reduceLeDiff, Nat.zero_le, Int.toNat_natCast, natLit, cK0, Nat.zero_add]
    refine ⟨_, tp, a, ex, tn, _, _, M1, M2, M3, L, t, fa, rfl, Cin_D hC y1 (fun q hq => y2 q (by omega)), Pur_D hP y1, fun s hs => ?_⟩
    have hM := Min_s hM hs
    refine MS_v [vr 99, vi w] rfl rfl rfl rfl ?_
    try simp only [awu 95 0, pe95, xs, i_load, i_loadR, i_inc, lg, lp, true_and, and_true, List.length_cons, List.length_nil, Nat.reduceAdd, Nat.reduceLeDiff, Nat.zero_le, Int.toNat_natCast, natLit, mK0]
    refine sp_isHow ?_
    dsimp only
    rw [if_pos z]
    try simp only [awu 95 2, pe95, xs, i_load, i_loadR, i_inc, lg, lp, true_and, and_true, List.length_cons, List.length_nil, Nat.reduceAdd, Nat.reduceLeDiff, Nat.zero_le, Int.toNat_natCast, natLit, mK0]
    refine ⟨fun _ => ?_, fun h => absurd h (by decide)⟩
    refine sp_mlearn hn hP.2.1.2 hM.2.2.2.1.1 hM.2.1 (T0m hM hP) cF0_FI (cF0_LA hP.2.1.2 hP.2.2.2.1) z (fun s2 v1 v2 => ?_)
    dsimp only
    have e19 := v1.1.2.2.2.2
    try simp only [awu 95 2, pe95, xs, i_load, i_loadR, i_inc, lg, lp, true_and, and_true, List.length_cons, List.length_nil, Nat.reduceAdd, Nat.reduceLeDiff, Nat.zero_le, Int.toNat_natCast, natLit, mK0, e19]
    exact Min_D hM v1 v2
  · rw [if_neg z]
    try simp only [awu 15 2, awu 15 3, pe15, xs, i_load, i_loadR, i_inc, lg, lp, true_and, and_true, List.length_cons, List.length_nil, Nat.reduceAdd, Nat.reduceLeDiff, Nat.zero_le, Int.toNat_natCast, natLit, cK0]
    refine ⟨fun _ => ?_, fun h => absurd trivial h⟩
    refine ⟨_, tp, a, ex, tn, D, F, M1, M2, M3, L, t, fa, rfl, hC, hP, fun s hs => ?_⟩
    have hM := Min_s hM hs
    refine MS_v [vr 99, vi w] rfl rfl rfl rfl ?_
    try simp only [awu 95 0, pe95, xs, i_load, i_loadR, i_inc, lg, lp, true_and, and_true, List.length_cons, List.length_nil, Nat.reduceAdd, Nat.reduceLeDiff, Nat.zero_le, Int.toNat_natCast, natLit, mK0]
    refine sp_isHow ?_
    dsimp only
    rw [if_neg z]
    try simp only [awu 95 1, pe95, xs, i_load, i_loadR, i_inc, lg, lp, true_and, and_true, List.length_cons, List.length_nil, Nat.reduceAdd, Nat.reduceLeDiff, Nat.zero_le, Int.toNat_natCast, natLit, mK0]
    exact ⟨fun h => absurd trivial h, fun _ => hM⟩
theorem o_undo {st : St} (h : INV st) : OPr 16 96 [] st := by
  obtain ⟨tp, a, ex, tn, D, F, M1, M2, M3, L, t, fa, hC, hM, hP⟩ := h
  refine opp rl0 rl0 ?_
  have k13 : kl 13 = 1 := rfl
  have hn := hP.2.2.2.1.1
  have hL5 := hC.2.2.2.2.1
  refine MS_v [vr 0] rfl rfl rfl rfl ?_
  try simp only [awu 16 0, pe16, xs, i_load, i_loadR, i_inc, lg, lp, true_and, and_true, List.length_cons, List.length_nil, Nat.reduceAdd, Nat.reduceLeDiff, Nat.zero_le, Int.toNat_natCast, natLit, cK0, Nat.zero_add]
  cases D with
  | nil =>
    refine sp_take0 isLn_13 hL5 ?_
    dsimp only
    try simp only [awu 16 2, awu 16 3, pe16, xs, i_load, i_loadR, i_inc, lg, lp, true_and, and_true, List.length_cons, List.length_nil, Nat.reduceAdd, Nat.reduceLeDiff, Nat.zero_le, Int.toNat_natCast, natLit, cK0]
    refine ⟨fun _ => ?_, fun h => absurd trivial h⟩
    refine ⟨_, tp, a, ex, tn, [], F, M1, M2, M3, L, t, fa, rfl, hC, hP, fun s hs => ?_⟩
    have hM := Min_s hM hs
    have e29 : s 99 29 = 0 := hM.2.2.2.2.1.2.2.2.2.2.1
    refine MS_v [vr 99] rfl rfl rfl rfl ?_
    try simp only [awu 96 0, awu 96 1, pe96, xs, i_load, i_loadR, i_inc, lg, lp, true_and, and_true, List.length_cons, List.length_nil, Nat.reduceAdd, Nat.reduceLeDiff, Nat.zero_le, Int.toNat_natCast, natLit, mK0, e29]
    exact ⟨fun h => absurd trivial h, fun _ => hM⟩
  | cons e D =>
    refine sp_take isLn_13 hn cF0_FI hL5 (fun G s1 y1 y2 y3 => ?_)
    dsimp only
    have e10 := y2.2.2.2.1
    try simp only [awu 16 1, awu 16 3, pe16, xs, i_load, i_loadR, i_inc, lg, lp, true_and, and_true, List.length_cons, List.length_nil, Nat.reduceAdd, Nat.reduceLeDiff, Nat.zero_le, Int.toNat_natCast, natLit, cK0, k13, e10, Nat.zero_add]
    refine ⟨fun h => absurd h (by decide), fun _ => ?_⟩
    refine ⟨_, tp, a, ex, tn, D, G, M1, M2, M3, L, t, fa, rfl, Cin_D hC y2 (fun q hq => y3 q (by omega)), Pur_D hP y2, fun s hs => ?_⟩
    have hM := Min_s hM hs
    obtain ⟨g1, g2, g3, g4, g6, g7, g8⟩ := id hM.2.2.2.2.1
    have e29 : s 99 29 = ((D.length + 1 : Nat) : Int) := g7
    have hl : D.length + 1 ≤ 200 := g8
    have w1 : Unit → wr (((D.length + 1 : Nat) : Int) - 1) = ((D.length : Nat) : Int) := fun _ => by rw [wr_id (by omega) (by omega)]; omega
    refine MS_v [vr 99] rfl rfl rfl rfl ?_
    try simp only [awu 96 0, awu 96 2, pe96, xs, i_load, i_loadR, i_inc, lg, lp, true_and, and_true, List.length_cons, List.length_nil, Nat.reduceAdd, Nat.reduceLeDiff, Nat.zero_le, Int.toNat_natCast, natLit, mK0, e29, w1 ()]
    refine ⟨fun _ => ?_, fun h => by omega⟩
    refine sp_redo hn hP.2.1.2 hM.2.2.2.1.1 hM.2.1 (T0m hM hP) cF0_FI (cF0_LA hP.2.1.2 hP.2.2.2.1) y1 (DA_tl g6) (by omega) (fun s2 v1 v2 => ?_)
    dsimp only
    have e29' := v1.2.2.2.2.2.1
    try simp only [awu 96 2, pe96, xs, i_load, i_loadR, i_inc, lg, lp, true_and, and_true, List.length_cons, List.length_nil, Nat.reduceAdd, Nat.reduceLeDiff, Nat.zero_le, Int.toNat_natCast, natLit, mK0, e29']
    exact Min_D hM v1 v2
theorem o_deed {x y : Int} {st : St} (ix : InR x) (iy : InR y) (h : INV st) : OPr 17 97 [vi x, vi y] st := by
  obtain ⟨tp, a, ex, tn, D, F, M1, M2, M3, L, t, fa, hC, hM, hP⟩ := h
  refine opp rl2 rl2 ?_
  have hL5 := hC.2.2.2.2.1
  refine MS_v [vr 0, vi x, vi y] rfl rfl rfl rfl ?_
  try simp only [awu 17 0, pe17, xs, i_load, i_loadR, i_inc, lg, lp, true_and, and_true, List.length_cons, List.length_nil, Nat.reduceAdd, Nat.reduceLeDiff, Nat.zero_le, Int.toNat_natCast, natLit, cK0, Nat.zero_add]
  refine sp_deedOf isLn_13 hL5 ?_
  dsimp only
  try simp only [awu 17 0, pe17, xs, i_load, i_loadR, i_inc, lg, lp, true_and, and_true, List.length_cons, List.length_nil, Nat.reduceAdd, Nat.reduceLeDiff, Nat.zero_le, Int.toNat_natCast, natLit, cK0]
  refine ⟨_, tp, a, ex, tn, D, F, M1, M2, M3, L, t, fa, rfl, hC, hP, fun s hs => ?_⟩
  have hM := Min_s hM hs
  obtain ⟨g1, g2, g3, g4, g6, g7, g8⟩ := id hM.2.2.2.2.1
  have w1 : wr ((D.length : Int) - 1) = (D.length : Int) - 1 := wr_id (by omega) (by omega)
  refine MS_v [vr 99, vi x, vi y] rfl rfl rfl rfl ?_
  try simp only [awu 97 0, pe97, xs, i_load, i_loadR, i_inc, lg, lp, true_and, and_true, List.length_cons, List.length_nil, Nat.reduceAdd, Nat.reduceLeDiff, Nat.zero_le, Int.toNat_natCast, natLit, mK0, g7, w1]
  refine sp_isIn ?_
  dsimp only
  unfold dOf
  by_cases zx : 0 ≤ x ∧ x < (D.length : Int)
  · rw [if_pos (show 0 ≤ x ∧ x ≤ (D.length : Int) - 1 by omega), if_pos zx]
    try simp only [awu 97 1, pe97, xs, i_load, i_loadR, i_inc, lg, lp, true_and, and_true, List.length_cons, List.length_nil, Nat.reduceAdd, Nat.reduceLeDiff, Nat.zero_le, Int.toNat_natCast, natLit, mK0]
    refine ⟨fun h => absurd h (by decide), fun _ => ?_⟩
    refine sp_isIn ?_
    dsimp only
    obtain ⟨k, rfl⟩ : ∃ k : Nat, x = k := ⟨x.toNat, by omega⟩
    obtain ⟨d1, d2, d3, d4⟩ := g6 k (by omega)
    rw [Int.toNat_natCast]
    by_cases zy : 0 ≤ y ∧ y ≤ 3
    · rw [if_pos zy]
      obtain ⟨j, rfl⟩ : ∃ j : Nat, y = j := ⟨y.toNat, by omega⟩
      have k18 : kl 118 = 50 := rfl
      have l18 : len 118 = 800 := rfl
      have w2 : Unit → wr (4 * (k : Int)) = ((4 * k : Nat) : Int) := fun _ => by rw [wr_id (by omega) (by omega)]; omega
      have w3 : Unit → wr (((4 * k : Nat) : Int) + (j : Int)) = ((4 * k + j : Nat) : Int) := fun _ => by rw [wr_id (by omega) (by omega)]; omega
      try simp only [awu 97 2, awu 97 4, pe97, xs, i_load, i_loadR, i_inc, lg, lp, true_and, and_true, List.length_cons, List.length_nil, Nat.reduceAdd, Nat.reduceLeDiff, Nat.zero_le, Int.toNat_natCast, natLit, mK0, k18, l18, w2 (), w3 ()]
      refine ⟨fun h => absurd h (by decide), fun _ => ⟨by omega, ?_, hM⟩⟩
      have hj : j = 0 ∨ j = 1 ∨ j = 2 ∨ j = 3 := by omega
      rcases hj with rfl | rfl | rfl | rfl
      · rw [if_pos (by decide)]
        exact congrArg (fun z : Int => vi z) d1
      · rw [if_neg (by decide), if_pos (by decide)]
        exact congrArg (fun z : Int => vi z) d2
      · rw [if_neg (by decide), if_neg (by decide), if_pos (by decide)]
        exact congrArg (fun z : Int => vi z) d3
      · rw [if_neg (by decide), if_neg (by decide), if_neg (by decide), if_pos (by decide)]
        exact congrArg (fun z : Int => vi z) d4
    · rw [if_neg zy]
      try simp only [awu 97 3, awu 97 4, pe97, xs, i_load, i_loadR, i_inc, lg, lp, true_and, and_true, List.length_cons, List.length_nil, Nat.reduceAdd, Nat.reduceLeDiff, Nat.zero_le, Int.toNat_natCast, natLit, mK0]
      refine ⟨fun _ => ⟨?_, hM⟩, fun h => absurd trivial h⟩
      rw [if_neg (by omega), if_neg (by omega), if_neg (by omega), if_neg (by omega)]
  · rw [if_neg (show ¬ (0 ≤ x ∧ x ≤ (D.length : Int) - 1) by omega), if_neg zx]
    try simp only [awu 97 3, awu 97 4, pe97, xs, i_load, i_loadR, i_inc, lg, lp, true_and, and_true, List.length_cons, List.length_nil, Nat.reduceAdd, Nat.reduceLeDiff, Nat.zero_le, Int.toNat_natCast, natLit, mK0]
    exact ⟨fun _ => hM, fun h => absurd trivial h⟩
