/-! calls on both: blind -/
def pB (a : Nat) (E : TE) (w : Int) (x : Nat) : Prop := ∃ tn : TN, TNo a E tn ∧ aF (lrn w tn.1 200 ([], cF0 E tn)).2 tn.1 x = true
theorem pB_i {a : Nat} {E : TE} {w : Int} {x : Nat} {tn : TN} (hT : TNo a E tn) : pB a E w x ↔ aF (lrn w tn.1 200 ([], cF0 E tn)).2 tn.1 x = true := by
  constructor
  · rintro ⟨tn2, h1, h2⟩
    obtain ⟨n, f⟩ := tn
    obtain ⟨n2, f2⟩ := tn2
    obtain ⟨en, ef⟩ := Srt_uniq hT.2.1.1 h1.2.1.1 (fun x => (hT.2.2.1 x).trans (h1.2.2.1 x).symm)
    have en : n = n2 := en
    subst en
    have ec : cF0 E (n, f) = cF0 E (n, f2) := cF0_congr rfl (fun i hi => ⟨rfl, rfl⟩) (fun k hk => ef k hk)
    rw [ec]
    exact h2
  · exact fun h => ⟨tn, hT, h⟩
noncomputable def bdB (a : Nat) (ex : TE) (w : Int) (i : Nat) : Bool := @decide (pB a (rmE ex i) w (ex.2.1 i) ↔ ex.2.2 i = 1) (Classical.propDecidable _)
theorem bd_T {a : Nat} {ex : TE} {w : Int} {i : Nat} {tn : TN} (hT : TNo a (rmE ex i) tn) (h01 : ok01 (ex.2.2 i)) (h : (if aF (lrn w tn.1 200 ([], cF0 (rmE ex i) tn)).2 tn.1 (ex.2.1 i) = true then (1 : Int) else 0) = ex.2.2 i) : cn (bdB a ex w) (i + 1) = cn (bdB a ex w) i + 1 := by
  rw [cn_s]
  have : bdB a ex w i = true := by
    unfold bdB
    refine (@decide_eq_true_iff _ (Classical.propDecidable _)).mpr ?_
    rw [pB_i hT]
    by_cases z : aF (lrn w tn.1 200 ([], cF0 (rmE ex i) tn)).2 tn.1 (ex.2.1 i) = true
    · rw [if_pos z] at h
      exact ⟨fun _ => h.symm, fun _ => z⟩
    · rw [if_neg z] at h
      exact ⟨fun h' => absurd h' z, fun h' => by omega⟩
  rw [this]
  rfl
theorem bd_F {a : Nat} {ex : TE} {w : Int} {i : Nat} {tn : TN} (hT : TNo a (rmE ex i) tn) (h01 : ok01 (ex.2.2 i)) (h : ¬ (if aF (lrn w tn.1 200 ([], cF0 (rmE ex i) tn)).2 tn.1 (ex.2.1 i) = true then (1 : Int) else 0) = ex.2.2 i) : cn (bdB a ex w) (i + 1) = cn (bdB a ex w) i := by
  rw [cn_s]
  have : bdB a ex w i = false := by
    unfold bdB
    refine (@decide_eq_false_iff_not _ (Classical.propDecidable _)).mpr ?_
    rw [pB_i hT]
    by_cases z : aF (lrn w tn.1 200 ([], cF0 (rmE ex i) tn)).2 tn.1 (ex.2.1 i) = true
    · rw [if_pos z] at h
      exact fun h' => h (h'.mp z).symm
    · rw [if_neg z] at h
      rcases h01 with h01 | h01
      · exact absurd h01.symm h
      · exact fun h' => z (h'.mpr h01)
  rw [this]
  rfl
theorem o_blind {w : Int} {st : St} (h : INV st) : OPr 21 159 [vi w] st := by
  obtain ⟨tp, a, ex, tn, D, F, M1, M2, M3, L, t, fa, hC, hM, hP⟩ := h
  refine opp rl1 rl1 ?_
  have k5 : kl 5 = 7 := rfl
  have k36 : kl 36 = 1 := rfl
  have hx40 := hP.2.2.1.1
  refine MS_v [vr 0, vi w, none, none] rfl rfl rfl rfl ?_
  try simp only [awu 21 0, pe21, xs, i_load, i_loadR, i_inc, lg, lp, true_and, and_true, List.length_cons, List.length_nil, Nat.reduceAdd, Nat.reduceLeDiff, Nat.zero_le, Int.toNat_natCast, natLit, cK0]
  refine sp_isWay ?_
  dsimp only
  by_cases z : 0 ≤ w ∧ w ≤ 2
  · rw [if_pos z]
    try simp only [awu 21 2, pe21, xs, i_load, i_loadR, i_inc, lg, lp, true_and, and_true, List.length_cons, List.length_nil, Nat.reduceAdd, Nat.reduceLeDiff, Nat.zero_le, Int.toNat_natCast, natLit, cK0]
    refine ⟨fun _ => ?_, fun h => absurd h (by decide)⟩
    have key : ∀ m i : Nat, ∀ s1 : St, i + m = ex.1 → (∀ j, j < i → ∃ tn', TNo a (rmE ex j) tn') → Cin s1 tp a ex tn D F M1 M2 M3 L t fa → AW (P 21) (QC st 159 [vi w]) (MS 9) 0 (fun _ => 0) 3 [vr 0, vi w, vi (cn (bdB a ex w) i : Nat), vi i] [] s1 := by
      intro m
      induction m with
      | zero =>
        intro i s1 hi hTT hC
        have e2 := hC.2.2.1.1
        rw [awu 21 3]
        try simp only [awu 21 7, pe21, xs, i_load, i_loadR, i_inc, lg, lp, true_and, and_true, List.length_cons, List.length_nil, Nat.reduceAdd, Nat.reduceLeDiff, Nat.zero_le, Int.toNat_natCast, natLit, cK0, k5, e2, Nat.zero_add]
        refine ⟨fun _ => ?_, fun h => by omega⟩
        have hi : i = ex.1 := by omega
        subst hi
        refine ⟨_, tp, a, ex, tn, D, F, M1, M2, M3, L, t, fa, rfl, hC, hP, fun s hs => ?_⟩
        have hM := Min_s hM hs
        obtain ⟨g1, g2, g3, g4, g6, g7, g8⟩ := id hM.2.2.2.2.1
        refine MS_v [vr 99, vi w, none, none] rfl rfl rfl rfl ?_
        try simp only [awu 159 0, pe159, xs, i_load, i_loadR, i_inc, lg, lp, true_and, and_true, List.length_cons, List.length_nil, Nat.reduceAdd, Nat.reduceLeDiff, Nat.zero_le, Int.toNat_natCast, natLit, mK0]
        refine sp_isHow ?_
        dsimp only
        rw [if_pos z]
        try simp only [awu 159 2, pe159, xs, i_load, i_loadR, i_inc, lg, lp, true_and, and_true, List.length_cons, List.length_nil, Nat.reduceAdd, Nat.reduceLeDiff, Nat.zero_le, Int.toNat_natCast, natLit, mK0]
        refine ⟨fun _ => ?_, fun h => absurd h (by decide)⟩
        refine sp_putAside g6 g7 g8 (fun s3 hA f3 => ?_)
        dsimp only
        try simp only [awu 159 2, pe159, xs, i_load, i_loadR, i_inc, lg, lp, true_and, and_true, List.length_cons, List.length_nil, Nat.reduceAdd, Nat.reduceLeDiff, Nat.zero_le, Int.toNat_natCast, natLit, mK0]
        have key2 : ∀ m i : Nat, ∀ s2 : St, i + m = ex.1 → XM s2 tp a ex M1 M2 M3 L t fa → AS s2 D → AW (P 159) (fun v' s2 => v' = vi (cn (bdB a ex w) ex.1 : Nat) ∧ Min s2 tp a ex tn D F M1 M2 M3 L t fa) (MS 9) 0 (fun _ => 0) 3 [vr 99, vi w, vi (cn (bdB a ex w) i : Nat), vi i] [] s2 := by
          intro m
          induction m with
          | zero =>
            intro i s2 hi hX hA
            have e8 := hX.2.2.1.1
            rw [awu 159 3]
            try simp only [awu 159 8, pe159, xs, i_load, i_loadR, i_inc, lg, lp, true_and, and_true, List.length_cons, List.length_nil, Nat.reduceAdd, Nat.reduceLeDiff, Nat.zero_le, Int.toNat_natCast, natLit, mK0, e8]
            refine ⟨fun _ => ?_, fun h => by omega⟩
            refine sp_bringBack hX (Pur_PX hP) hP.2.2.2.1 hA hP.2.2.2.2.1 g8 (fun s6 hM => ?_)
            dsimp only
            try simp only [awu 159 8, pe159, xs, i_load, i_loadR, i_inc, lg, lp, true_and, and_true, List.length_cons, List.length_nil, Nat.reduceAdd, Nat.reduceLeDiff, Nat.zero_le, Int.toNat_natCast, natLit, mK0]
            exact ⟨by rw [show i = ex.1 by omega], hM⟩
          | succ m ih =>
            intro i s2 hi hX hA
            have hi' : i < ex.1 := by omega
            have hPX := PX_rm hP.2.1 hP.2.2.1 hP.2.2.2.1 hi'
            obtain ⟨tn', hT⟩ := hTT i hi'
            have hwf := okw_wf (hP.2.2.2.1.2.2.2 i hi')
            have h01 := hP.2.2.1.2.1 i hi'
            have e8 := hX.2.2.1.1
            have hcn := cn_le (p := bdB a ex w) i
            rw [awu 159 3]
            try simp only [awu 159 4, pe159, xs, i_load, i_loadR, i_inc, lg, lp, true_and, and_true, List.length_cons, List.length_nil, Nat.reduceAdd, Nat.reduceLeDiff, Nat.zero_le, Int.toNat_natCast, natLit, mK0, e8]
            refine ⟨fun h => by omega, fun _ => ?_⟩
            refine sp_learnWithout hX (Pur_PX hP) hPX hT hi' z hA (fun s4 hX hA e65 e66 e67 hL => ?_)
            dsimp only
            try simp only [awu 159 4, pe159, xs, i_load, i_loadR, i_inc, lg, lp, true_and, and_true, List.length_cons, List.length_nil, Nat.reduceAdd, Nat.reduceLeDiff, Nat.zero_le, Int.toNat_natCast, natLit, mK0, e65, e66]
            refine sp_mnow hT.1 hT.2.1.2.1 hL.1 hL.2.1 hwf ?_
            dsimp only
            try simp only [awu 159 4, awu 159 5, awu 159 6, awu 159 7, pe159, xs, i_load, i_loadR, i_inc, lg, lp, true_and, and_true, List.length_cons, List.length_nil, Nat.reduceAdd, Nat.reduceLeDiff, Nat.zero_le, Int.toNat_natCast, natLit, mK0, e67]
            refine ⟨fun hne => ?_, fun heq => ?_⟩
            · rw [wr_id (by omega) (by omega)]
              refine sp_bringIn hX (Pur_PX hP) hPX hi' hA e65 e66 e67 (fun s5 hX hA => ?_)
              dsimp only
              try simp only [awu 159 7, pe159, xs, i_load, i_loadR, i_inc, lg, lp, true_and, and_true, List.length_cons, List.length_nil, Nat.reduceAdd, Nat.reduceLeDiff, Nat.zero_le, Int.toNat_natCast, natLit, mK0]
              rw [wr_id (by omega) (by omega)]
              have ih := ih (i + 1) s5 (by omega) hX hA
              rw [bd_F hT h01 hne] at ih
              rw [Int.add_zero]
              exact ih
            · rw [wr_id (by omega) (by omega)]
              refine sp_bringIn hX (Pur_PX hP) hPX hi' hA e65 e66 e67 (fun s5 hX hA => ?_)
              dsimp only
              try simp only [awu 159 7, pe159, xs, i_load, i_loadR, i_inc, lg, lp, true_and, and_true, List.length_cons, List.length_nil, Nat.reduceAdd, Nat.reduceLeDiff, Nat.zero_le, Int.toNat_natCast, natLit, mK0]
              rw [wr_id (by omega) (by omega)]
              have ih := ih (i + 1) s5 (by omega) hX hA
              have heq := Classical.not_not.mp heq
              rw [bd_T hT h01 heq] at ih
              exact ih
        exact key2 ex.1 0 s3 (by omega) (XM_c2 (Min_XM hM) (fun q j hj => f3 q j (by omega) (by omega))) hA
      | succ m ih =>
        intro i s1 hi hTT hC
        have hi' : i < ex.1 := by omega
        have hwf := okw_wf (hP.2.2.2.1.2.2.2 i hi')
        have h01 := hP.2.2.1.2.1 i hi'
        have e2 := hC.2.2.1.1
        have hcn := cn_le (p := bdB a ex w) i
        rw [awu 21 3]
        try simp only [awu 21 4, pe21, xs, i_load, i_loadR, i_inc, lg, lp, true_and, and_true, List.length_cons, List.length_nil, Nat.reduceAdd, Nat.reduceLeDiff, Nat.zero_le, Int.toNat_natCast, natLit, cK0, k5, e2, Nat.zero_add]
        refine ⟨fun h => by omega, fun _ => ?_⟩
        refine CW1 hC hP hi' (fun s2 tn' hC hT h4 h0 => ?_)
        dsimp only
        try simp only [awu 21 4, pe21, xs, i_load, i_loadR, i_inc, lg, lp, true_and, and_true, List.length_cons, List.length_nil, Nat.reduceAdd, Nat.reduceLeDiff, Nat.zero_le, Int.toNat_natCast, natLit, cK0, Nat.zero_add]
        refine CW2 hC hT.1 h4 h0 cF0_FI (fun s3 hC hL => ?_)
        dsimp only
        have e2 := hC.2.2.1.1
        try simp only [awu 21 4, pe21, xs, i_load, i_loadR, i_inc, lg, lp, true_and, and_true, List.length_cons, List.length_nil, Nat.reduceAdd, Nat.reduceLeDiff, Nat.zero_le, Int.toNat_natCast, natLit, cK0, k36, Nat.zero_add, Nat.reduceAdd]
        refine sp_scode e2 hx40 ?_
        dsimp only
        rw [if_pos (by omega), Int.toNat_natCast, (hC.2.2.1.2 i hi').1]
        try simp only [awu 21 4, pe21, xs, i_load, i_loadR, i_inc, lg, lp, true_and, and_true, List.length_cons, List.length_nil, Nat.reduceAdd, Nat.reduceLeDiff, Nat.zero_le, Int.toNat_natCast, natLit, cK0, Nat.zero_add, Nat.reduceAdd]
        refine sp_facc isFd_37 hT.1 hT.2.1.2.1 hL.1 hL.2.1 hwf ?_
        dsimp only
        try simp only [awu 21 4, pe21, xs, i_load, i_loadR, i_inc, lg, lp, true_and, and_true, List.length_cons, List.length_nil, Nat.reduceAdd, Nat.reduceLeDiff, Nat.zero_le, Int.toNat_natCast, natLit, cK0, Nat.zero_add, Nat.reduceAdd]
        refine sp_sisIn e2 hx40 (fun j hj => by rw [(hC.2.2.1.2 j hj).2]; exact hP.2.2.1.2.1 j hj) ?_
        dsimp only
        rw [if_pos (by omega), Int.toNat_natCast, (hC.2.2.1.2 i hi').2]
        try simp only [awu 21 4, awu 21 5, awu 21 6, pe21, xs, i_load, i_loadR, i_inc, lg, lp, true_and, and_true, List.length_cons, List.length_nil, Nat.reduceAdd, Nat.reduceLeDiff, Nat.zero_le, Int.toNat_natCast, natLit, cK0, Nat.zero_add]
        have ih := ih (i + 1) s3 (by omega) (fun j hj => by
          by_cases zj : j = i
          · subst zj
            exact ⟨tn', hT⟩
          · exact hTT j (by omega)) hC
        refine ⟨fun hne => ?_, fun heq => ?_⟩
        · rw [wr_id (by omega) (by omega)]
          rw [bd_F hT h01 hne] at ih
          exact ih
        · rw [wr_id (by omega) (by omega), wr_id (by omega) (by omega)]
          have heq := Classical.not_not.mp heq
          rw [bd_T hT h01 heq] at ih
          exact ih
    exact key ex.1 0 st (by omega) (fun j hj => by omega) hC
  · rw [if_neg z]
    try simp only [awu 21 1, pe21, xs, i_load, i_loadR, i_inc, lg, lp, true_and, and_true, List.length_cons, List.length_nil, Nat.reduceAdd, Nat.reduceLeDiff, Nat.zero_le, Int.toNat_natCast, natLit, cK0]
    refine ⟨fun h => absurd trivial h, fun _ => ?_⟩
    refine ⟨_, tp, a, ex, tn, D, F, M1, M2, M3, L, t, fa, rfl, hC, hP, fun s hs => ?_⟩
    have hM := Min_s hM hs
    refine MS_v [vr 99, vi w, none, none] rfl rfl rfl rfl ?_
    try simp only [awu 159 0, pe159, xs, i_load, i_loadR, i_inc, lg, lp, true_and, and_true, List.length_cons, List.length_nil, Nat.reduceAdd, Nat.reduceLeDiff, Nat.zero_le, Int.toNat_natCast, natLit, mK0]
    refine sp_isHow ?_
    dsimp only
    rw [if_neg z]
    try simp only [awu 159 1, pe159, xs, i_load, i_loadR, i_inc, lg, lp, true_and, and_true, List.length_cons, List.length_nil, Nat.reduceAdd, Nat.reduceLeDiff, Nat.zero_le, Int.toNat_natCast, natLit, mK0]
    exact ⟨fun h => absurd trivial h, fun _ => hM⟩
