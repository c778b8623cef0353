/-! calls on both: guess -/
theorem bor_0 {x : Int} (hx : InR x) : bor x 0 = x := by
  have : bor x 0 = (oI x ||| oI 0).toInt := rfl
  rw [this]
  have e : (oI 0 : Int32) = 0 := by decide
  rw [e]
  have e2 : oI x ||| (0 : Int32) = oI x := by
    apply Int32.toBitVec_inj.mp
    simp
  rw [e2]
  exact oI_toInt hx
def gu (p : Nat → Bool) : Nat → Int
  | 0 => 0
  | i + 1 => if p i then bor (gu p i) (bshl 1 (i : Int)) else gu p i
theorem gu_s {p : Nat → Bool} {i : Nat} : gu p (i + 1) = if p i then bor (gu p i) (bshl 1 (i : Int)) else gu p i := rfl
theorem gu_r {p : Nat → Bool} : ∀ i, InR (gu p i)
  | 0 => by show InR 0; unfold InR; omega
  | i + 1 => by
    rw [gu_s]
    split
    · exact InR_toInt _
    · exact gu_r i
def gp (ex : TE) (tn : TN) (w i : Nat) : Bool := aF (lrn (i : Int) tn.1 200 ([], cF0 ex tn)).2 tn.1 w
theorem o_guess {st : St} (h : INV st) : OPr 20 158 [] st := by
  obtain ⟨tp, a, ex, tn, D, F, M1, M2, M3, L, t, fa, hC, hM, hP⟩ := h
  refine opp rl0 rl0 ?_
  have k36 : kl 36 = 1 := rfl
  have hP0 := Pur_0 hP
  have hn := hP.2.2.2.1.1
  have hn0 := hP.2.2.2.1.2.1.2.1
  refine MS_v [vr 0, none, none, none] rfl rfl rfl rfl ?_
  try simp only [awu 20 0, pe20, xs, i_load, i_loadR, i_inc, lg, lp, true_and, and_true, List.length_cons, List.length_nil, Nat.reduceAdd, Nat.reduceLeDiff, Nat.zero_le, Int.toNat_natCast, natLit, cK0]
  refine CT hC hP (fun hC => ?_)
  dsimp only
  cases ew : wo tp.2 a tp.1 with
  | none =>
    try simp only [awu 20 0, awu 20 1, pe20, xs, i_load, i_loadR, i_inc, lg, lp, true_and, and_true, List.length_cons, List.length_nil, Nat.reduceAdd, Nat.reduceLeDiff, Nat.zero_le, Int.toNat_natCast, natLit, cK0, woN]
    refine ⟨fun h => absurd trivial h, fun _ => ?_⟩
    refine ⟨_, (0, tp.2), a, ex, tn, D, F, M1, M2, M3, L, t, fa, rfl, hC, hP0, fun s hs => ?_⟩
    have hM := Min_s hM hs
    refine MS_v [vr 99, none, none] rfl rfl rfl rfl ?_
    try simp only [awu 158 0, pe158, xs, i_load, i_loadR, i_inc, lg, lp, true_and, and_true, List.length_cons, List.length_nil, Nat.reduceAdd, Nat.reduceLeDiff, Nat.zero_le, Int.toNat_natCast, natLit, mK0]
    refine MTp hM hP (fun w s2 ew' => by rw [ew] at ew'; cases ew') (fun s2 _ hM => ?_)
    dsimp only
    try simp only [awu 158 1, pe158, xs, i_load, i_loadR, i_inc, lg, lp, true_and, and_true, List.length_cons, List.length_nil, Nat.reduceAdd, Nat.reduceLeDiff, Nat.zero_le, Int.toNat_natCast, natLit, mK0]
    exact ⟨fun h => absurd trivial h, fun _ => hM⟩
  | some w =>
    have hwf := okw_wf (wo_ok hP.2.1.2 ew)
    try simp only [awu 20 0, pe20, xs, i_load, i_loadR, i_inc, lg, lp, true_and, and_true, List.length_cons, List.length_nil, Nat.reduceAdd, Nat.reduceLeDiff, Nat.zero_le, Int.toNat_natCast, natLit, cK0, woS]
    refine ⟨fun _ => ?_, fun h => by omega⟩
    try simp only [awu 20 2, pe20, xs, i_load, i_loadR, i_inc, lg, lp, true_and, and_true, List.length_cons, List.length_nil, Nat.reduceAdd, Nat.reduceLeDiff, Nat.zero_le, Int.toNat_natCast, natLit, cK0]
    have key : ∀ m i : Nat, ∀ s1 : St, i + m = 3 → Cin s1 (0, tp.2) a ex tn D F M1 M2 M3 L t fa → AW (P 20) (QC st 158 []) (MS 9) 0 (fun _ => 0) 3 [vr 0, vi w, vi (gu (gp ex tn w) i), vi i] [] s1 := by
      intro m
      induction m with
      | zero =>
        intro i s1 hi hC
        rw [awu 20 3]
        try simp only [awu 20 7, pe20, xs, i_load, i_loadR, i_inc, lg, lp, true_and, and_true, List.length_cons, List.length_nil, Nat.reduceAdd, Nat.reduceLeDiff, Nat.zero_le, Int.toNat_natCast, natLit, cK0]
        refine ⟨fun _ => ?_, fun h => by omega⟩
        have hi : i = 3 := by omega
        subst hi
        refine ⟨_, (0, tp.2), a, ex, tn, D, F, M1, M2, M3, L, t, fa, rfl, hC, hP0, fun s hs => ?_⟩
        have hM := Min_s hM hs
        refine MS_v [vr 99, none, none] rfl rfl rfl rfl ?_
        try simp only [awu 158 0, pe158, xs, i_load, i_loadR, i_inc, lg, lp, true_and, and_true, List.length_cons, List.length_nil, Nat.reduceAdd, Nat.reduceLeDiff, Nat.zero_le, Int.toNat_natCast, natLit, mK0]
        refine MTp hM hP (fun w' s2 ew' e3 e4 hM => ?_) (fun s2 ew' => by rw [ew] at ew'; cases ew')
        rw [ew] at ew'
        cases ew'
        dsimp only
        obtain ⟨g1, g2, g3, g4, g6, g7, g8⟩ := id hM.2.2.2.2.1
        try simp only [awu 158 2, pe158, xs, i_load, i_loadR, i_inc, lg, lp, true_and, and_true, List.length_cons, List.length_nil, Nat.reduceAdd, Nat.reduceLeDiff, Nat.zero_le, Int.toNat_natCast, natLit, mK0]
        refine ⟨fun _ => ?_, fun h => absurd h (by decide)⟩
        refine sp_putAside g6 g7 g8 (fun s3 hA f3 => ?_)
        dsimp only
        try simp only [awu 158 2, pe158, xs, i_load, i_loadR, i_inc, lg, lp, true_and, and_true, List.length_cons, List.length_nil, Nat.reduceAdd, Nat.reduceLeDiff, Nat.zero_le, Int.toNat_natCast, natLit, mK0]
        have key2 : ∀ m i : Nat, ∀ s4 : St, i + m = 3 → XM s4 (0, tp.2) a ex M1 M2 M3 L t fa → TrM s4 ex tn → AS s4 D → s4 99 3 = (wl w : Nat) → s4 99 4 = (wc w : Nat) → AW (P 158) (fun v' s2 => v' = vi (gu (gp ex tn w) 3) ∧ Min s2 (0, tp.2) a ex tn D F M1 M2 M3 L t fa) (MS 9) 0 (fun _ => 0) 3 [vr 99, vi (gu (gp ex tn w) i), vi i] [] s4 := by
          intro m
          induction m with
          | zero =>
            intro i s4 hi hX hTr hA _ _
            rw [awu 158 3]
            try simp only [awu 158 8, pe158, xs, i_load, i_loadR, i_inc, lg, lp, true_and, and_true, List.length_cons, List.length_nil, Nat.reduceAdd, Nat.reduceLeDiff, Nat.zero_le, Int.toNat_natCast, natLit, mK0]
            refine ⟨fun _ => ?_, fun h => by omega⟩
            refine sp_bringBack hX (Pur_PX hP) hP.2.2.2.1 hA hP.2.2.2.2.1 g8 (fun s6 hM => ?_)
            dsimp only
            try simp only [awu 158 8, pe158, xs, i_load, i_loadR, i_inc, lg, lp, true_and, and_true, List.length_cons, List.length_nil, Nat.reduceAdd, Nat.reduceLeDiff, Nat.zero_le, Int.toNat_natCast, natLit, mK0]
            exact ⟨by rw [show i = 3 by omega], hM⟩
          | succ m ih =>
            intro i s4 hi hX hTr hA e3 e4
            have h0 : T0 tn.1 (cF0 ex tn) (s4 106) (s4 108) := cF0_T0 hP.2.2.2.1.2.1.1 (fun i j hi hj e => Srt_inj hP.2.2.1.2.2 hi hj e) hTr.2.2.1 hTr.2.2.2.2
            rw [awu 158 3]
            try simp only [awu 158 4, pe158, xs, i_load, i_loadR, i_inc, lg, lp, true_and, and_true, List.length_cons, List.length_nil, Nat.reduceAdd, Nat.reduceLeDiff, Nat.zero_le, Int.toNat_natCast, natLit, mK0]
            refine ⟨fun h => by omega, fun _ => ?_⟩
            refine sp_mlearn hn hP.2.1.2 hTr.1 hX.2.1 h0 cF0_FI (cF0_LA hP.2.1.2 hP.2.2.2.1) (by omega) (fun s5 u1 u2 => ?_)
            dsimp only
            have e3' : s5 99 3 = (wl w : Nat) := (u2 99 3 (by omega)).trans e3
            have e4' : s5 99 4 = (wc w : Nat) := (u2 99 4 (by omega)).trans e4
            try simp only [awu 158 4, pe158, xs, i_load, i_loadR, i_inc, lg, lp, true_and, and_true, List.length_cons, List.length_nil, Nat.reduceAdd, Nat.reduceLeDiff, Nat.zero_le, Int.toNat_natCast, natLit, mK0, e3', e4']
            refine sp_mnow hn hn0 u1.1 u1.2.1 hwf ?_
            dsimp only
            have ih := ih (i + 1) s5 (by omega) (XM_c2 hX (fun q j hj => u2 q j (by omega))) (TrM_congr hTr (u2 99 14 (by omega)) (fun q j hj => u2 q j (by omega))) (AS_congr hA (u2 99 64 (by omega)) (fun j => u2 145 j (by omega))) e3' e4'
            rw [gu_s (i := i)] at ih
            by_cases zp : aF (lrn (i : Int) tn.1 200 ([], cF0 ex tn)).2 tn.1 w = true
            · have zp' : gp ex tn w i = true := zp
              rw [if_pos zp]
              rw [zp', if_pos rfl] at ih
              try simp only [awu 158 5, awu 158 7, pe158, xs, i_load, i_loadR, i_inc, lg, lp, true_and, and_true, List.length_cons, List.length_nil, Nat.reduceAdd, Nat.reduceLeDiff, Nat.zero_le, Int.toNat_natCast, natLit, mK0]
              refine ⟨fun h => absurd h (by decide), fun _ => ?_⟩
              rw [wr_id (by omega) (by omega)]
              exact ih
            · have zp' : gp ex tn w i = false := by
                cases e : gp ex tn w i with
                | false => rfl
                | true => exact absurd e zp
              rw [if_neg zp]
              rw [zp', if_neg (by decide)] at ih
              have b0 := bor_0 (gu_r (p := gp ex tn w) i)
              try simp only [awu 158 6, awu 158 7, pe158, xs, i_load, i_loadR, i_inc, lg, lp, true_and, and_true, List.length_cons, List.length_nil, Nat.reduceAdd, Nat.reduceLeDiff, Nat.zero_le, Int.toNat_natCast, natLit, mK0, b0]
              refine ⟨fun _ => ?_, fun h => absurd trivial h⟩
              rw [wr_id (by omega) (by omega)]
              exact ih
        refine key2 3 0 s3 (by omega) (XM_c2 (Min_XM hM) (fun q j hj => f3 q j (by omega) (by omega))) (TrM_congr hM.2.2.2.1 (f3 99 14 (by omega) (by omega)) (fun q j hj => f3 q j (by omega) (by omega))) hA ((f3 99 3 (by omega) (by omega)).trans e3) ((f3 99 4 (by omega) (by omega)).trans e4)
      | succ m ih =>
        intro i s1 hi hC
        rw [awu 20 3]
        try simp only [awu 20 4, pe20, xs, i_load, i_loadR, i_inc, lg, lp, true_and, and_true, List.length_cons, List.length_nil, Nat.reduceAdd, Nat.reduceLeDiff, Nat.zero_le, Int.toNat_natCast, natLit, cK0, Nat.zero_add]
        refine ⟨fun h => by omega, fun _ => ?_⟩
        refine sp_learn isLn_36 isTr_8 (by decide) hC.2.2.2.1.1 hn (T0c hC hP0) cF0_FI (fun s2 y1 y2 => ?_)
        dsimp only
        have hC := Cin_congr (st' := s2) hC (fun q i hr => by rw [y2 q (by unfold rC at hr; omega)])
        try simp only [awu 20 4, pe20, xs, i_load, i_loadR, i_inc, lg, lp, true_and, and_true, List.length_cons, List.length_nil, Nat.reduceAdd, Nat.reduceLeDiff, Nat.zero_le, Int.toNat_natCast, natLit, cK0, k36, Nat.zero_add, Nat.reduceAdd]
        refine sp_facc isFd_37 hn hn0 y1.1 y1.2.1 hwf ?_
        dsimp only
        have ih := ih (i + 1) s2 (by omega) hC
        rw [gu_s (i := i)] at ih
        by_cases zp : aF (lrn (i : Int) tn.1 200 ([], cF0 ex tn)).2 tn.1 w = true
        · have zp' : gp ex tn w i = true := zp
          rw [if_pos zp]
          rw [zp', if_pos rfl] at ih
          try simp only [awu 20 5, awu 20 6, pe20, xs, i_load, i_loadR, i_inc, lg, lp, true_and, and_true, List.length_cons, List.length_nil, Nat.reduceAdd, Nat.reduceLeDiff, Nat.zero_le, Int.toNat_natCast, natLit, cK0]
          refine ⟨fun h => absurd h (by decide), fun _ => ?_⟩
          rw [wr_id (by omega) (by omega)]
          exact ih
        · have zp' : gp ex tn w i = false := by
            cases e : gp ex tn w i with
            | false => rfl
            | true => exact absurd e zp
          rw [if_neg zp]
          rw [zp', if_neg (by decide)] at ih
          try simp only [awu 20 6, pe20, xs, i_load, i_loadR, i_inc, lg, lp, true_and, and_true, List.length_cons, List.length_nil, Nat.reduceAdd, Nat.reduceLeDiff, Nat.zero_le, Int.toNat_natCast, natLit, cK0]
          refine ⟨fun _ => ?_, fun h => absurd trivial h⟩
          rw [wr_id (by omega) (by omega)]
          exact ih
    exact key 3 0 _ (by omega) hC
