/-! calls on both: what is asked -/
theorem o_is {x : Int} {st : St} (h : INV st) : OPr 9 88 [vi x] st := by
  obtain ⟨tp, a, ex, tn, D, F, M1, M2, M3, L, t, fa, hC, hM, hP⟩ := h
  refine opp rl1 rl1 ?_
  have k1 : kl 1 = 5 := rfl
  have k5 : kl 5 = 7 := rfl
  have k8 : kl 8 = 9 := rfl
  have k13 : kl 13 = 1 := rfl
  have k14 : kl 14 = 0 := rfl
  have hn := hP.2.2.2.1.1
  have hx40 := hP.2.2.1.1
  have mo : ∀ (r : Int) (s1 : St), Cin s1 tp a ex tn D F M1 M2 M3 L t fa → (x = 0 → r = a) → (x = 1 → r = ex.1) → (x = 2 → r = sumF ex.2.2 ex.1) → (x = 3 → r = tn.1) → (x = 4 → r = (cR F tn.1 : Nat)) → (x = 5 → r = (cn (rdB F) tn.1 : Nat)) → (x = 6 → r = (cn (blB F tn.1) tn.1 : Nat)) → (x = 7 → r = (D.length : Nat)) → (x = 8 → r = tp.1) → (¬ (0 ≤ x ∧ x ≤ 8) → r = -1) → QC st 88 [vi x] (vi r) s1 := by
    intro r s1 hC r0 r1 r2 r3 r4 r5 r6 r7 r8 r9
    refine ⟨_, tp, a, ex, tn, D, F, M1, M2, M3, L, t, fa, rfl, hC, hP, fun s hs => ?_⟩
    have hM := Min_s hM hs
    obtain ⟨g1, g2, g3, g4, g6, g7, g8⟩ := id hM.2.2.2.2.1
    have e2 := hM.2.1
    have e8 := hM.2.2.1.1
    have e14 := hM.2.2.2.1.1
    have e19 := g1.2.2.2.2
    have e1 := hM.1.1
    refine MS_v [vr 99, vi x] rfl rfl rfl rfl ?_
    try simp only [awu 88 0, awu 88 1, awu 88 2, awu 88 3, awu 88 4, awu 88 5, awu 88 6, awu 88 7, awu 88 8, awu 88 9, awu 88 10, pe88, xs, i_load, i_loadR, i_inc, lg, lp, true_and, and_true, List.length_cons, List.length_nil, Nat.reduceAdd, Nat.reduceLeDiff, Nat.zero_le, Int.toNat_natCast, natLit, t_sw, mK0, e2, e8, e14, e19, g7, e1]
    refine ⟨fun h => ⟨by rw [r0 h], hM⟩, fun h0 => ⟨fun h => ⟨by rw [r1 h], hM⟩, fun h1 => ⟨fun h => ?_, fun h2 => ⟨fun h => ⟨by rw [r3 h], hM⟩, fun h3 => ⟨fun h => ⟨by rw [r4 h], hM⟩, fun h4 => ⟨fun h => ?_, fun h5 => ⟨fun h => ?_, fun h6 => ⟨fun h => ⟨by rw [r7 h], hM⟩, fun h7 => ⟨fun h => ⟨by rw [r8 h], hM⟩, fun h8 => ⟨by rw [r9 (by omega)], hM⟩⟩⟩⟩⟩⟩⟩⟩⟩⟩
    · refine sp_inMany e8 hx40 (fun i hi => by rw [(hM.2.2.1.2 i hi).2.2]; exact hP.2.2.1.2.1 i hi) ?_
      dsimp only
      try simp only [awu 88 3, pe88, xs, i_load, i_loadR, i_inc, lg, lp, true_and, and_true, List.length_cons, List.length_nil, Nat.reduceAdd, Nat.reduceLeDiff, Nat.zero_le, Int.toNat_natCast, natLit, mK0]
      exact ⟨by rw [r2 h, sumF_congr (fun i hi => (hM.2.2.1.2 i hi).2.2) _ (Nat.le_refl _)], hM⟩
    · refine sp_redMany hn g1 g2 ?_
      dsimp only
      try simp only [awu 88 6, pe88, xs, i_load, i_loadR, i_inc, lg, lp, true_and, and_true, List.length_cons, List.length_nil, Nat.reduceAdd, Nat.reduceLeDiff, Nat.zero_le, Int.toNat_natCast, natLit, mK0]
      exact ⟨by rw [r5 h], hM⟩
    · refine sp_blueMany hn hP.2.1.2 g1 g2 g3 ?_
      dsimp only
      try simp only [awu 88 7, pe88, xs, i_load, i_loadR, i_inc, lg, lp, true_and, and_true, List.length_cons, List.length_nil, Nat.reduceAdd, Nat.reduceLeDiff, Nat.zero_le, Int.toNat_natCast, natLit, mK0]
      exact ⟨by rw [r6 h], hM⟩
  have hL5 := hC.2.2.2.2.1
  have e15 := hC.2.1
  have e2 := hC.2.2.1.1
  have e4 := hC.2.2.2.1.1
  have e10 := hL5.1.2.2.2.1
  have e10' := hL5.2.2.2.1
  have e1 := hC.1.1
  refine MS_v [vr 0, vi x] rfl rfl rfl rfl ?_
  try simp only [awu 9 0, awu 9 1, awu 9 2, awu 9 3, awu 9 4, awu 9 5, awu 9 6, awu 9 7, awu 9 8, awu 9 9, awu 9 10, pe9, xs, i_load, i_loadR, i_inc, lg, lp, true_and, and_true, List.length_cons, List.length_nil, Nat.reduceAdd, Nat.reduceLeDiff, Nat.zero_le, Int.toNat_natCast, natLit, t_sw, cK0, k1, k5, k8, k13, k14, e15, e2, e4, e10, e10', e1, Nat.zero_add, Nat.reduceAdd]
  refine ⟨fun h => ?_, fun h0 => ⟨fun h => ?_, fun h1 => ⟨fun h => ?_, fun h2 => ⟨fun h => ?_, fun h3 => ⟨fun h => ?_, fun h4 => ⟨fun h => ?_, fun h5 => ⟨fun h => ?_, fun h6 => ⟨fun h => ?_, fun h7 => ⟨fun h => ?_, fun h8 => ?_⟩⟩⟩⟩⟩⟩⟩⟩⟩
  · exact mo _ st hC (fun _ => rfl) (fun _ => by omega) (fun _ => by omega) (fun _ => by omega) (fun _ => by omega) (fun _ => by omega) (fun _ => by omega) (fun _ => by omega) (fun _ => by omega) (fun _ => by omega)
  · exact mo _ st hC (fun _ => by omega) (fun _ => rfl) (fun _ => by omega) (fun _ => by omega) (fun _ => by omega) (fun _ => by omega) (fun _ => by omega) (fun _ => by omega) (fun _ => by omega) (fun _ => by omega)
  · refine sp_scnt e2 hx40 (fun i hi => by rw [(hC.2.2.1.2 i hi).2]; exact hP.2.2.1.2.1 i hi) ?_
    dsimp only
    try simp only [awu 9 3, pe9, xs, i_load, i_loadR, i_inc, lg, lp, true_and, and_true, List.length_cons, List.length_nil, Nat.reduceAdd, Nat.reduceLeDiff, Nat.zero_le, Int.toNat_natCast, natLit, cK0]
    exact mo _ st hC (fun _ => by omega) (fun _ => by omega) (fun _ => sumF_congr (fun i hi => (hC.2.2.1.2 i hi).2) _ (Nat.le_refl _)) (fun _ => by omega) (fun _ => by omega) (fun _ => by omega) (fun _ => by omega) (fun _ => by omega) (fun _ => by omega) (fun _ => by omega)
  · exact mo _ st hC (fun _ => by omega) (fun _ => by omega) (fun _ => by omega) (fun _ => rfl) (fun _ => by omega) (fun _ => by omega) (fun _ => by omega) (fun _ => by omega) (fun _ => by omega) (fun _ => by omega)
  · exact mo _ st hC (fun _ => by omega) (fun _ => by omega) (fun _ => by omega) (fun _ => by omega) (fun _ => rfl) (fun _ => by omega) (fun _ => by omega) (fun _ => by omega) (fun _ => by omega) (fun _ => by omega)
  · refine sp_paint isLn_13 hn hL5.1 hL5.2.1 (fun s1 y1 y2 y3 => ?_)
    dsimp only
    have hC := Cin_congr (st' := s1) hC (fun q i hr => y3 q i (by unfold rC at hr; omega) (by unfold rC at hr; omega) (by unfold rC at hr; omega) (by unfold rC at hr; omega))
    have e8 := y1.1
    try simp only [awu 9 6, pe9, xs, i_load, i_loadR, i_inc, lg, lp, true_and, and_true, List.length_cons, List.length_nil, Nat.reduceAdd, Nat.reduceLeDiff, Nat.zero_le, Int.toNat_natCast, natLit, cK0, k13, e8, Nat.zero_add]
    exact mo _ s1 hC (fun _ => by omega) (fun _ => by omega) (fun _ => by omega) (fun _ => by omega) (fun _ => by omega) (fun _ => rfl) (fun _ => by omega) (fun _ => by omega) (fun _ => by omega) (fun _ => by omega)
  · refine sp_paint isLn_13 hn hL5.1 hL5.2.1 (fun s1 y1 y2 y3 => ?_)
    dsimp only
    have hC := Cin_congr (st' := s1) hC (fun q i hr => y3 q i (by unfold rC at hr; omega) (by unfold rC at hr; omega) (by unfold rC at hr; omega) (by unfold rC at hr; omega))
    have e9 := y1.2.1
    try simp only [awu 9 7, pe9, xs, i_load, i_loadR, i_inc, lg, lp, true_and, and_true, List.length_cons, List.length_nil, Nat.reduceAdd, Nat.reduceLeDiff, Nat.zero_le, Int.toNat_natCast, natLit, cK0, k13, e9, Nat.zero_add]
    exact mo _ s1 hC (fun _ => by omega) (fun _ => by omega) (fun _ => by omega) (fun _ => by omega) (fun _ => by omega) (fun _ => by omega) (fun _ => rfl) (fun _ => by omega) (fun _ => by omega) (fun _ => by omega)
  · exact mo _ st hC (fun _ => by omega) (fun _ => by omega) (fun _ => by omega) (fun _ => by omega) (fun _ => by omega) (fun _ => by omega) (fun _ => by omega) (fun _ => rfl) (fun _ => by omega) (fun _ => by omega)
  · exact mo _ st hC (fun _ => by omega) (fun _ => by omega) (fun _ => by omega) (fun _ => by omega) (fun _ => by omega) (fun _ => by omega) (fun _ => by omega) (fun _ => by omega) (fun _ => rfl) (fun _ => by omega)
  · exact mo _ st hC (fun _ => by omega) (fun _ => by omega) (fun _ => by omega) (fun _ => by omega) (fun _ => by omega) (fun _ => by omega) (fun _ => by omega) (fun _ => by omega) (fun _ => by omega) (fun _ => rfl)
theorem o_writeNode {x : Int} {st : St} (h : INV st) : OPr 11 90 [vi x] st := by
  obtain ⟨tp, a, ex, tn, D, F, M1, M2, M3, L, t, fa, hC, hM, hP⟩ := h
  refine opp rl1 rl1 ?_
  have k3 : kl 3 = 5 := rfl
  have k8 : kl 8 = 9 := rfl
  have k9 : kl 9 = 50 := rfl
  have l9 : len 9 = 120 := rfl
  have hn := hP.2.2.2.1.1
  have w14 : wr ((tn.1 : Int) - 1) = (tn.1 : Int) - 1 := wr_id (by omega) (by omega)
  refine MS_v [vr 0, vi x] rfl rfl rfl rfl ?_
  try simp only [awu 11 0, pe11, xs, i_load, i_loadR, i_inc, lg, lp, true_and, and_true, List.length_cons, List.length_nil, Nat.reduceAdd, Nat.reduceLeDiff, Nat.zero_le, Int.toNat_natCast, natLit, cK0, Nat.zero_add]
  refine sp_thas isTr_8 hC.2.2.2.1.1 hn ?_
  dsimp only
  by_cases z : 0 ≤ x ∧ x < (tn.1 : Int)
  · rw [if_pos z]
    obtain ⟨k, rfl⟩ : ∃ k : Nat, x = k := ⟨x.toNat, by omega⟩
    have hwf := (hP.2.2.2.1.2.1.2.2.2 k (by omega)).1
    try simp only [awu 11 2, pe11, xs, i_load, i_loadR, i_inc, lg, lp, true_and, and_true, List.length_cons, List.length_nil, Nat.reduceAdd, Nat.reduceLeDiff, Nat.zero_le, Int.toNat_natCast, natLit, cK0, Nat.zero_add]
    refine ⟨fun _ => ?_, fun h => absurd h (by decide)⟩
    refine sp_cut k3 ?_
    dsimp only
    have hC := Cin_cut hC
    have e9 := hC.2.2.2.1.2.1 k (by omega)
    try simp only [awu 11 2, pe11, xs, i_load, i_loadR, i_inc, lg, lp, true_and, and_true, List.length_cons, List.length_nil, Nat.reduceAdd, Nat.reduceLeDiff, Nat.zero_le, Int.toNat_natCast, natLit, cK0, k8, k9, l9, e9, Nat.zero_add, Nat.reduceAdd]
    refine ⟨by omega, ?_⟩
    refine sp_putWord hC.2.2.2.2.2.2.1 hwf (fun s5 g1 g2 => ?_)
    dsimp only
    have hC := Cin_L hC g2 g1
    try simp only [awu 11 2, pe11, xs, i_load, i_loadR, i_inc, lg, lp, true_and, and_true, List.length_cons, List.length_nil, Nat.reduceAdd, Nat.reduceLeDiff, Nat.zero_le, Int.toNat_natCast, natLit, cK0, k3, g1.1, Nat.zero_add]
    have hl : (wdL (tn.2 k) (wl (tn.2 k))).length = wl (tn.2 k) := wdL_len _
    have hw10 := hwf.1
    refine ⟨_, tp, a, ex, tn, D, F, M1, M2, M3, _, t, fa, rfl, hC, Pur_L hP (by omega), fun s hs => ?_⟩
    have hM := Min_s hM hs
    have e14 := hM.2.2.2.1.1
    obtain ⟨f4, f5⟩ := hM.2.2.2.1.2.1 k (by omega)
    refine MS_v [vr 99, vi k, none] rfl rfl rfl rfl ?_
    try simp only [awu 90 0, pe90, xs, i_load, i_loadR, i_inc, lg, lp, true_and, and_true, List.length_cons, List.length_nil, Nat.reduceAdd, Nat.reduceLeDiff, Nat.zero_le, Int.toNat_natCast, natLit, mK0, e14, w14]
    refine sp_isIn ?_
    dsimp only
    rw [if_pos (by omega)]
    try simp only [pe90, xs, i_load, i_loadR, i_inc, lg, lp, true_and, and_true, List.length_cons, List.length_nil, Nat.reduceAdd, Nat.reduceLeDiff, Nat.zero_le, Int.toNat_natCast, natLit, mK0]
    refine ⟨fun _ => ?_, fun h => absurd h (by decide)⟩
    exact sp_mwrnode (n := 0) (by omega) f4 f5 hwf (fun s4 y1 y2 => ⟨by rw [hl], Min_L hM y2 y1⟩)
  · rw [if_neg z]
    try simp only [awu 11 1, pe11, xs, i_load, i_loadR, i_inc, lg, lp, true_and, and_true, List.length_cons, List.length_nil, Nat.reduceAdd, Nat.reduceLeDiff, Nat.zero_le, Int.toNat_natCast, natLit, cK0]
    refine ⟨fun h => absurd trivial h, fun _ => ?_⟩
    refine ⟨_, tp, a, ex, tn, D, F, M1, M2, M3, L, t, fa, rfl, hC, hP, fun s hs => ?_⟩
    have hM := Min_s hM hs
    have e14 := hM.2.2.2.1.1
    refine MS_v [vr 99, vi x, none] rfl rfl rfl rfl ?_
    try simp only [awu 90 0, pe90, xs, i_load, i_loadR, i_inc, lg, lp, true_and, and_true, List.length_cons, List.length_nil, Nat.reduceAdd, Nat.reduceLeDiff, Nat.zero_le, Int.toNat_natCast, natLit, mK0, e14, w14]
    refine sp_isIn ?_
    dsimp only
    rw [if_neg (by omega)]
    try simp only [awu 90 1, pe90, xs, i_load, i_loadR, i_inc, lg, lp, true_and, and_true, List.length_cons, List.length_nil, Nat.reduceAdd, Nat.reduceLeDiff, Nat.zero_le, Int.toNat_natCast, natLit, mK0]
    exact ⟨fun h => absurd trivial h, fun _ => hM⟩
