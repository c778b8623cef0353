/-! calls on both: an example, a node -/
theorem ndX {a : Nat} {ex : TE} {tn : TN} (h : TNo a ex tn) {i : Nat} (hi : i < ex.1) : ∃ k, k < tn.1 ∧ tn.2 k = ex.2.1 i := by
  have hok := h.2.2.2 i hi
  refine (h.2.2.1 (ex.2.1 i)).mpr ?_
  by_cases z : wl (ex.2.1 i) = 0
  · left
    have h2 := hok.2.1
    rw [z] at h2
    unfold wl at z
    unfold wc at h2
    omega
  · exact Or.inr ⟨ex.2.1 i, ⟨ex.2.2 i, i, hi, by omega, rfl, rfl⟩, wl (ex.2.1 i), by omega, Nat.le_refl _, bg_self.symm⟩
theorem pl_u {f : Nat → Nat} {n w k p : Nat} (hs : Srt f n) (hk : k < n) (hw : f k = w) (h : IsPl (fun i => (f i : Int)) n w p) : p = k := by
  obtain ⟨h1, h2, h3⟩ := h
  have a1 : ¬ k < p := fun z => by
    have := h2 k z
    have this : (f k : Int) < w := this
    omega
  have a2 : ¬ p < k := fun z => by
    have h4 : (w : Int) ≤ f p := h3 (by omega)
    have := hs p k z hk
    omega
  omega
theorem o_which {x y : Int} {st : St} (h : INV st) : OPr 8 84 [vi x, vi y] st := by
  obtain ⟨tp, a, ex, tn, D, F, M1, M2, M3, L, t, fa, hC, hM, hP⟩ := h
  refine opp rl2 rl2 ?_
  have k01 : kl 101 = 50 := rfl
  have l01 : len 101 = 40 := rfl
  have k02 : kl 102 = 50 := rfl
  have l02 : len 102 = 40 := rfl
  have k03 : kl 103 = 52 := rfl
  have l03 : len 103 = 40 := rfl
  have k13 : kl 13 = 1 := rfl
  have hn := hP.2.2.2.1.1
  have hx40 := hP.2.2.1.1
  have w8 : wr ((ex.1 : Int) - 1) = (ex.1 : Int) - 1 := wr_id (by omega) (by omega)
  have e2 := hC.2.2.1.1
  refine MS_v [vr 0, vi x, vi y, none] rfl rfl rfl rfl ?_
  try simp only [awu 8 0, pe8, xs, i_load, i_loadR, i_inc, lg, lp, true_and, and_true, List.length_cons, List.length_nil, Nat.reduceAdd, Nat.reduceLeDiff, Nat.zero_le, Int.toNat_natCast, natLit, cK0, Nat.zero_add]
  refine sp_shas e2 hx40 ?_
  dsimp only
  by_cases z : 0 ≤ x ∧ x < (ex.1 : Int)
  · rw [if_pos z]
    obtain ⟨i, rfl⟩ : ∃ i : Nat, x = i := ⟨x.toNat, by omega⟩
    have hi : i < ex.1 := by omega
    obtain ⟨k, hk, hkw⟩ := ndX hP.2.2.2.1 hi
    have hok := okw_wf (hP.2.2.2.1.2.2.2 i hi)
    have h01 := hP.2.2.1.2.1 i hi
    have hs := hP.2.2.2.1.2.1.1
    obtain ⟨e6, e7⟩ := hC.2.2.1.2 i hi
    try simp only [awu 8 2, pe8, xs, i_load, i_loadR, i_inc, lg, lp, true_and, and_true, List.length_cons, List.length_nil, Nat.reduceAdd, Nat.reduceLeDiff, Nat.zero_le, Int.toNat_natCast, natLit, cK0, Nat.zero_add]
    refine ⟨fun _ => ?_, fun h => absurd h (by decide)⟩
    refine sp_scode e2 hx40 ?_
    dsimp only
    rw [if_pos z, Int.toNat_natCast, e6]
    have mo : ∀ (r : Int), (y = 0 → r = k) → (y = 1 → r = ex.2.2 i) → (y = 2 → r = (wl (ex.2.1 i) : Nat)) → (y = 3 → r = (rt F.1 k : Nat)) → (¬ (0 ≤ y ∧ y ≤ 3) → r = -2) → QC st 84 [vi i, vi y] (vi r) st := by
      intro r r0 r1 r2 r3 r4
      refine ⟨_, tp, a, ex, tn, D, F, M1, M2, M3, L, t, fa, rfl, hC, hP, fun s hs' => ?_⟩
      have hM := Min_s hM hs'
      obtain ⟨g1, g2, g3, g4, g6, g7, g8⟩ := id hM.2.2.2.2.1
      have e8 := hM.2.2.1.1
      obtain ⟨f1, f2, f3⟩ := hM.2.2.1.2 i hi
      refine MS_v [vr 99, vi i, vi y, none] rfl rfl rfl rfl ?_
      try simp only [awu 84 0, pe84, xs, i_load, i_loadR, i_inc, lg, lp, true_and, and_true, List.length_cons, List.length_nil, Nat.reduceAdd, Nat.reduceLeDiff, Nat.zero_le, Int.toNat_natCast, natLit, mK0, e8, w8]
      refine sp_isIn ?_
      dsimp only
      rw [if_pos (by omega)]
      try simp only [awu 84 2, pe84, xs, i_load, i_loadR, i_inc, lg, lp, true_and, and_true, List.length_cons, List.length_nil, Nat.reduceAdd, Nat.reduceLeDiff, Nat.zero_le, Int.toNat_natCast, natLit, mK0, k01, l01, k02, l02, f1, f2]
      refine ⟨fun _ => ⟨by omega, by omega, ?_⟩, fun h => absurd h (by decide)⟩
      refine sp_mno hM.2.2.2.1.1 hn hM.2.2.2.1.2.1 hs (fun p hp => ?_)
      have ep := pl_u hs hk hkw hp
      subst ep
      dsimp only
      try simp only [awu 84 0, awu 84 1, awu 84 2, awu 84 3, awu 84 4, awu 84 5, awu 84 6, awu 84 7, awu 84 8, awu 84 9, awu 84 10, pe84, xs, i_load, i_loadR, i_inc, lg, lp, true_and, and_true, List.length_cons, List.length_nil, Nat.reduceAdd, Nat.reduceLeDiff, Nat.zero_le, Int.toNat_natCast, natLit, t_sw, mK0, k01, l01, k03, l03, f1, f3]
      refine ⟨fun h => ⟨by rw [r0 h], hM⟩, fun h0 => ⟨fun h => ⟨by omega, fun h' => ⟨by rw [r1 h, h'], hM⟩, fun h' => ⟨?_, hM⟩⟩, fun h1 => ⟨fun h => ⟨by omega, by rw [r2 h], hM⟩, fun h2 => ⟨fun h => ?_, fun h3 => ⟨by rw [r4 (by omega)], hM⟩⟩⟩⟩⟩
      · rcases h01 with h01 | h01
        · exact absurd h01 h'
        · rw [r1 h, h01]
      · refine sp_mnof hn g1 g2 hk ?_
        dsimp only
        try simp only [awu 84 9, pe84, xs, i_load, i_loadR, i_inc, lg, lp, true_and, and_true, List.length_cons, List.length_nil, Nat.reduceAdd, Nat.reduceLeDiff, Nat.zero_le, Int.toNat_natCast, natLit, mK0]
        exact ⟨by rw [r3 h], hM⟩
    try simp only [awu 8 2, awu 8 3, awu 8 4, awu 8 8, awu 8 9, awu 8 10, pe8, xs, i_load, i_loadR, i_inc, lg, lp, true_and, and_true, List.length_cons, List.length_nil, Nat.reduceAdd, Nat.reduceLeDiff, Nat.zero_le, Int.toNat_natCast, natLit, t_sw, cK0, k13, Nat.zero_add, Nat.reduceAdd]
    have hno : ∀ r, noF tn.2 tn.1 (ex.2.1 i) r → r = k := fun r hr => hr.1 k hk hkw
    refine ⟨fun h => ?_, fun h0 => ⟨fun h => ?_, fun h1 => ⟨fun h => ?_, fun h2 => ⟨fun h => ?_, fun h3 => ?_⟩⟩⟩⟩
    · refine sp_tno isTr_8 hC.2.2.2.1.1 hn hC.2.2.2.1.2.1 hs (fun r hr => ?_)
      dsimp only
      try simp only [awu 8 3, pe8, xs, i_load, i_loadR, i_inc, lg, lp, true_and, and_true, List.length_cons, List.length_nil, Nat.reduceAdd, Nat.reduceLeDiff, Nat.zero_le, Int.toNat_natCast, natLit, cK0]
      exact mo r (fun _ => hno r hr) (fun _ => by omega) (fun _ => by omega) (fun _ => by omega) (fun _ => by omega)
    · refine sp_sisIn e2 hx40 (fun j hj => by rw [(hC.2.2.1.2 j hj).2]; exact hP.2.2.1.2.1 j hj) ?_
      dsimp only
      rw [if_pos z, Int.toNat_natCast, e7]
      try simp only [awu 8 5, awu 8 6, awu 8 7, pe8, xs, i_load, i_loadR, i_inc, lg, lp, true_and, and_true, List.length_cons, List.length_nil, Nat.reduceAdd, Nat.reduceLeDiff, Nat.zero_le, Int.toNat_natCast, natLit, cK0]
      refine ⟨fun h' => ?_, fun h' => ?_⟩
      · exact mo 0 (fun _ => by omega) (fun _ => h'.symm) (fun _ => by omega) (fun _ => by omega) (fun _ => by omega)
      · refine mo 1 (fun _ => by omega) (fun _ => ?_) (fun _ => by omega) (fun _ => by omega) (fun _ => by omega)
        rcases h01 with h01 | h01
        · exact absurd h01 h'
        · exact h01.symm
    · refine sp_len (by have := wf_lt hok; omega) ?_
      dsimp only
      try simp only [awu 8 8, pe8, xs, i_load, i_loadR, i_inc, lg, lp, true_and, and_true, List.length_cons, List.length_nil, Nat.reduceAdd, Nat.reduceLeDiff, Nat.zero_le, Int.toNat_natCast, natLit, cK0]
      exact mo _ (fun _ => by omega) (fun _ => by omega) (fun _ => rfl) (fun _ => by omega) (fun _ => by omega)
    · refine sp_tno isTr_8 hC.2.2.2.1.1 hn hC.2.2.2.1.2.1 hs (fun r hr => ?_)
      rw [hno r hr]
      dsimp only
      try simp only [awu 8 9, pe8, xs, i_load, i_loadR, i_inc, lg, lp, true_and, and_true, List.length_cons, List.length_nil, Nat.reduceAdd, Nat.reduceLeDiff, Nat.zero_le, Int.toNat_natCast, natLit, cK0, k13, Nat.zero_add, Nat.reduceAdd]
      refine sp_fnof isFd_14 hn hC.2.2.2.2.1.1 hC.2.2.2.2.1.2.1 hk ?_
      dsimp only
      try simp only [awu 8 9, pe8, xs, i_load, i_loadR, i_inc, lg, lp, true_and, and_true, List.length_cons, List.length_nil, Nat.reduceAdd, Nat.reduceLeDiff, Nat.zero_le, Int.toNat_natCast, natLit, cK0]
      exact mo _ (fun _ => by omega) (fun _ => by omega) (fun _ => by omega) (fun _ => rfl) (fun _ => by omega)
    · exact mo _ (fun _ => by omega) (fun _ => by omega) (fun _ => by omega) (fun _ => by omega) (fun _ => rfl)
  · rw [if_neg z]
    try simp only [awu 8 1, pe8, xs, i_load, i_loadR, i_inc, lg, lp, true_and, and_true, List.length_cons, List.length_nil, Nat.reduceAdd, Nat.reduceLeDiff, Nat.zero_le, Int.toNat_natCast, natLit, cK0]
    refine ⟨fun h => absurd trivial h, fun _ => ?_⟩
    refine ⟨_, tp, a, ex, tn, D, F, M1, M2, M3, L, t, fa, rfl, hC, hP, fun s hs => ?_⟩
    have hM := Min_s hM hs
    have e8 := hM.2.2.1.1
    refine MS_v [vr 99, vi x, vi y, none] rfl rfl rfl rfl ?_
    try simp only [awu 84 0, pe84, xs, i_load, i_loadR, i_inc, lg, lp, true_and, and_true, List.length_cons, List.length_nil, Nat.reduceAdd, Nat.reduceLeDiff, Nat.zero_le, Int.toNat_natCast, natLit, mK0, e8, w8]
    refine sp_isIn ?_
    dsimp only
    rw [if_neg (by omega)]
    try simp only [awu 84 1, pe84, xs, i_load, i_loadR, i_inc, lg, lp, true_and, and_true, List.length_cons, List.length_nil, Nat.reduceAdd, Nat.reduceLeDiff, Nat.zero_le, Int.toNat_natCast, natLit, mK0]
    exact ⟨fun h => absurd trivial h, fun _ => hM⟩
