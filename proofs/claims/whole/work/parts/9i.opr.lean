/-! calls on both: letters -/
def noE (ex : TE) : TE := (0, ex.2)
def noM (M : MC) : MC := (0, M.2)
theorem PX_0 {a : Nat} {ex : TE} (ha : 1 ≤ a ∧ a ≤ 4) : PX a (noE ex) := by
  refine ⟨ha, ⟨Nat.zero_le _, fun i hi => absurd hi (Nat.not_lt_zero _), fun i j _ hj => absurd hj (Nat.not_lt_zero _)⟩, fun i hi => absurd hi (Nat.not_lt_zero _), fun f n hf hm => ?_⟩
  have key : ∀ i, i < n → f i = 0 := fun i hi => by
    rcases hm i hi with h | ⟨w, ⟨v, j, hj, _⟩, _⟩
    · exact h
    · exact absurd hj (Nat.not_lt_zero _)
  by_cases z : n ≤ 1
  · omega
  · have h1 := hf 0 1 (by omega) (by omega)
    have h2 := key 0 (by omega)
    have h3 := key 1 (by omega)
    omega
theorem MW_0 {a : Nat} {M : MC} : MW a (noM M) := ⟨fun s hs => absurd hs (Nat.not_lt_zero _), fun i hi => absurd hi (Nat.not_lt_zero _), fun s l hs => absurd hs (Nat.not_lt_zero _)⟩
theorem MCc_0 {st : St} {o c : Nat} {M : MC} (h : st o 2 = 0) : MCc st o c (noM M) := ⟨h, Nat.zero_le _, fun s hs => absurd hs (Nat.not_lt_zero _), fun i hi => absurd hi (Nat.not_lt_zero _)⟩
theorem MCm_0 {st : St} {m : Nat} {M : MC} (h : st 119 m = 0) : MCm st m (noM M) := ⟨h, Nat.zero_le _, fun s hs => absurd hs (Nat.not_lt_zero _), fun i hi => absurd hi (Nat.not_lt_zero _)⟩
theorem o_letters {x : Int} {st : St} (h : INV st) : OPr 0 80 [vi x] st := by
  obtain ⟨tp, a, ex, tn, D, F, M1, M2, M3, L, t, fa, hC, hM, hP⟩ := h
  refine opp rl1 rl1 ?_
  have no : ¬ (1 ≤ x ∧ x ≤ 4) → QC st 80 [vi x] (vi 0) st := by
    intro hno
    refine ⟨_, tp, a, ex, tn, D, F, M1, M2, M3, L, t, fa, rfl, hC, hP, fun s hs => ?_⟩
    have hM := Min_s hM hs
    refine MS_v [vr 99, vi x, none] rfl rfl rfl rfl ?_
    try simp only [awu 80 0, pe80, xs, i_load, i_loadR, i_inc, lg, lp, true_and, and_true, List.length_cons, List.length_nil, Nat.reduceAdd, Nat.reduceLeDiff, Nat.zero_le, Int.toNat_natCast, natLit, mK0]
    refine sp_isIn ?_
    dsimp only
    rw [if_neg hno]
    try simp only [awu 80 1, pe80, xs, i_load, i_loadR, i_inc, lg, lp, true_and, and_true, List.length_cons, List.length_nil, Nat.reduceAdd, Nat.reduceLeDiff, Nat.zero_le, Int.toNat_natCast, natLit, mK0]
    exact ⟨fun h => absurd trivial h, fun _ => ⟨ok01_0, hM⟩⟩
  refine MS_v [vr 0, vi x] rfl rfl rfl rfl ?_
  try simp only [awu 0 0, awu 0 1, awu 0 2, pe0, xs, i_load, i_loadR, i_inc, lg, lp, true_and, and_true, List.length_cons, List.length_nil, Nat.reduceAdd, Nat.reduceLeDiff, Nat.zero_le, Int.toNat_natCast, natLit, cK0]
  refine ⟨fun h => ⟨ok01_0, no (by omega)⟩, fun h1 => ⟨fun h4 => ?_, fun h4 => ⟨ok01_0, no (by omega)⟩⟩⟩
  obtain ⟨b, rfl⟩ : ∃ b : Nat, x = b := ⟨x.toNat, by omega⟩
  have hb : 1 ≤ b ∧ b ≤ 4 := by omega
  try simp only [awu 0 3, pe0, xs, i_load, i_loadR, i_inc, lg, lp, true_and, and_true, List.length_cons, List.length_nil, Nat.reduceAdd, Nat.reduceLeDiff, Nat.zero_le, Int.toNat_natCast, natLit, cK0, Nat.zero_add]
  refine sp_sclear ?_
  dsimp only
  try simp only [awu 0 3, pe0, xs, i_load, i_loadR, i_inc, lg, lp, true_and, and_true, List.length_cons, List.length_nil, Nat.reduceAdd, Nat.reduceLeDiff, Nat.zero_le, Int.toNat_natCast, natLit, cK0, Nat.zero_add]
  refine sp_mcclear isMc_57 ?_
  dsimp only
  try simp only [awu 0 3, pe0, xs, i_load, i_loadR, i_inc, lg, lp, true_and, and_true, List.length_cons, List.length_nil, Nat.reduceAdd, Nat.reduceLeDiff, Nat.zero_le, Int.toNat_natCast, natLit, cK0, Nat.zero_add]
  refine sp_mcclear isMc_60 ?_
  dsimp only
  try simp only [awu 0 3, pe0, xs, i_load, i_loadR, i_inc, lg, lp, true_and, and_true, List.length_cons, List.length_nil, Nat.reduceAdd, Nat.reduceLeDiff, Nat.zero_le, Int.toNat_natCast, natLit, cK0, Nat.zero_add]
  refine sp_mcclear isMc_63 ?_
  dsimp only
  try simp only [awu 0 3, pe0, xs, i_load, i_loadR, i_inc, lg, lp, true_and, and_true, List.length_cons, List.length_nil, Nat.reduceAdd, Nat.reduceLeDiff, Nat.zero_le, Int.toNat_natCast, natLit, cK0, Nat.zero_add]
  generalize hS : up2 (up2 (up2 (up2 (up2 st 0 15 (b : Int)) 5 2 0) 57 2 0) 60 2 0) 63 2 0 = S
  have fr : ∀ q, q ≠ 0 → q ≠ 5 → q ≠ 57 → q ≠ 60 → q ≠ 63 → S q = st q := fun q a1 a2 a3 a4 a5 => by rw [← hS, up2_ne a5, up2_ne a4, up2_ne a3, up2_ne a2, up2_ne a1]
  have f0 : S 0 15 = (b : Int) ∧ S 0 16 = st 0 16 := by
    rw [← hS, up2_ne (by decide), up2_ne (by decide), up2_ne (by decide), up2_ne (by decide), up2_self, upf_s, upf_n (by decide)]
    exact ⟨rfl, rfl⟩
  have f5 : S 5 2 = 0 := by rw [← hS, up2_ne (by decide), up2_ne (by decide), up2_ne (by decide), up2_self, upf_s]
  have f57 : S 57 2 = 0 := by rw [← hS, up2_ne (by decide), up2_ne (by decide), up2_self, upf_s]
  have f60 : S 60 2 = 0 := by rw [← hS, up2_ne (by decide), up2_self, upf_s]
  have f63 : S 63 2 = 0 := by rw [← hS, up2_self, upf_s]
  have hX : CX S tp b (noE ex) (noM M1) (noM M2) (noM M3) L t fa := by
    obtain ⟨h1, h2, h3, h4, h5, h6, h7⟩ := Cin_CX hC
    exact ⟨⟨by rw [fr 1 (by decide) (by decide) (by decide) (by decide) (by decide)]; exact h1.1, fun j hj => by rw [fr 2 (by decide) (by decide) (by decide) (by decide) (by decide)]; exact h1.2 j hj⟩, f0.1, ⟨f5, fun j hj => absurd hj (Nat.not_lt_zero _)⟩, ⟨MCc_0 f57, MCc_0 f60, MCc_0 f63⟩, ⟨by rw [fr 3 (by decide) (by decide) (by decide) (by decide) (by decide)]; exact h5.1, fun j hj => by rw [fr 4 (by decide) (by decide) (by decide) (by decide) (by decide)]; exact h5.2 j hj⟩, by rw [fr 66 (by decide) (by decide) (by decide) (by decide) (by decide)]; exact h6, by rw [f0.2]; exact h7⟩
  have hPX : PX b (noE ex) := PX_0 hb
  refine CB1 hX hPX (fun s2 tn' hX hT hR => ?_)
  dsimp only
  try simp only [awu 0 3, pe0, xs, i_load, i_loadR, i_inc, lg, lp, true_and, and_true, List.length_cons, List.length_nil, Nat.reduceAdd, Nat.reduceLeDiff, Nat.zero_le, Int.toNat_natCast, natLit, cK0, Nat.zero_add]
  refine CB2 hX hPX hT hR (fun s3 hC => ?_)
  dsimp only
  try simp only [awu 0 3, pe0, xs, i_load, i_loadR, i_inc, lg, lp, true_and, and_true, List.length_cons, List.length_nil, Nat.reduceAdd, Nat.reduceLeDiff, Nat.zero_le, Int.toNat_natCast, natLit, cK0]
  refine ⟨ok01_1, ?_⟩
  refine ⟨_, tp, b, noE ex, tn', [], cF0 (noE ex) tn', noM M1, noM M2, noM M3, L, t, fa, rfl, hC, ⟨hP.1, hb, hPX.2.1, hT, rfl, ⟨MW_0, MW_0, MW_0⟩, ⟨Nat.zero_le _, Nat.zero_le _, Nat.zero_le _, Or.inl (Nat.zero_le _)⟩, hP.2.2.2.2.2.2.2⟩, fun s hs => ?_⟩
  have hM := Min_s hM hs
  refine MS_v [vr 99, vi b, none] rfl rfl rfl rfl ?_
  try simp only [awu 80 0, pe80, xs, i_load, i_loadR, i_inc, lg, lp, true_and, and_true, List.length_cons, List.length_nil, Nat.reduceAdd, Nat.reduceLeDiff, Nat.zero_le, Int.toNat_natCast, natLit, mK0]
  refine sp_isIn ?_
  dsimp only
  rw [if_pos (by omega)]
  try simp only [awu 80 2, pe80, xs, i_load, i_loadR, i_inc, lg, lp, true_and, and_true, List.length_cons, List.length_nil, Nat.reduceAdd, Nat.reduceLeDiff, Nat.zero_le, Int.toNat_natCast, natLit, mK0]
  refine ⟨fun _ => ?_, fun h => absurd h (by decide)⟩
  have key : ∀ m i : Nat, ∀ s2 : St, i + m = 4 → 1 ≤ i → (∀ q j, ¬ (q = 99 ∧ (j = 2 ∨ j = 8)) → ¬ (q = 119 ∧ 1 ≤ j ∧ j < 4) → s2 q j = s q j) → s2 99 2 = (b : Int) → s2 99 8 = 0 → (∀ j, 1 ≤ j → j < i → s2 119 j = 0) → AW (P 80) (fun v' s2 => v' = vi 1 ∧ Min s2 tp b (noE ex) tn' [] (cF0 (noE ex) tn') (noM M1) (noM M2) (noM M3) L t fa) (MS 9) 0 (fun _ => 0) 3 [vr 99, vi b, vi i] [] s2 := by
    intro m
    induction m with
    | zero =>
      intro i s2 hi _ g1 g2 g3 g4
      rw [awu 80 3]
      try simp only [awu 80 5, pe80, xs, i_load, i_loadR, i_inc, lg, lp, true_and, and_true, List.length_cons, List.length_nil, Nat.reduceAdd, Nat.reduceLeDiff, Nat.zero_le, Int.toNat_natCast, natLit, mK0]
      refine ⟨fun _ => ?_, fun h => by omega⟩
      have hX : XM s2 tp b (noE ex) (noM M1) (noM M2) (noM M3) L t fa := by
        obtain ⟨h1, h2, h3, h4, h5, h6, h7⟩ := Min_XM hM
        exact ⟨⟨by rw [g1 99 1 (by omega) (by omega)]; exact h1.1, fun j hj => by rw [g1 100 j (by omega) (by omega)]; exact h1.2 j hj⟩, g2, ⟨g3, fun j hj => absurd hj (Nat.not_lt_zero _)⟩, ⟨MCm_0 (g4 1 (by omega) (by omega)), MCm_0 (g4 2 (by omega) (by omega)), MCm_0 (g4 3 (by omega) (by omega))⟩, ⟨by rw [g1 99 62 (by omega) (by omega)]; exact h5.1, fun j hj => by rw [g1 144 j (by omega) (by omega)]; exact h5.2 j hj⟩, by rw [g1 99 40 (by omega) (by omega)]; exact h6, by rw [g1 99 42 (by omega) (by omega)]; exact h7⟩
      refine MB hX hPX hT (fun s5 hM => ?_)
      dsimp only
      try simp only [awu 80 5, pe80, xs, i_load, i_loadR, i_inc, lg, lp, true_and, and_true, List.length_cons, List.length_nil, Nat.reduceAdd, Nat.reduceLeDiff, Nat.zero_le, Int.toNat_natCast, natLit, mK0]
      exact ⟨ok01_1, hM⟩
    | succ m ih =>
      intro i s2 hi h1 g1 g2 g3 g4
      rw [awu 80 3]
      try simp only [awu 80 4, pe80, xs, i_load, i_loadR, i_inc, lg, lp, true_and, and_true, List.length_cons, List.length_nil, Nat.reduceAdd, Nat.reduceLeDiff, Nat.zero_le, Int.toNat_natCast, natLit, mK0, mK19, mL19]
      refine ⟨fun h => by omega, fun _ => ⟨by omega, ?_⟩⟩
      rw [wr_id (by omega) (by omega)]
      refine ih (i + 1) _ (by omega) (by omega) (fun q j a1 a2 => ?_) ?_ ?_ (fun j a1 a2 => ?_)
      · by_cases zq : q = 119
        · subst zq
          rw [up2_self, upf_n (by omega)]
          exact g1 119 j a1 a2
        · rw [up2_ne zq]
          exact g1 q j a1 a2
      · rw [up2_ne (by decide)]
        exact g2
      · rw [up2_ne (by decide)]
        exact g3
      · rw [up2_self]
        by_cases zj : j = i
        · subst zj
          rw [upf_s]
        · rw [upf_n zj]
          exact g4 j a1 (by omega)
  refine key 3 1 _ (by omega) (by omega) (fun q j a1 a2 => ?_) ?_ ?_ (fun j a1 a2 => by omega)
  · by_cases zq : q = 99
    · subst zq
      rw [up2_self, upf_n (by omega), up2_self, upf_n (by omega)]
    · rw [up2_ne zq, up2_ne zq]
  · rw [up2_self, upf_n (by decide), up2_self, upf_s]
  · rw [up2_self, upf_s]
