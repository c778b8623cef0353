/-! calls on both: letters, drop -/
theorem Srt_rm {f : Nat → Nat} {n p : Nat} (h : Srt f n) : Srt (fun i => if i < p then f i else f (i + 1)) (n - 1) := by
  intro i j hij hj
  show (if i < p then f i else f (i + 1)) < (if j < p then f j else f (j + 1))
  by_cases z1 : i < p
  · rw [if_pos z1]
    by_cases z2 : j < p
    · rw [if_pos z2]
      exact h i j hij (by omega)
    · rw [if_neg z2]
      exact h i (j + 1) (by omega) (by omega)
  · rw [if_neg z1, if_neg (by omega)]
    exact h (i + 1) (j + 1) (by omega) (by omega)
theorem Pf_mono {S S' : Nat → Prop} (h : ∀ w, S w → S' w) {x : Nat} (hx : Pf S x) : Pf S' x := by
  rcases hx with hx | ⟨w, h1, h2⟩
  · exact Or.inl hx
  · exact Or.inr ⟨w, h w h1, h2⟩
def rmE (ex : TE) (p : Nat) : TE := (ex.1 - 1, fun i => if i < p then ex.2.1 i else ex.2.1 (i + 1), fun i => if i < p then ex.2.2 i else ex.2.2 (i + 1))
theorem PX_rm {a : Nat} {ex : TE} {tn : TN} {p : Nat} (ha : 1 ≤ a ∧ a ≤ 4) (h : ex.1 ≤ 40 ∧ (∀ i, i < ex.1 → ok01 (ex.2.2 i)) ∧ Srt ex.2.1 ex.1) (hT : TNo a ex tn) (hp : p < ex.1) : PX a (rmE ex p) := by
  refine ⟨ha, ⟨by show ex.1 - 1 ≤ 40; omega, fun i hi => ?_, Srt_rm h.2.2⟩, fun i hi => ?_, ?_⟩
  · have hi : i < ex.1 - 1 := hi
    show ok01 (if i < p then ex.2.2 i else ex.2.2 (i + 1))
    split
    · exact h.2.1 i (by omega)
    · exact h.2.1 (i + 1) (by omega)
  · have hi : i < ex.1 - 1 := hi
    show okw a (if i < p then ex.2.1 i else ex.2.1 (i + 1))
    split
    · exact hT.2.2.2 i (by omega)
    · exact hT.2.2.2 (i + 1) (by omega)
  · refine Cp_le (Cp_sub (Cp_mm hT.2.1.1) (fun x hx => (hT.2.2.1 x).mpr (Pf_mono (fun w hw => ?_) hx))) hT.1
    obtain ⟨v, i, i1, _, i2, i3⟩ := hw
    have i1 : i < ex.1 - 1 := i1
    have i2 : (if i < p then ex.2.1 i else ex.2.1 (i + 1)) = w := i2
    have i3 : (if i < p then ex.2.2 i else ex.2.2 (i + 1)) = v := i3
    by_cases z : i < p
    · rw [if_pos z] at i2 i3
      exact ⟨v, i, by omega, by omega, i2, i3⟩
    · rw [if_neg z] at i2 i3
      exact ⟨v, i + 1, by omega, by omega, i2, i3⟩
theorem o_drop {x : Int} {st : St} (h : INV st) : OPr 4 83 [vi x] st := by
  obtain ⟨tp, a, ex, tn, D, F, M1, M2, M3, L, t, fa, hC, hM, hP⟩ := h
  refine opp rl1 rl1 ?_
  have k5 : kl 5 = 7 := rfl
  have hx40 := hP.2.2.1.1
  have w8' : wr ((ex.1 : Int) - 1) = (ex.1 : Int) - 1 := wr_id (by omega) (by omega)
  have e2 := hC.2.2.1.1
  refine MS_v [vr 0, vi x] rfl rfl rfl rfl ?_
  try simp only [awu 4 0, pe4, xs, i_load, i_loadR, i_inc, lg, lp, true_and, and_true, List.length_cons, List.length_nil, Nat.reduceAdd, Nat.reduceLeDiff, Nat.zero_le, Int.toNat_natCast, natLit, cK0, Nat.zero_add]
  refine sp_shas e2 hx40 ?_
  dsimp only
  by_cases z : 0 ≤ x ∧ x < (ex.1 : Int)
  · rw [if_pos z]
    obtain ⟨i, rfl⟩ : ∃ i : Nat, x = i := ⟨x.toNat, by omega⟩
    have hi : i < ex.1 := by omega
    have hPX := PX_rm hP.2.1 hP.2.2.1 hP.2.2.2.1 hi
    try simp only [awu 4 2, pe4, xs, i_load, i_loadR, i_inc, lg, lp, true_and, and_true, List.length_cons, List.length_nil, Nat.reduceAdd, Nat.reduceLeDiff, Nat.zero_le, Int.toNat_natCast, natLit, cK0, Nat.zero_add]
    refine ⟨fun _ => ?_, fun h => absurd h (by decide)⟩
    refine sp_srem e2 hx40 hi (fun j hj => by rw [(hC.2.2.1.2 j hj).2]; exact hP.2.2.1.2.1 j hj) (fun s1 y1 y2 y3 y4 => ?_)
    dsimp only
    try simp only [awu 4 2, pe4, xs, i_load, i_loadR, i_inc, lg, lp, true_and, and_true, List.length_cons, List.length_nil, Nat.reduceAdd, Nat.reduceLeDiff, Nat.zero_le, Int.toNat_natCast, natLit, cK0, Nat.zero_add]
    have hX : CX s1 tp a (rmE ex i) M1 M2 M3 L t fa := by
      obtain ⟨h1, h2, h3, h4, h5, h6, h7⟩ := Cin_CX hC
      refine ⟨⟨by rw [y4 1 (by decide) (by decide) (by decide)]; exact h1.1, fun j hj => by rw [y4 2 (by decide) (by decide) (by decide)]; exact h1.2 j hj⟩, by rw [y4 0 (by decide) (by decide) (by decide)]; exact h2, ⟨y1, fun j hj => ?_⟩, ⟨MCc_congr h4.1 (fun q a b => y4 q (by omega) (by omega) (by omega)), MCc_congr h4.2.1 (fun q a b => y4 q (by omega) (by omega) (by omega)), MCc_congr h4.2.2 (fun q a b => y4 q (by omega) (by omega) (by omega))⟩, ⟨by rw [y4 3 (by decide) (by decide) (by decide)]; exact h5.1, fun j hj => by rw [y4 4 (by decide) (by decide) (by decide)]; exact h5.2 j hj⟩, by rw [y4 66 (by decide) (by decide) (by decide)]; exact h6, by rw [y4 0 (by decide) (by decide) (by decide)]; exact h7⟩
      have hj : j < ex.1 - 1 := hj
      rw [y2 j hj, y3 j hj]
      unfold remF
      show (if j < i then st 6 j else st 6 (j + 1)) = ((if j < i then ex.2.1 j else ex.2.1 (j + 1) : Nat) : Int) ∧ (if j < i then st 7 j else st 7 (j + 1)) = (if j < i then ex.2.2 j else ex.2.2 (j + 1))
      by_cases zj : j < i
      · rw [if_pos zj, if_pos zj, if_pos zj, if_pos zj]
        exact h3.2 j (by omega)
      · rw [if_neg zj, if_neg zj, if_neg zj, if_neg zj]
        exact h3.2 (j + 1) (by omega)
    refine CB1 hX hPX (fun s2 tn' hX hT hR => ?_)
    dsimp only
    try simp only [awu 4 2, pe4, xs, i_load, i_loadR, i_inc, lg, lp, true_and, and_true, List.length_cons, List.length_nil, Nat.reduceAdd, Nat.reduceLeDiff, Nat.zero_le, Int.toNat_natCast, natLit, cK0, Nat.zero_add]
    refine CB2 hX hPX hT hR (fun s3 hC => ?_)
    dsimp only
    have e5 := hC.2.2.1.1
    try simp only [awu 4 2, pe4, xs, i_load, i_loadR, i_inc, lg, lp, true_and, and_true, List.length_cons, List.length_nil, Nat.reduceAdd, Nat.reduceLeDiff, Nat.zero_le, Int.toNat_natCast, natLit, cK0, k5, e5, Nat.zero_add]
    refine ⟨_, tp, a, rmE ex i, tn', [], cF0 (rmE ex i) tn', M1, M2, M3, L, t, fa, rfl, hC, Pur_X hP hPX hT, fun s hs => ?_⟩
    have hM := Min_s hM hs
    have e8 := hM.2.2.1.1
    refine MS_v [vr 99, vi i] rfl rfl rfl rfl ?_
    try simp only [awu 83 0, pe83, xs, i_load, i_loadR, i_inc, lg, lp, true_and, and_true, List.length_cons, List.length_nil, Nat.reduceAdd, Nat.reduceLeDiff, Nat.zero_le, Int.toNat_natCast, natLit, mK0, e8, w8']
    refine sp_isIn ?_
    dsimp only
    rw [if_pos (by omega)]
    try simp only [awu 83 2, pe83, xs, i_load, i_loadR, i_inc, lg, lp, true_and, and_true, List.length_cons, List.length_nil, Nat.reduceAdd, Nat.reduceLeDiff, Nat.zero_le, Int.toNat_natCast, natLit, mK0]
    refine ⟨fun _ => ?_, fun h => absurd h (by decide)⟩
    refine sp_mrem e8 hx40 hi (fun j hj => by rw [(hM.2.2.1.2 j hj).2.2]; exact hP.2.2.1.2.1 j hj) (fun s4 v1 v2 v3 => ?_)
    dsimp only
    try simp only [awu 83 2, pe83, xs, i_load, i_loadR, i_inc, lg, lp, true_and, and_true, List.length_cons, List.length_nil, Nat.reduceAdd, Nat.reduceLeDiff, Nat.zero_le, Int.toNat_natCast, natLit, mK0]
    have hX : XM s4 tp a (rmE ex i) M1 M2 M3 L t fa := by
      obtain ⟨h1, h2, h3, h4, h5, h6, h7⟩ := Min_XM hM
      refine ⟨⟨by rw [v3 99 1 (by omega) (by omega) (by omega) (by omega)]; exact h1.1, fun j hj => by rw [v3 100 j (by omega) (by omega) (by omega) (by omega)]; exact h1.2 j hj⟩, by rw [v3 99 2 (by omega) (by omega) (by omega) (by omega)]; exact h2, ⟨v1, fun j hj => ?_⟩, ⟨MCm_congr h4.1 (v3 _ _ (by omega) (by omega) (by omega) (by omega)) (fun i a b => v3 _ _ (by omega) (by omega) (by omega) (by omega)) (fun i a b => v3 _ _ (by omega) (by omega) (by omega) (by omega)), MCm_congr h4.2.1 (v3 _ _ (by omega) (by omega) (by omega) (by omega)) (fun i a b => v3 _ _ (by omega) (by omega) (by omega) (by omega)) (fun i a b => v3 _ _ (by omega) (by omega) (by omega) (by omega)), MCm_congr h4.2.2 (v3 _ _ (by omega) (by omega) (by omega) (by omega)) (fun i a b => v3 _ _ (by omega) (by omega) (by omega) (by omega)) (fun i a b => v3 _ _ (by omega) (by omega) (by omega) (by omega))⟩, ⟨by rw [v3 99 62 (by omega) (by omega) (by omega) (by omega)]; exact h5.1, fun j hj => by rw [v3 144 j (by omega) (by omega) (by omega) (by omega)]; exact h5.2 j hj⟩, by rw [v3 99 40 (by omega) (by omega) (by omega) (by omega)]; exact h6, by rw [v3 99 42 (by omega) (by omega) (by omega) (by omega)]; exact h7⟩
      have hj : j < ex.1 - 1 := hj
      rw [v2 101 j (by omega) hj, v2 102 j (by omega) hj, v2 103 j (by omega) hj]
      unfold remF
      show (if j < i then s 101 j else s 101 (j + 1)) = ((wl (if j < i then ex.2.1 j else ex.2.1 (j + 1)) : Nat) : Int) ∧ (if j < i then s 102 j else s 102 (j + 1)) = ((wc (if j < i then ex.2.1 j else ex.2.1 (j + 1)) : Nat) : Int) ∧ (if j < i then s 103 j else s 103 (j + 1)) = (if j < i then ex.2.2 j else ex.2.2 (j + 1))
      by_cases zj : j < i
      · rw [if_pos zj, if_pos zj, if_pos zj, if_pos zj, if_pos zj]
        exact h3.2 j (by omega)
      · rw [if_neg zj, if_neg zj, if_neg zj, if_neg zj, if_neg zj]
        exact h3.2 (j + 1) (by omega)
    refine MB hX hPX hT (fun s5 hM => ?_)
    dsimp only
    have e8' := hM.2.2.1.1
    try simp only [awu 83 2, pe83, xs, i_load, i_loadR, i_inc, lg, lp, true_and, and_true, List.length_cons, List.length_nil, Nat.reduceAdd, Nat.reduceLeDiff, Nat.zero_le, Int.toNat_natCast, natLit, mK0, e8']
    exact hM
  · rw [if_neg z]
    try simp only [awu 4 1, pe4, xs, i_load, i_loadR, i_inc, lg, lp, true_and, and_true, List.length_cons, List.length_nil, Nat.reduceAdd, Nat.reduceLeDiff, Nat.zero_le, Int.toNat_natCast, natLit, cK0]
    refine ⟨fun h => absurd trivial h, fun _ => ?_⟩
    refine ⟨_, tp, a, ex, tn, D, F, M1, M2, M3, L, t, fa, rfl, hC, hP, fun s hs => ?_⟩
    have hM := Min_s hM hs
    have e8 := hM.2.2.1.1
    refine MS_v [vr 99, vi x] rfl rfl rfl rfl ?_
    try simp only [awu 83 0, pe83, xs, i_load, i_loadR, i_inc, lg, lp, true_and, and_true, List.length_cons, List.length_nil, Nat.reduceAdd, Nat.reduceLeDiff, Nat.zero_le, Int.toNat_natCast, natLit, mK0, e8, w8']
    refine sp_isIn ?_
    dsimp only
    rw [if_neg (by omega)]
    try simp only [awu 83 1, pe83, xs, i_load, i_loadR, i_inc, lg, lp, true_and, and_true, List.length_cons, List.length_nil, Nat.reduceAdd, Nat.reduceLeDiff, Nat.zero_le, Int.toNat_natCast, natLit, mK0]
    exact ⟨fun h => absurd trivial h, fun _ => hM⟩
