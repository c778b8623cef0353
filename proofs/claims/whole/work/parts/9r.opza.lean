/-! teach: the class -/
theorem sp_teachC {x c0 : Nat} {tp : Nat × (Nat → Int)} {a : Nat} {M1 M2 M3 : MC} {L : List Nat} {t : Nat} {fa : Int} {Q : Rn} (hx : x ≤ 5) (m0 : 0 < M2.1) :
    ∀ j n : Nat, n + j = x + 1 → ∀ m k : Nat, k + m = a ^ n → ∀ (ex : TE) (tn : TN) (D : List Dd) (F : FS) (s1 : St) (u6 : V), Cin s1 tp a ex tn D F M1 M2 M3 L t fa → Pur tp a ex tn D F M1 M2 M3 L t → n ≤ x →
      (∀ (f : Nat) (ex' : TE) (tn' : TN) (D' : List Dd) (F' : FS) (s' : St), TR a M2 x f n k ex tn D F ex' tn' D' F' → Cin s' tp a ex' tn' D' F' M1 M2 M3 L t fa → Q (vi (wr ((ex'.1 : Int) - (c0 : Int)))) s') →
      AW (P 5) Q (MS 9) 0 (fun _ => 0) 7 [vr 0, vi x, vi c0, vi (a ^ n : Nat), vi n, vi k, u6] [] s1 := by
  have k5 : kl 5 = 7 := rfl
  intro j
  induction j with
  | zero => intro n hn m k _ ex tn D F s1 u6 _ _ h; omega
  | succ j ihj =>
    intro n hn m
    induction m with
    | zero =>
      intro k hk ex tn D F s1 u6 hC hP hnx hq
      have e15 := hC.2.1
      have ha4 := hP.2.1.2
      have ha1 := hP.2.1.1
      have hpw : a ^ n ≤ 4 ^ 5 := Nat.le_trans (Nat.pow_le_pow_left ha4 n) (Nat.pow_le_pow_right (by decide) (by omega))
      have w1 : Unit → wr (((a ^ n : Nat) : Int) * (a : Int)) = ((a ^ (n + 1) : Nat) : Int) := fun _ => by
        rw [Nat.pow_succ, Int.natCast_mul]
        have h1 : a ^ n * a ≤ 4 ^ 5 * 4 := Nat.mul_le_mul hpw ha4
        refine wr_id (by have : (0 : Int) ≤ ((a ^ n : Nat) : Int) * (a : Int) := by rw [← Int.natCast_mul]; omega
                         omega) ?_
        rw [← Int.natCast_mul]
        omega
      rw [awu 5 7]
      try simp only [awu 5 12, awu 5 5, awu 5 6, pe5, xs, i_load, i_loadR, i_inc, lg, lp, true_and, and_true, List.length_cons, List.length_nil, Nat.reduceAdd, Nat.reduceLeDiff, Nat.zero_le, Int.toNat_natCast, natLit, cK0, e15, w1 ()]
      refine ⟨fun _ => ?_, fun h => by omega⟩
      rw [wr_id (by omega) (by omega)]
      refine ⟨fun hgt => ?_, fun hle => ?_⟩
      · have e2 := hC.2.2.1.1
        try simp only [awu 5 13, pe5, xs, i_load, i_loadR, i_inc, lg, lp, true_and, and_true, List.length_cons, List.length_nil, Nat.reduceAdd, Nat.reduceLeDiff, Nat.zero_le, Int.toNat_natCast, natLit, cK0, k5, e2, Nat.zero_add]
        exact hq 2 ex tn D F s1 (Or.inr (Or.inl ⟨hnx, by omega, Or.inl ⟨by omega, rfl, rfl, rfl, rfl⟩⟩)) hC
      · exact ihj (n + 1) (by omega) (a ^ (n + 1)) 0 (by omega) ex tn D F s1 u6 hC hP (by omega) (fun f ex' tn' D' F' s' hT hC' => hq (f + 1) ex' tn' D' F' s' (Or.inr (Or.inl ⟨hnx, by omega, hT⟩)) hC')
    | succ m ih =>
      intro k hk ex tn D F s1 u6 hC hP hnx hq
      have e15 := hC.2.1
      have e2 := hC.2.2.1.1
      have ha4 := hP.2.1.2
      have ha1 := hP.2.1.1
      have hx40 := hP.2.2.1.1
      have hpw : a ^ n ≤ 4 ^ 5 := Nat.le_trans (Nat.pow_le_pow_left ha4 n) (Nat.pow_le_pow_right (by decide) (by omega))
      have hw := wd_ok (k := k) ha1 ha4 (show n ≤ 9 by omega)
      have hwf := okw_wf hw
      rw [awu 5 7]
      try simp only [awu 5 8, pe5, xs, i_load, i_loadR, i_inc, lg, lp, true_and, and_true, List.length_cons, List.length_nil, Nat.reduceAdd, Nat.reduceLeDiff, Nat.zero_le, Int.toNat_natCast, natLit, cK0, e15]
      refine ⟨fun h => by omega, fun _ => ?_⟩
      refine sp_numbered (by omega) (by omega) ha1 ha4 ?_
      dsimp only
      rw [show n * 1048576 + nb a k n = wd a n k from rfl]
      try simp only [awu 5 8, pe5, xs, i_load, i_loadR, i_inc, lg, lp, true_and, and_true, List.length_cons, List.length_nil, Nat.reduceAdd, Nat.reduceLeDiff, Nat.zero_le, Int.toNat_natCast, natLit, cK0, Nat.zero_add]
      refine sp_sholds e2 hx40 (by omega) (fun p hp => ?_)
      have hp := IsPl_c hp (fun i hi => ((hC.2.2.1.2 i hi).1).symm)
      dsimp only
      by_cases z : p < ex.1 ∧ s1 6 p = ((wd a n k : Nat) : Int)
      · rw [if_pos z]
        have ew : ex.2.1 p = wd a n k := by
          have h1 := (hC.2.2.1.2 p z.1).1
          have h2 := z.2
          omega
        try simp only [awu 5 11, pe5, xs, i_load, i_loadR, i_inc, lg, lp, true_and, and_true, List.length_cons, List.length_nil, Nat.reduceAdd, Nat.reduceLeDiff, Nat.zero_le, Int.toNat_natCast, natLit, cK0]
        refine ⟨fun _ => ?_, fun h => absurd h (by decide)⟩
        rw [wr_id (by omega) (by omega)]
        exact ih (k + 1) (by omega) ex tn D F s1 _ hC hP hnx (fun f ex' tn' D' F' s' hT hC' => hq (f + 1) ex' tn' D' F' s' (Or.inr (Or.inr (Or.inl ⟨hnx, by omega, ⟨p, z.1, ew⟩, hT⟩))) hC')
      · rw [if_neg z]
        have hno : ∀ i, i < ex.1 → ex.2.1 i ≠ wd a n k := fun i hi e => by
          obtain ⟨h1, h2⟩ := IsPl_h hP.2.2.1.2.2 hp hi e
          exact z ⟨h1, by rw [(hC.2.2.1.2 p h1).1, h2]⟩
        try simp only [awu 5 9, pe5, xs, i_load, i_loadR, i_inc, lg, lp, true_and, and_true, List.length_cons, List.length_nil, Nat.reduceAdd, Nat.reduceLeDiff, Nat.zero_le, Int.toNat_natCast, natLit, cK0, Nat.zero_add]
        refine ⟨fun h => absurd trivial h, fun _ => ?_⟩
        refine sp_mcacc isMc_60 hC.2.2.2.2.2.1.2.1 hP.2.2.2.2.2.1.2.1 hwf ?_
        dsimp only
        try simp only [awu 5 9, pe5, xs, i_load, i_loadR, i_inc, lg, lp, true_and, and_true, List.length_cons, List.length_nil, Nat.reduceAdd, Nat.reduceLeDiff, Nat.zero_le, Int.toNat_natCast, natLit, cK0]
        refine sp_addE hC hP hw (by split; exact ok01_1; exact ok01_0) (fun r s2 ex1 tn1 D1 F1 hA hC1 => ?_)
        dsimp only
        have e21 := hC1.2.2.1.1
        try simp only [awu 5 9, awu 5 10, awu 5 11, pe5, xs, i_load, i_loadR, i_inc, lg, lp, true_and, and_true, List.length_cons, List.length_nil, Nat.reduceAdd, Nat.reduceLeDiff, Nat.zero_le, Int.toNat_natCast, natLit, cK0, k5, e21, Nat.zero_add]
        refine ⟨fun hr => ?_, fun hr => ?_⟩
        · rw [wr_id (by omega) (by omega)]
          exact ih (k + 1) (by omega) ex1 tn1 D1 F1 s2 _ hC1 (AE_P hP hA) hnx (fun f ex' tn' D' F' s' hT hC' => hq (f + 1) ex' tn' D' F' s' (Or.inr (Or.inr (Or.inr ⟨hnx, by omega, hno, r, ex1, tn1, D1, F1, hA, Or.inr ⟨hr, hT⟩⟩))) hC')
        · exact hq 1 ex1 tn1 D1 F1 s2 (Or.inr (Or.inr (Or.inr ⟨hnx, by omega, hno, r, ex1, tn1, D1, F1, hA, Or.inl ⟨by omega, rfl, rfl, rfl, rfl⟩⟩))) hC1
