/-! teach: the reference -/
theorem sp_teachP {x : Nat} {a : Nat} {Q : Rn} (hx : x ≤ 5) (ha : a ≤ 4) (ha1 : 0 < a) {n : Nat} (hn : n ≤ x) {s1 : St} {u2 u6 : V} (e2 : s1 99 2 = (a : Int)) (hq : AW (P 150) Q (MS 9) 0 (fun _ => 0) 9 [vr 99, vi x, u2, vi n, vi (a ^ n : Nat), vi 0, u6] [] s1) (u4 u5 : V) : AW (P 150) Q (MS 9) 0 (fun _ => 0) 5 [vr 99, vi x, u2, vi n, u4, u5, u6] [] s1 := by
  rw [awu 150 5]
  have key : ∀ m i : Nat, i + m = n → AW (P 150) Q (MS 9) 0 (fun _ => 0) 6 [vr 99, vi x, u2, vi n, vi (a ^ i : Nat), vi i, u6] [] s1 := by
    intro m
    induction m with
    | zero =>
      intro i hi
      have hi : i = n := by omega
      subst hi
      rw [awu 150 6]
      try simp only [awu 150 8, pe150, xs, i_load, i_loadR, i_inc, lg, lp, true_and, and_true, List.length_cons, List.length_nil, Nat.reduceAdd, Nat.reduceLeDiff, Nat.zero_le, Int.toNat_natCast, natLit, mK0]
      exact ⟨fun _ => hq, fun h => by omega⟩
    | succ m ih =>
      intro i hi
      have hpw : a ^ i ≤ 4 ^ 5 := Nat.le_trans (Nat.pow_le_pow_left ha i) (Nat.pow_le_pow_right (by decide) (by omega))
      have w1 : Unit → wr (((a ^ i : Nat) : Int) * (a : Int)) = ((a ^ (i + 1) : Nat) : Int) := fun _ => by
        rw [Nat.pow_succ, Int.natCast_mul]
        have h1 : a ^ i * a ≤ 4 ^ 5 * 4 := Nat.mul_le_mul hpw ha
        refine wr_id (by have : (0 : Int) ≤ ((a ^ i : Nat) : Int) * (a : Int) := by rw [← Int.natCast_mul]; omega
                         omega) ?_
        rw [← Int.natCast_mul]
        omega
      rw [awu 150 6]
      try simp only [awu 150 7, pe150, xs, i_load, i_loadR, i_inc, lg, lp, true_and, and_true, List.length_cons, List.length_nil, Nat.reduceAdd, Nat.reduceLeDiff, Nat.zero_le, Int.toNat_natCast, natLit, mK0, e2, w1 ()]
      refine ⟨fun h => by omega, fun _ => ?_⟩
      rw [wr_id (by omega) (by omega)]
      exact ih (i + 1) (by omega)
  exact key n 0 (by omega)
theorem sp_teachM {x c0 : Nat} {tp : Nat × (Nat → Int)} {a : Nat} {M1 M2 M3 : MC} {L : List Nat} {t : Nat} {fa : Int} {Q : Rn} (hx : x ≤ 5) (m0 : 0 < M2.1) :
    ∀ (f n k : Nat) (ex ex' : TE) (tn tn' : TN) (D D' : List Dd) (F F' : FS) (s1 : St) (u6 : V), TR a M2 x f n k ex tn D F ex' tn' D' F' → Min s1 tp a ex tn D F M1 M2 M3 L t fa → Pur tp a ex tn D F M1 M2 M3 L t → n ≤ x → k ≤ a ^ n → c0 ≤ ex.1 →
      (∀ s' : St, c0 ≤ ex'.1 → Min s' tp a ex' tn' D' F' M1 M2 M3 L t fa → Q (vi ((ex'.1 - c0 : Nat) : Int)) s') →
      AW (P 150) Q (MS 9) 0 (fun _ => 0) 9 [vr 99, vi x, vi (ex.1 - c0 : Nat), vi n, vi (a ^ n : Nat), vi k, u6] [] s1 := by
  intro f
  induction f with
  | zero => intro n k ex ex' tn tn' D D' F F' s1 u6 h; exact h.elim
  | succ f ih =>
    intro n k ex ex' tn tn' D D' F F' s1 u6 h hM hP hnx hk hc hq
    have e2 := hM.2.1
    have e8 := hM.2.2.1.1
    have ha4 := hP.2.1.2
    have ha1 := hP.2.1.1
    have hx40 := hP.2.2.1.1
    have hpw : a ^ n ≤ 4 ^ 5 := Nat.le_trans (Nat.pow_le_pow_left ha4 n) (Nat.pow_le_pow_right (by decide) (by omega))
    have hw := wd_ok (k := k) ha1 ha4 (show n ≤ 9 by omega)
    have hwf := okw_wf hw
    obtain ⟨ewl, ewc⟩ := wd_wl (k := k) ha1 ha4 (show n ≤ 9 by omega)
    have tk : ∀ Q : Rn, Q (vi (if acc M2 (wd a n k) then 1 else 0)) s1 → MS 9 107 [vr 99, vi 2, vi n, vi (nb a k n : Nat)] s1 Q := fun Q h => by
      have := sp_taken (d := 7) (w := wd a n k) (Q := Q) hM.2.2.2.2.2.1.2.1 (by decide) hP.2.2.2.2.2.1.2.1 m0 hwf h
      rw [ewl, ewc] at this
      exact this
    have xn : ∀ (Q : Rn) (r : Int) (ex1 : TE) (tn1 : TN) (D1 : List Dd) (F1 : FS), AE a ex tn D F (wd a n k) (if acc M2 (wd a n k) then 1 else 0) r ex1 tn1 D1 F1 → (∀ s' : St, Min s' tp a ex1 tn1 D1 F1 M1 M2 M3 L t fa → Q (vi r) s') → MS 9 81 [vr 99, vi n, vi (nb a k n : Nat), vi (if acc M2 (wd a n k) then 1 else 0)] s1 Q := fun Q r ex1 tn1 D1 F1 hA h => by
      have := sp_exNow (d := 3) hM hP hw (by split; exact ok01_1; exact ok01_0) hA h
      rw [ewl, ewc] at this
      exact this
    by_cases hk2 : k < a ^ n
    · rw [awu 150 9]
      try simp only [awu 150 10, pe150, xs, i_load, i_loadR, i_inc, lg, lp, true_and, and_true, List.length_cons, List.length_nil, Nat.reduceAdd, Nat.reduceLeDiff, Nat.zero_le, Int.toNat_natCast, natLit, mK0]
      refine ⟨fun h => by omega, fun _ => ?_⟩
      refine sp_codeOf (by omega) (by omega) ha1 ha4 e2 ?_
      dsimp only
      try simp only [awu 150 10, pe150, xs, i_load, i_loadR, i_inc, lg, lp, true_and, and_true, List.length_cons, List.length_nil, Nat.reduceAdd, Nat.reduceLeDiff, Nat.zero_le, Int.toNat_natCast, natLit, mK0]
      refine sp_mpl e8 hx40 (fun i hi => by rw [(hM.2.2.1.2 i hi).2.1]; have := wc_lt (ex.2.1 i); omega) (by rw [← ewc]; exact wc_lt _) (fun p hp => ?_)
      have hp : IsPl (fun i => (ex.2.1 i : Int)) ex.1 (wd a n k : Int) p := by
        refine IsPl_c hp (fun i hi => ?_)
        obtain ⟨h1, h2, -⟩ := hM.2.2.1.2 i hi
        show (ex.2.1 i : Int) = s1 101 i * 1048576 + s1 102 i
        rw [h1, h2]
        have := wl_wc (ex.2.1 i)
        omega
      dsimp only
      try simp only [awu 150 10, pe150, xs, i_load, i_loadR, i_inc, lg, lp, true_and, and_true, List.length_cons, List.length_nil, Nat.reduceAdd, Nat.reduceLeDiff, Nat.zero_le, Int.toNat_natCast, natLit, mK0]
      refine sp_mthere e8 hx40 (by omega) ?_
      dsimp only
      rw [Int.toNat_natCast]
      by_cases z : (p : Int) < ex.1 ∧ s1 101 p = (n : Int) ∧ s1 102 p = ((nb a k n : Nat) : Int)
      · rw [if_pos z]
        have hpc : p < ex.1 := by omega
        obtain ⟨h1, h2, h3⟩ := hM.2.2.1.2 p hpc
        have ew : ex.2.1 p = wd a n k := by
          have a1 := wl_wc (ex.2.1 p)
          have a3 := z.2.1
          have a4 := z.2.2
          have a5 : wl (ex.2.1 p) = n := by omega
          have a6 : wc (ex.2.1 p) = nb a k n := by omega
          rw [a5, a6] at a1
          unfold wd
          omega
        rcases h with ⟨hh, _⟩ | ⟨_, hk3, h⟩ | ⟨_, _, hin, h⟩ | ⟨_, _, hno, _⟩
        · omega
        · omega
        · try simp only [awu 150 11, awu 150 15, pe150, xs, i_load, i_loadR, i_inc, lg, lp, true_and, and_true, List.length_cons, List.length_nil, Nat.reduceAdd, Nat.reduceLeDiff, Nat.zero_le, Int.toNat_natCast, natLit, mK0]
          refine ⟨fun h => absurd h (by decide), fun _ => ?_⟩
          rw [wr_id (by omega) (by omega)]
          exact ih n (k + 1) ex ex' tn tn' D D' F F' s1 _ h hM hP hnx (by omega) hc hq
        · exact absurd ew (hno p hpc)
      · rw [if_neg z]
        have hnp : ¬ ∃ i, i < ex.1 ∧ ex.2.1 i = wd a n k := by
          rintro ⟨i, hi, e⟩
          obtain ⟨h1, h2⟩ := IsPl_h hP.2.2.1.2.2 hp hi e
          obtain ⟨g1, g2, -⟩ := hM.2.2.1.2 p h1
          rw [h2, ewl] at g1
          rw [h2, ewc] at g2
          exact z ⟨by omega, g1, g2⟩
        rcases h with ⟨hh, _⟩ | ⟨_, hk3, h⟩ | ⟨_, _, hin, h⟩ | ⟨_, _, hno, r, ex1, tn1, D1, F1, hA, hor⟩
        · omega
        · omega
        · exact absurd hin hnp
        · try simp only [awu 150 12, pe150, xs, i_load, i_loadR, i_inc, lg, lp, true_and, and_true, List.length_cons, List.length_nil, Nat.reduceAdd, Nat.reduceLeDiff, Nat.zero_le, Int.toNat_natCast, natLit, mK0]
          refine ⟨fun _ => ?_, fun h => absurd trivial h⟩
          refine tk _ ?_
          dsimp only
          try simp only [awu 150 12, pe150, xs, i_load, i_loadR, i_inc, lg, lp, true_and, and_true, List.length_cons, List.length_nil, Nat.reduceAdd, Nat.reduceLeDiff, Nat.zero_le, Int.toNat_natCast, natLit, mK0]
          refine xn _ r ex1 tn1 D1 F1 hA (fun s2 hM2 => ?_)
          dsimp only
          obtain ⟨c1, c2⟩ := AE_c hno hA
          try simp only [awu 150 13, awu 150 14, awu 150 15, pe150, xs, i_load, i_loadR, i_inc, lg, lp, true_and, and_true, List.length_cons, List.length_nil, Nat.reduceAdd, Nat.reduceLeDiff, Nat.zero_le, Int.toNat_natCast, natLit, mK0]
          refine ⟨fun hr => ?_, fun hr => ?_⟩
          · rcases hor with ⟨hr2, _⟩ | ⟨_, hT⟩
            · omega
            · have e1 := c2 hr
              rw [wr_id (by omega) (by omega), wr_id (by omega) (by omega)]
              have := ih n (k + 1) ex1 ex' tn1 tn' D1 D' F1 F' s2 (vi (nb a k n : Nat)) hT hM2 (AE_P hP hA) hnx (by omega) (by omega) hq
              rw [show ((ex.1 - c0 : Nat) : Int) + 1 = ((ex1.1 - c0 : Nat) : Int) by omega]
              exact this
          · rcases hor with ⟨hr2, rfl, rfl, rfl, rfl⟩ | ⟨hr2, _⟩
            · have e1 := c1 hr2
              rw [e1] at hq
              exact hq s2 hc (by rw [← e1]; exact hM2)
            · omega
    · rcases h with ⟨hh, _⟩ | ⟨_, hk3, h⟩ | ⟨_, hk3, _, h⟩ | ⟨_, hk3, _⟩
      · omega
      · rw [awu 150 9]
        try simp only [awu 150 16, awu 150 4, pe150, xs, i_load, i_loadR, i_inc, lg, lp, true_and, and_true, List.length_cons, List.length_nil, Nat.reduceAdd, Nat.reduceLeDiff, Nat.zero_le, Int.toNat_natCast, natLit, mK0]
        refine ⟨fun _ => ?_, fun h => by omega⟩
        rw [wr_id (by omega) (by omega)]
        refine ⟨fun hgt => ?_, fun hle => ?_⟩
        · cases f with
          | zero => exact h.elim
          | succ f =>
            rcases h with ⟨_, rfl, rfl, rfl, rfl⟩ | ⟨h1, _⟩ | ⟨h1, _⟩ | ⟨h1, _⟩
            · try simp only [awu 150 17, pe150, xs, i_load, i_loadR, i_inc, lg, lp, true_and, and_true, List.length_cons, List.length_nil, Nat.reduceAdd, Nat.reduceLeDiff, Nat.zero_le, Int.toNat_natCast, natLit, mK0]
              exact hq s1 hc hM
            · omega
            · omega
            · omega
        · refine sp_teachP hx ha4 ha1 (n := n + 1) (by omega) e2 ?_ _ _
          exact ih (n + 1) 0 ex ex' tn tn' D D' F F' s1 _ h hM hP (by omega) (by omega) hc hq
      · omega
      · omega
theorem o_teach {x : Int} {st : St} (h : INV st) : OPr 5 150 [vi x] st := by
  obtain ⟨tp, a, ex, tn, D, F, M1, M2, M3, L, t, fa, hC, hM, hP⟩ := h
  refine opp rl1 rl1 ?_
  have k60 : kl 60 = 2 := rfl
  have k5 : kl 5 = 7 := rfl
  have k119 : kl 119 = 50 := rfl
  have l119 : len 119 = 5 := rfl
  have c60 := hC.2.2.2.2.2.1.2.1.1
  have e5 := hC.2.2.1.1
  have no : ¬ (0 ≤ x ∧ x ≤ 5 ∧ 0 < M2.1) → QC st 150 [vi x] (vi (-1)) st := by
    intro hno
    refine ⟨_, tp, a, ex, tn, D, F, M1, M2, M3, L, t, fa, rfl, hC, hP, fun s hs => ?_⟩
    have hM := Min_s hM hs
    have m119 := hM.2.2.2.2.2.1.2.1.1
    refine MS_v [vr 99, vi x, none, none, none, none, none] rfl rfl rfl rfl ?_
    try simp only [awu 150 0, pe150, xs, i_load, i_loadR, i_inc, lg, lp, true_and, and_true, List.length_cons, List.length_nil, Nat.reduceAdd, Nat.reduceLeDiff, Nat.zero_le, Int.toNat_natCast, natLit, mK0]
    refine sp_isIn ?_
    dsimp only
    by_cases z : 0 ≤ x ∧ x ≤ 5
    · rw [if_pos z]
      try simp only [awu 150 1, awu 150 2, pe150, xs, i_load, i_loadR, i_inc, lg, lp, true_and, and_true, List.length_cons, List.length_nil, Nat.reduceAdd, Nat.reduceLeDiff, Nat.zero_le, Int.toNat_natCast, natLit, mK0, k119, l119]
      refine ⟨fun h => absurd h (by decide), fun _ => ⟨by decide, fun h => ?_, fun _ => hM⟩⟩
      exfalso
      have h : ¬ s 119 2 = 0 := h
      rw [m119] at h
      omega
    · rw [if_neg z]
      try simp only [awu 150 2, pe150, xs, i_load, i_loadR, i_inc, lg, lp, true_and, and_true, List.length_cons, List.length_nil, Nat.reduceAdd, Nat.reduceLeDiff, Nat.zero_le, Int.toNat_natCast, natLit, mK0]
      exact ⟨fun _ => hM, fun h => absurd trivial h⟩
  refine MS_v [vr 0, vi x, none, none, none, none, none] rfl rfl rfl rfl ?_
  try simp only [awu 5 0, awu 5 1, awu 5 2, awu 5 3, pe5, xs, i_load, i_loadR, i_inc, lg, lp, true_and, and_true, List.length_cons, List.length_nil, Nat.reduceAdd, Nat.reduceLeDiff, Nat.zero_le, Int.toNat_natCast, natLit, cK0, k60, c60, Nat.zero_add]
  refine ⟨fun h => no (by omega), fun h => ⟨fun h2 => no (by omega), fun h2 => ⟨fun h3 => ?_, fun h3 => no (by omega)⟩⟩⟩
  obtain ⟨n, rfl⟩ : ∃ n : Nat, x = n := ⟨x.toNat, by omega⟩
  have m0 : 0 < M2.1 := by omega
  try simp only [awu 5 4, awu 5 5, awu 5 6, pe5, xs, i_load, i_loadR, i_inc, lg, lp, true_and, and_true, List.length_cons, List.length_nil, Nat.reduceAdd, Nat.reduceLeDiff, Nat.zero_le, Int.toNat_natCast, natLit, cK0, k5, e5, Nat.zero_add]
  refine ⟨fun h => by omega, fun _ => ?_⟩
  refine sp_teachC (c0 := ex.1) (by omega) m0 (n + 1) 0 (by omega) 1 0 (by simp) ex tn D F st none hC hP (by omega) (fun f ex' tn' D' F' s' hT hC' => ?_)
  refine ⟨_, tp, a, ex', tn', D', F', M1, M2, M3, L, t, fa, rfl, hC', TR_P f 0 0 hT hP, fun s hs => ?_⟩
  have hM := Min_s hM hs
  have m119 := hM.2.2.2.2.2.1.2.1.1
  have e2 := hM.2.1
  refine MS_v [vr 99, vi n, none, none, none, none, none] rfl rfl rfl rfl ?_
  try simp only [awu 150 0, pe150, xs, i_load, i_loadR, i_inc, lg, lp, true_and, and_true, List.length_cons, List.length_nil, Nat.reduceAdd, Nat.reduceLeDiff, Nat.zero_le, Int.toNat_natCast, natLit, mK0]
  refine sp_isIn ?_
  dsimp only
  rw [if_pos (by omega)]
  try simp only [awu 150 1, awu 150 3, awu 150 4, pe150, xs, i_load, i_loadR, i_inc, lg, lp, true_and, and_true, List.length_cons, List.length_nil, Nat.reduceAdd, Nat.reduceLeDiff, Nat.zero_le, Int.toNat_natCast, natLit, mK0, k119, l119]
  refine ⟨fun h => absurd h (by decide), fun _ => ⟨by decide, fun _ => ?_, fun h => ?_⟩⟩
  · refine ⟨fun h => by omega, fun _ => ?_⟩
    refine sp_teachP (n := 0) (by omega) hP.2.1.2 hP.2.1.1 (by omega) e2 ?_ _ _
    have := sp_teachM (c0 := ex.1) (Q := fun v' s2 => v' = vi (wr ((ex'.1 : Int) - (ex.1 : Int))) ∧ Min s2 tp a ex' tn' D' F' M1 M2 M3 L t fa) (by omega) m0 f 0 0 ex ex' tn tn' D D' F F' s none hT hM hP (by omega) (by omega) (Nat.le_refl _) (fun s' hc hM' => ⟨by rw [wr_id (by omega) (by have := (TR_P f 0 0 hT hP).2.2.1.1; omega)]; congr 2; omega, hM'⟩)
    rw [Nat.sub_self] at this
    exact this
  · exfalso
    have h : ¬ ¬ s 119 2 = 0 := h
    rw [m119] at h
    omega
