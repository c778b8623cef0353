/-! the search: tries of the reference -/
set_option maxHeartbeats 1000000 in
theorem sp_puts {d n k c tr mo : Nat} {st : St} {t : TD} {f pt : Nat → Nat} {Q : Rn} (hT : TDm st t n f) (hmo : mo ≤ 8) (hS : SV t pt mo k) (hR : RS st t pt k tr) (hk : k < n) (hc : c < 8) (hfe : fcd t pt k ≠ -1 → (c : Int) = fcd t pt k)
    (h0 : cfl ((sst t pt k).1 c) (t.2.2 k) = true → Q (vi 0) st)
    (h1 : ∀ st' : St, cfl ((sst t pt k).1 c) (t.2.2 k) = false → (∀ i, i < k → st' 125 i = (pt i : Nat) ∧ st' 126 i = (if i ≠ 0 ∧ fcd t pt i = -1 then 1 else 0) ∧ st' 127 i = ((sst t pt (i + 1)).2.2 : Nat)) → st' 125 k = (c : Nat) → st' 126 k = (if k ≠ 0 ∧ fcd t pt k = -1 then 1 else 0) → (∀ s v, s < 8 → v < 3 → st' 128 (3 * s + v) = (ctn t (updN pt k c) s v (k + 1) : Nat)) → (∀ j, j < 32 → st' 121 (3200 + j) = (sst t (updN pt k c) (k + 1)).2.1 j) → st' 99 40 = (tr : Nat) → FrR st st' → Q (vi 1) st') : MS (d + 2) 110 [vr 99, vi k, vi c] st Q := by
  have k0 : kl 99 = 12 := rfl
  have k25 : kl 125 = 50 := rfl
  have l25 : len 125 = 120 := rfl
  have k26 : kl 126 = 52 := rfl
  have l26 : len 126 = 120 := rfl
  have k28 : kl 128 = 50 := rfl
  have l28 : len 128 = 24 := rfl
  have k7 : kl 107 = 50 := rfl
  have l7 : len 107 = 161 := rfl
  have k5 : kl 105 = 50 := rfl
  have l5 : len 105 = 161 := rfl
  have k6 : kl 106 = 50 := rfl
  have l6 : len 106 = 161 := rfl
  obtain ⟨⟨a1, a2, a3⟩, tb, tc, te, tp, tm⟩ := hT
  obtain ⟨r1, r2, r3, r4⟩ := id hR
  have tk := tm k
  have em := tc k hk
  have p8 : ∀ i, i < k → pt i < 8 := fun i hi => by have := hS.1 i hi; omega
  have hsm := sst_m k (fun i hi => (hS.1 i hi).2.2) tm c
  have cong : ∀ i, i ≤ k → sst t (updN pt k c) i = sst t pt i := fun i hi => sst_congr tp i (by omega) (fun j hj => by rw [updN_at, if_neg (by omega)])
  have ptk : updN pt k c k = c := by rw [updN_at, if_pos rfl]
  have pti : ∀ i, i < k → updN pt k c i = pt i := fun i hi => by rw [updN_at, if_neg (by omega)]
  have ctk : ∀ s v, ctn t (updN pt k c) s v k = ctn t pt s v k := fun s v => cn_congr (fun i hi => by rw [pti i hi])
  have w3 : Unit → wr (3 * (c : Int)) = ((3 * c : Nat) : Int) := fun _ => by rw [wr_id (by omega) (by omega)]; omega
  -- it is put
  have put : cfl ((sst t pt k).1 c) (t.2.2 k) = false → AW (P 110) Q (MS (d + 1)) 0 (fun _ => 0) 3 [vr 99, vi k, vi c, vi (t.2.2 k : Nat), none, none] [] st := by
    intro hcf
    have eo := r2 c (t.2.2 k) hc (by omega)
    have hle : ctn t pt c (t.2.2 k) k ≤ k := cn_le k
    have w4 : Unit → wr (((3 * c : Nat) : Int) + ((t.2.2 k : Nat) : Int)) = ((3 * c + t.2.2 k : Nat) : Int) := fun _ => by rw [wr_id (by omega) (by omega)]; omega
    have w5 : Unit → wr (((ctn t pt c (t.2.2 k) k : Nat) : Int) + 1) = ((ctn t pt c (t.2.2 k) k + 1 : Nat) : Int) := fun _ => by rw [wr_id (by omega) (by omega)]; omega
    generalize hs3 : up2 (up2 (up2 st 128 (3 * c + t.2.2 k) ((ctn t pt c (t.2.2 k) k + 1 : Nat) : Int)) 125 k (c : Int)) 126 k 0 = s3
    have f3 : ∀ q, q ≠ 128 → q ≠ 125 → q ≠ 126 → s3 q = st q := fun q h1 h2 h3 => by rw [← hs3, up2_ne h3, up2_ne h2, up2_ne h1]
    have o3 : ∀ s v, s < 8 → v < 3 → s3 128 (3 * s + v) = (ctn t (updN pt k c) s v (k + 1) : Nat) := by
      intro s v hs hv
      rw [← hs3, up2_ne (by decide), up2_ne (by decide), up2_self, ctn_s, ctk, ptk]
      by_cases z : s = c ∧ v = t.2.2 k
      · rw [z.1, z.2, upf_s, if_pos ⟨rfl, rfl⟩]
      · rw [upf_n (by omega), r2 s v hs hv, if_neg (fun h => z ⟨h.1.symm, h.2.symm⟩)]
        rfl
    have v25 : s3 125 k = (c : Nat) := by rw [← hs3, up2_ne (by decide), up2_self, upf_s]
    have v25i : ∀ i, i ≠ k → s3 125 i = st 125 i := fun i hi => by rw [← hs3, up2_ne (by decide), up2_self, upf_n hi, up2_ne (by decide)]
    have v26 : s3 126 k = 0 := by rw [← hs3, up2_self, upf_s]
    have v26i : ∀ i, i ≠ k → s3 126 i = st 126 i := fun i hi => by rw [← hs3, up2_self, upf_n hi, up2_ne (by decide), up2_ne (by decide)]
    have arrs : ∀ i, i < k → s3 125 i = (pt i : Nat) ∧ s3 126 i = (if i ≠ 0 ∧ fcd t pt i = -1 then 1 else 0) ∧ s3 127 i = ((sst t pt (i + 1)).2.2 : Nat) := fun i hi => by
      rw [v25i i (by omega), v26i i (by omega), f3 127 (by decide) (by decide) (by decide)]
      exact r1 i hi
    have fr3 : FrR st s3 := fun q i q1 q2 q3 => by rw [f3 q (by omega) (by omega) (by omega)]
    rw [awu 110 3]
    rcases Nat.eq_zero_or_pos k with z | z
    · subst z
      try simp only [awu 110 3, pe110, xs, i_load, i_loadR, i_inc, lg, lp, true_and, and_true, List.length_cons, List.length_nil, Nat.reduceAdd, Nat.reduceLeDiff, Nat.zero_le, Int.toNat_natCast, natLit, k0, k28, l28, w3 (), w4 (), eo, w5 (), k25, l25, k26, l26, ok01_0, Int.toNat_zero]
      refine ⟨by omega, by omega, by omega, by omega, ?_⟩
      rw [hs3]
      try simp only [awu 110 4, pe110, xs, i_load, i_loadR, i_inc, lg, lp, true_and, and_true, List.length_cons, List.length_nil, Nat.reduceAdd, Nat.reduceLeDiff, Nat.zero_le, Int.toNat_natCast, natLit, k0, ok01_1]
      refine ⟨fun h => absurd (by trivial) h, fun _ => ?_⟩
      refine h1 s3 hcf arrs v25 (by rw [v26, if_neg (fun h => h.1 rfl)]) o3 (fun j hj => ?_) (by rw [f3 99 (by decide) (by decide) (by decide)]; exact r4) fr3
      rw [f3 121 (by decide) (by decide) (by decide), r3 j hj, sst_a, if_neg (fun h => h.1 rfl), cong 0 (Nat.le_refl _)]
    · obtain ⟨p1, p2⟩ := tp k z hk
      obtain ⟨b1, b2⟩ := tb k hk
      have e1 : s3 107 k = (t.1 k : Nat) := by rw [f3 107 (by decide) (by decide) (by decide)]; exact te k z hk
      have e2 : s3 125 (t.1 k) = (pt (t.1 k) : Nat) := by rw [v25i _ (by omega)]; exact (r1 _ p1).1
      have e3 : s3 105 k = (wc (f k) : Nat) := by rw [f3 105 (by decide) (by decide) (by decide)]; exact b1
      have pp8 := p8 _ p1
      have b3 : Unit → band (wc (f k) : Nat) 3 = ((t.2.1 k : Nat) : Int) := fun _ => by rw [wc3, b2]
      have hwb := wy_b (pt := pt) tp z hk pp8
      have hf : fcd t pt k = (sst t pt k).2.1 (wy t pt k) := by unfold fcd; rw [if_neg (by omega)]
      have ea : s3 121 (800 * 4 + (4 * pt (t.1 k) + t.2.1 k)) = fcd t pt k := by
        rw [f3 121 (by decide) (by decide) (by decide), hf, ← r3 _ hwb]
        rfl
      have wyk : wy t (updN pt k c) k = wy t pt k := by unfold wy; rw [pti _ p1]
      have fck : fcd t (updN pt k c) k = fcd t pt k := by rw [hf]; unfold fcd; rw [if_neg (by omega), cong k (Nat.le_refl _), wyk]
      have last : ∀ v : Int, v = (if k ≠ 0 ∧ fcd t pt k = -1 then 1 else 0) → AW (P 110) Q (MS (d + 1)) 0 (fun _ => 0) 8 [vr 99, vi k, vi c, vi (t.2.2 k : Nat), vi (pt (t.1 k) : Nat), vi (t.2.1 k : Nat)] [vi v, vi k, vr 126] s3 := by
        intro v hv
        rw [awu 110 8]
        try simp only [awu 110 8, pe110, xs, i_load, i_loadR, i_inc, lg, lp, true_and, and_true, List.length_cons, List.length_nil, Nat.reduceAdd, Nat.reduceLeDiff, Nat.zero_le, Int.toNat_natCast, natLit, k0, k26, l26]
        refine ⟨by omega, by rw [hv]; split; exact ok01_1; exact ok01_0, ?_⟩
        refine sp_putArrow (m := 4) (by decide) (show pt (t.1 k) < 200 by omega) (show t.2.1 k < 4 by omega) ?_
        dsimp only
        try simp only [awu 110 8, pe110, xs, i_load, i_loadR, i_inc, lg, lp, true_and, and_true, List.length_cons, List.length_nil, Nat.reduceAdd, Nat.reduceLeDiff, Nat.zero_le, Int.toNat_natCast, natLit, k0, ok01_1]
        refine h1 _ hcf (fun i hi => ?_) (by rw [up2_ne (by decide), up2_ne (by decide)]; exact v25) (by rw [up2_ne (by decide), up2_self, upf_s]; exact hv) (fun s v hs hv => by rw [up2_ne (by decide), up2_ne (by decide)]; exact o3 s v hs hv) (fun j hj => ?_) (by rw [up2_ne (by decide), up2_ne (by decide), f3 99 (by decide) (by decide) (by decide)]; exact r4) (fun q i q1 q2 q3 => ?_)
        · rw [up2_ne (by decide), up2_ne (by decide), up2_ne (by decide), up2_self, upf_n (by omega), up2_ne (by decide), up2_ne (by decide)]
          exact arrs i hi
        · rw [up2_self, up2_ne (by decide), sst_a, fck, wyk, ptk, cong k (Nat.le_refl _)]
          by_cases zj : j = wy t pt k
          · rw [zj, show 3200 + wy t pt k = 800 * 4 + (4 * pt (t.1 k) + t.2.1 k) from rfl, upf_s]
            by_cases zf : k ≠ 0 ∧ fcd t pt k = -1
            · rw [if_pos zf, upf_s]
            · rw [if_neg zf, ← hf]
              exact hfe (fun h => zf ⟨by omega, h⟩)
          · rw [upf_n (fun e => zj (by unfold wy; omega)), f3 121 (by decide) (by decide) (by decide), r3 j hj]
            by_cases zf : k ≠ 0 ∧ fcd t pt k = -1
            · rw [if_pos zf, upf_n zj]
            · rw [if_neg zf]
        · rw [up2_at]
          by_cases zq : q = 121
          · subst zq
            rw [if_pos rfl, if_neg (by omega), up2_ne (by decide)]
            exact fr3 121 i q1 q2 q3
          · rw [if_neg zq, up2_ne (by omega)]
            exact fr3 q i q1 q2 q3
      try simp only [awu 110 3, pe110, xs, i_load, i_loadR, i_inc, lg, lp, true_and, and_true, List.length_cons, List.length_nil, Nat.reduceAdd, Nat.reduceLeDiff, Nat.zero_le, Int.toNat_natCast, natLit, k0, k28, l28, w3 (), w4 (), eo, w5 (), k25, l25, k26, l26, ok01_0]
      refine ⟨by omega, by omega, by omega, by omega, ?_⟩
      rw [hs3]
      try simp only [awu 110 5, pe110, xs, i_load, i_loadR, i_inc, lg, lp, true_and, and_true, List.length_cons, List.length_nil, Nat.reduceAdd, Nat.reduceLeDiff, Nat.zero_le, Int.toNat_natCast, natLit, k0, k25, l25, k7, l7, e1, e2, k5, l5, e3, b3 ()]
      refine ⟨fun _ => ⟨by omega, by omega, by omega, ?_⟩, fun h => absurd (by omega) h⟩
      refine sp_arrowRaw (m := 4) (by decide) (show pt (t.1 k) < 200 by omega) (show t.2.1 k < 4 by omega) ?_
      dsimp only
      rw [ea]
      try simp only [awu 110 5, awu 110 6, awu 110 7, pe110, xs, i_load, i_loadR, i_inc, lg, lp, true_and, and_true, List.length_cons, List.length_nil, Nat.reduceAdd, Nat.reduceLeDiff, Nat.zero_le, Int.toNat_natCast, natLit, k0]
      refine ⟨fun h => last 0 (by rw [if_neg (fun hh => h hh.2)]), fun h => last 1 (by rw [if_pos ⟨by omega, Classical.not_not.mp h⟩])⟩
  refine MS_v [vr 99, vi k, vi c, none, none, none] rfl rfl rfl rfl ?_
  by_cases zt : t.2.2 k = 0
  · have hcf : cfl ((sst t pt k).1 c) (t.2.2 k) = false := by
      cases e : cfl ((sst t pt k).1 c) (t.2.2 k) with
      | false => rfl
      | true =>
        have := cfl_d.mp e
        omega
    have put := put hcf
    rw [zt] at em put
    try simp only [awu 110 0, pe110, xs, i_load, i_loadR, i_inc, lg, lp, true_and, and_true, List.length_cons, List.length_nil, Nat.reduceAdd, Nat.reduceLeDiff, Nat.zero_le, Int.toNat_natCast, natLit, k0, k6, l6, em]
    exact ⟨by omega, fun _ => put, fun h => absurd (by trivial) h⟩
  · have eo := r2 c (3 - t.2.2 k) hc (by omega)
    have hle : ctn t pt c (3 - t.2.2 k) k ≤ k := cn_le k
    have w6 : Unit → wr (((3 * c : Nat) : Int) + 3) = ((3 * c + 3 : Nat) : Int) := fun _ => by rw [wr_id (by omega) (by omega)]; omega
    have w7 : Unit → wr (((3 * c + 3 : Nat) : Int) - ((t.2.2 k : Nat) : Int)) = ((3 * c + (3 - t.2.2 k) : Nat) : Int) := fun _ => by rw [wr_id (by omega) (by omega)]; omega
    have hiff : cfl ((sst t pt k).1 c) (t.2.2 k) = true ↔ 0 < ctn t pt c (3 - t.2.2 k) k := by
      rw [cfl_d]
      have : t.2.2 k = 1 ∨ t.2.2 k = 2 := by omega
      rcases this with e | e
      · rw [e, show 3 - 1 = 2 from rfl, ← hsm.2.1]
        omega
      · rw [e, show 3 - 2 = 1 from rfl, ← hsm.1]
        omega
    try simp only [awu 110 0, awu 110 1, awu 110 2, pe110, xs, i_load, i_loadR, i_inc, lg, lp, true_and, and_true, List.length_cons, List.length_nil, Nat.reduceAdd, Nat.reduceLeDiff, Nat.zero_le, Int.toNat_natCast, natLit, k0, k6, l6, em, w3 (), w6 (), w7 (), k28, l28, eo, ok01_0]
    refine ⟨by omega, fun h => absurd (by omega) zt, fun _ => ⟨by omega, fun h => ?_, fun h => ?_⟩⟩
    · refine put ?_
      cases e : cfl ((sst t pt k).1 c) (t.2.2 k) with
      | false => rfl
      | true =>
        have := hiff.mp e
        omega
    · exact h0 (hiff.mpr (by omega))
set_option maxHeartbeats 2000000 in
theorem sp_mfindWith {d n mo tr0 : Nat} {st : St} {t : TD} {f : Nat → Nat} {Q : Rn} (hT : TDm st t n f) (hmo1 : 1 ≤ mo) (hmo : mo ≤ 8) (htr : st 99 40 = (tr0 : Nat)) (htr2 : tr0 ≤ 50000)
    (hq : ∀ st' : St, FrR st st' → st' 99 40 = ((srn t n mo 100200 0 0 tr0 (fun _ => 0)).2.1 : Nat) → (srn t n mo 100200 0 0 tr0 (fun _ => 0)).2.1 ≤ 50000 → ((srn t n mo 100200 0 0 tr0 (fun _ => 0)).1 = 0 → RS st' t (srn t n mo 100200 0 0 tr0 (fun _ => 0)).2.2 n (srn t n mo 100200 0 0 tr0 (fun _ => 0)).2.1 ∧ SV t (srn t n mo 100200 0 0 tr0 (fun _ => 0)).2.2 mo n) → Q (vi (if (srn t n mo 100200 0 0 tr0 (fun _ => 0)).1 = 0 then 1 else if (srn t n mo 100200 0 0 tr0 (fun _ => 0)).1 = 1 then 0 else -1)) st') : MS (d + 3) 113 [vr 99, vi mo] st Q := by
  have k0 : kl 99 = 12 := rfl
  have k25 : kl 125 = 50 := rfl
  have l25 : len 125 = 120 := rfl
  have k27 : kl 127 = 50 := rfl
  have l27 : len 127 = 120 := rfl
  have k28 : kl 128 = 50 := rfl
  have l28 : len 128 = 24 := rfl
  have hT' := hT
  obtain ⟨⟨a1, a2, a3⟩, tb, tc, te, tp, tm⟩ := hT'
  generalize hR : srn t n mo 100200 0 0 tr0 (fun _ => 0) = R at *
  have key : ∀ fu : Nat, ∀ (k c tr fm : Nat) (pt : Nat → Nat) (s2 : St) (u4 : V), 2 * (50000 - tr) + k < fu → srn t n mo fu k c tr pt = R → k ≤ n → tr ≤ 50000 → SV t pt mo k → RS s2 t pt k tr → (∀ i, i < k → fcd t pt i ≠ -1 → (pt i : Int) = fcd t pt i) → (k < n → FRM t pt k c fm) → fm < 1000 → FrR st s2 → AW (P 113) Q (MS (d + 2)) 0 (fun _ => 0) 10 [vr 99, vi mo, vi k, vi fm, u4] [] s2 := by
    intro fu
    induction fu with
    | zero => intro k c tr fm pt s2 u4 h; omega
    | succ fu ih =>
      intro k c tr fm pt s2 u4 g1 g2 g3 g4 g5 g6 g7 g8 g8' g9
      rw [srn_s] at g2
      have T2 := TDm_congr hT g9
      have e14 := T2.1.1
      by_cases hkn : n ≤ k
      · have hk : k = n := by omega
        subst hk
        rw [if_pos hkn] at g2
        rw [← g2] at hq
        have := hq s2 g9 g6.2.2.2 g4 (fun _ => ⟨g6, g5⟩)
        rw [if_pos rfl] at this
        rw [awu 113 10]
        try simp only [awu 113 11, awu 113 32, pe113, xs, i_load, i_loadR, i_inc, lg, lp, true_and, and_true, List.length_cons, List.length_nil, Nat.reduceAdd, Nat.reduceLeDiff, Nat.zero_le, Int.toNat_natCast, natLit, k0, e14]
        exact ⟨fun h => by omega, fun _ => ⟨fun _ => this, fun h => absurd (Int.le_refl _) h⟩⟩
      · have hk : k < n := by omega
        rw [if_neg hkn] at g2
        have hF := g8 hk
        have e40 := g6.2.2.2
        have hlb := lst_b g5 hmo1
        have fb := fcd_b g5
        rw [awu 113 10]
        try simp only [awu 113 11, awu 113 12, pe113, xs, i_load, i_loadR, i_inc, lg, lp, true_and, and_true, List.length_cons, List.length_nil, Nat.reduceAdd, Nat.reduceLeDiff, Nat.zero_le, Int.toNat_natCast, natLit, k0, e14]
        refine ⟨fun h => by omega, fun _ => ⟨fun h => by omega, fun _ => ?_⟩⟩
        refine sp_nextTry T2 hmo1 hmo g5 g6 hk hF ?_
        dsimp only
        by_cases hl : lst t pt mo k < (c : Int)
        · rw [if_pos hl] at g2 ⊢
          rcases Nat.eq_zero_or_pos k with zk | zk
          · subst zk
            rw [if_pos rfl] at g2
            rw [← g2] at hq
            have := hq s2 g9 e40 g4 (fun h => absurd h (show ¬ (1 : Nat) = 0 by decide))
            dsimp only at this
            rw [if_neg (by decide), if_pos rfl] at this
            have wk : Unit → wr (((0 : Nat) : Int) + -1) = -1 := fun _ => by rw [wr_id (by omega) (by omega)]; rfl
            try simp only [awu 113 12, awu 113 13, awu 113 14, pe113, xs, i_load, i_loadR, i_inc, lg, lp, true_and, and_true, List.length_cons, List.length_nil, Nat.reduceAdd, Nat.reduceLeDiff, Nat.zero_le, Int.toNat_natCast, natLit, k0, wk ()]
            exact ⟨fun h => absurd (by trivial) h, fun _ => ⟨fun h => absurd h (by decide), fun _ => this⟩⟩
          · rw [if_neg (by omega)] at g2
            obtain ⟨k', rfl⟩ : ∃ k', k = k' + 1 := ⟨k - 1, by omega⟩
            rw [Nat.add_sub_cancel] at g2
            have wk : Unit → wr (((k' + 1 : Nat) : Int) + -1) = (k' : Int) := fun _ => by rw [wr_id (by omega) (by omega)]; omega
            have g5' := SV_p g5 tm
            have pk8 : pt k' < 8 := by have := g5.1 k' (by omega); omega
            have fb' := fcd_b g5'
            try simp only [awu 113 12, awu 113 13, awu 113 15, pe113, xs, i_load, i_loadR, i_inc, lg, lp, true_and, and_true, List.length_cons, List.length_nil, Nat.reduceAdd, Nat.reduceLeDiff, Nat.zero_le, Int.toNat_natCast, natLit, k0, wk ()]
            refine ⟨fun h => absurd (by trivial) h, fun _ => ⟨fun _ => ?_, fun h => absurd (by omega) h⟩⟩
            refine sp_takeOut T2 hmo g5 g6 (by omega) (fun s3 y1 y2 y3 => ?_)
            dsimp only
            have T3 := TDm_congr hT (FrR_t g9 y3)
            have wc1 : Unit → wr ((pt k' : Int) + 1) = ((pt k' + 1 : Nat) : Int) := fun _ => by rw [wr_id (by omega) (by omega)]; omega
            try simp only [awu 113 15, pe113, xs, i_load, i_loadR, i_inc, lg, lp, true_and, and_true, List.length_cons, List.length_nil, Nat.reduceAdd, Nat.reduceLeDiff, Nat.zero_le, Int.toNat_natCast, natLit, k0]
            refine sp_isForced T3 hmo g5' y1 (by omega) ?_
            dsimp only
            by_cases zf : fcd t pt k' = -1
            · rw [if_pos zf]
              try simp only [awu 113 15, awu 113 17, awu 113 18, pe113, xs, i_load, i_loadR, i_inc, lg, lp, true_and, and_true, List.length_cons, List.length_nil, Nat.reduceAdd, Nat.reduceLeDiff, Nat.zero_le, Int.toNat_natCast, natLit, k0, k25, l25, y2, wc1 ()]
              exact ⟨fun _ => ⟨by omega, ih k' (pt k' + 1) tr (pt k' + 1) pt s3 _ (by omega) g2 (by omega) g4 g5' y1 (fun i hi => g7 i (by omega)) (fun _ => Or.inl ⟨zf, rfl⟩) (by omega) (FrR_t g9 y3)⟩, fun h => absurd (by trivial) h⟩
            · rw [if_neg zf]
              have hpf := g7 k' (by omega) zf
              try simp only [awu 113 15, awu 113 16, awu 113 18, pe113, xs, i_load, i_loadR, i_inc, lg, lp, true_and, and_true, List.length_cons, List.length_nil, Nat.reduceAdd, Nat.reduceLeDiff, Nat.zero_le, Int.toNat_natCast, natLit, k0]
              exact ⟨fun h => absurd h (by decide), fun _ => ih k' (pt k' + 1) tr 8 pt s3 _ (by omega) g2 (by omega) g4 g5' y1 (fun i hi => g7 i (by omega)) (fun _ => Or.inr ⟨zf, Or.inr ⟨by omega, by omega⟩⟩) (by omega) (FrR_t g9 y3)⟩
        · rw [if_neg hl] at g2 ⊢
          have hc8 : c < 8 := by omega
          by_cases ht : 50000 ≤ tr
          · have : tr = 50000 := by omega
            subst this
            rw [if_pos ht] at g2
            rw [← g2] at hq
            have := hq s2 g9 e40 g4 (fun h => absurd h (show ¬ (2 : Nat) = 0 by decide))
            dsimp only at this
            rw [if_neg (by decide), if_neg (by decide)] at this
            try simp only [awu 113 12, awu 113 19, awu 113 20, pe113, xs, i_load, i_loadR, i_inc, lg, lp, true_and, and_true, List.length_cons, List.length_nil, Nat.reduceAdd, Nat.reduceLeDiff, Nat.zero_le, Int.toNat_natCast, natLit, k0, e40]
            exact ⟨fun _ => ⟨fun h => absurd (by trivial) h, fun _ => this⟩, fun h => absurd (by omega) h⟩
          · rw [if_neg ht] at g2
            have wt : Unit → wr ((tr : Int) + 1) = ((tr + 1 : Nat) : Int) := fun _ => by rw [wr_id (by omega) (by omega)]; omega
            have hfe : fcd t pt k ≠ -1 → (c : Int) = fcd t pt k := by
              intro h
              have hl2 : lst t pt mo k = fcd t pt k := by unfold lst; rw [if_neg h]
              rcases hF with ⟨h', _⟩ | ⟨_, h' | h'⟩
              · exact absurd h' h
              · exact h'.1
              · omega
            generalize hs3 : up2 s2 99 40 ((tr + 1 : Nat) : Int) = s3
            have f3 : ∀ q i, ¬ (q = 99 ∧ i = 40) → s3 q i = s2 q i := fun q i hqi => by
              rw [← hs3, up2_at]
              by_cases z : q = 99
              · subst z
                rw [if_pos rfl, if_neg (by omega)]
              · rw [if_neg z]
            have R3 : RS s3 t pt k (tr + 1) := ⟨fun i hi => by rw [f3 125 i (by omega), f3 126 i (by omega), f3 127 i (by omega)]; exact g6.1 i hi, fun s v hs hv => by rw [f3 128 _ (by omega)]; exact g6.2.1 s v hs hv, fun j hj => by rw [f3 121 _ (by omega)]; exact g6.2.2.1 j hj, by rw [← hs3, up2_self, upf_s]⟩
            have fr3 : FrR st s3 := fun q i q1 q2 q3 => by rw [f3 q i q1]; exact g9 q i q1 q2 q3
            try simp only [awu 113 12, awu 113 19, awu 113 21, pe113, xs, i_load, i_loadR, i_inc, lg, lp, true_and, and_true, List.length_cons, List.length_nil, Nat.reduceAdd, Nat.reduceLeDiff, Nat.zero_le, Int.toNat_natCast, natLit, k0, e40, wt ()]
            refine ⟨fun _ => ⟨fun _ => ?_, fun h => absurd (by omega) h⟩, fun h => absurd (by omega) h⟩
            rw [hs3]
            refine sp_puts (TDm_congr hT fr3) hmo g5 R3 hk hc8 hfe (fun y1 => ?_) (fun s4 y1 y2 y3 y4 y5 y6 y7 y8 => ?_)
            · rw [if_pos y1] at g2
              dsimp only
              have wc1 : Unit → wr ((c : Int) + 1) = ((c + 1 : Nat) : Int) := fun _ => by rw [wr_id (by omega) (by omega)]; omega
              try simp only [awu 113 21, awu 113 22, pe113, xs, i_load, i_loadR, i_inc, lg, lp, true_and, and_true, List.length_cons, List.length_nil, Nat.reduceAdd, Nat.reduceLeDiff, Nat.zero_le, Int.toNat_natCast, natLit, k0]
              refine ⟨fun h => absurd (by trivial) h, fun _ => ?_⟩
              refine sp_isForced (TDm_congr hT fr3) hmo g5 R3 hk ?_
              dsimp only
              by_cases zf : fcd t pt k = -1
              · rw [if_pos zf]
                try simp only [awu 113 22, awu 113 24, awu 113 25, pe113, xs, i_load, i_loadR, i_inc, lg, lp, true_and, and_true, List.length_cons, List.length_nil, Nat.reduceAdd, Nat.reduceLeDiff, Nat.zero_le, Int.toNat_natCast, natLit, k0, wc1 ()]
                exact ⟨fun _ => ih k (c + 1) (tr + 1) (c + 1) pt s3 _ (by omega) g2 (by omega) (by omega) g5 R3 g7 (fun _ => Or.inl ⟨zf, rfl⟩) (by omega) fr3, fun h => absurd (by trivial) h⟩
              · rw [if_neg zf]
                have := hfe zf
                try simp only [awu 113 22, awu 113 23, awu 113 25, pe113, xs, i_load, i_loadR, i_inc, lg, lp, true_and, and_true, List.length_cons, List.length_nil, Nat.reduceAdd, Nat.reduceLeDiff, Nat.zero_le, Int.toNat_natCast, natLit, k0]
                exact ⟨fun h => absurd h (by decide), fun _ => ih k (c + 1) (tr + 1) 8 pt s3 _ (by omega) g2 (by omega) (by omega) g5 R3 g7 (fun _ => Or.inr ⟨zf, Or.inr ⟨by omega, by omega⟩⟩) (by omega) fr3⟩
            · rw [if_neg (by rw [y1]; decide)] at g2
              dsimp only
              have wk : Unit → wr ((k : Int) + 1) = ((k + 1 : Nat) : Int) := fun _ => by rw [wr_id (by omega) (by omega)]; omega
              have cong : ∀ i, i ≤ k → sst t (updN pt k c) i = sst t pt i := fun i hi => sst_congr tp i (by omega) (fun j hj => by rw [updN_at, if_neg (by omega)])
              have ptk : updN pt k c k = c := by rw [updN_at, if_pos rfl]
              have pti : ∀ i, i < k → updN pt k c i = pt i := fun i hi => by rw [updN_at, if_neg (by omega)]
              have fcc : ∀ i, i ≤ k → fcd t (updN pt k c) i = fcd t pt i := fun i hi => by
                unfold fcd
                rcases Nat.eq_zero_or_pos i with z | z
                · rw [if_pos z, if_pos z]
                · rw [if_neg (by omega), if_neg (by omega), cong i hi]
                  unfold wy
                  rw [pti _ (by have := tp i z (by omega); omega)]
              have SVk : SV t (updN pt k c) mo k := by
                refine ⟨fun i hi => ?_, by rw [cong k (Nat.le_refl _)]; exact g5.2.1, fun j => by rw [cong k (Nat.le_refl _)]; exact g5.2.2.1 j, fun s => by rw [cong k (Nat.le_refl _)]; exact g5.2.2.2 s⟩
                rw [cong i (by omega), pti i hi]
                exact g5.1 i hi
              have SV1 : SV t (updN pt k c) mo (k + 1) := SV_s (tm k) SVk (by rw [ptk, cong k (Nat.le_refl _)]; omega) (by rw [ptk]; omega) (by rw [ptk, cong k (Nat.le_refl _)]; exact y1)
              have hu1 := SV1.2.1
              -- how many there are is noted
              have fin : ∀ (v : Int) (u4 : V), v = ((sst t (updN pt k c) (k + 1)).2.2 : Nat) → AW (P 113) Q (MS (d + 2)) 0 (fun _ => 0) 31 [vr 99, vi mo, vi k, vi fm, u4] [vi v, vi k, vr 127] s4 := by
                intro v u4 hv
                rw [awu 113 31]
                try simp only [awu 113 31, pe113, xs, i_load, i_loadR, i_inc, lg, lp, true_and, and_true, List.length_cons, List.length_nil, Nat.reduceAdd, Nat.reduceLeDiff, Nat.zero_le, Int.toNat_natCast, natLit, k0, k27, l27, wk ()]
                refine ⟨by omega, ?_⟩
                have fb1 := fcd_b SV1
                refine ih (k + 1) _ (tr + 1) 0 (updN pt k c) _ _ (by omega) g2 (by omega) (by omega) SV1 ⟨fun i hi => ?_, fun s v hs hv => by rw [up2_ne (by decide)]; exact y5 s v hs hv, fun j hj => by rw [up2_ne (by decide)]; exact y6 j hj, by rw [up2_ne (by decide)]; exact y7⟩ (fun i hi hne => ?_) (fun _ => ?_) (by omega) (fun q i q1 q2 q3 => ?_)
                · rw [up2_ne (by decide), up2_ne (by decide), up2_self]
                  by_cases z : i = k
                  · rw [z, upf_s, ptk, fcc k (Nat.le_refl _)]
                    exact ⟨y3, y4, hv⟩
                  · rw [upf_n z, pti i (by omega), fcc i (by omega), cong (i + 1) (by omega)]
                    exact y2 i (by omega)
                · by_cases z : i = k
                  · rw [z, ptk, fcc k (Nat.le_refl _)]
                    rw [z, fcc k (Nat.le_refl _)] at hne
                    exact hfe hne
                  · rw [pti i (by omega), fcc i (by omega)]
                    rw [fcc i (by omega)] at hne
                    exact g7 i (by omega) hne
                · unfold FRM ent
                  by_cases zf : fcd t (updN pt k c) (k + 1) = -1
                  · exact Or.inl ⟨zf, by rw [if_pos zf]⟩
                  · exact Or.inr ⟨zf, Or.inl ⟨by rw [if_neg zf]; omega, by omega⟩⟩
                · rw [up2_ne (by omega), y8 q i q1 q2 q3]
                  exact fr3 q i q1 q2 q3
              have su : (sst t (updN pt k c) (k + 1)).2.2 = if c = (sst t pt k).2.2 then (sst t pt k).2.2 + 1 else (sst t pt k).2.2 := by rw [sst_u, ptk, cong k (Nat.le_refl _)]
              rw [su] at fin hu1
              rcases Nat.eq_zero_or_pos k with zk | zk
              · subst zk
                have hl0 : lst t pt mo 0 = 0 := by
                  unfold lst
                  rw [if_pos (show fcd t pt 0 = -1 from rfl)]
                  show (if (0 : Int) ≤ (mo : Int) - 1 then (0 : Int) else (mo : Int) - 1) = 0
                  rw [if_pos (by omega)]
                have hc0 : c = 0 := by omega
                rw [hc0, if_pos (show 0 = (sst t pt 0).2.2 from rfl)] at fin
                rw [hc0]
                try simp only [awu 113 21, awu 113 26, awu 113 27, pe113, xs, i_load, i_loadR, i_inc, lg, lp, true_and, and_true, List.length_cons, List.length_nil, Nat.reduceAdd, Nat.reduceLeDiff, Nat.zero_le, Int.toNat_natCast, natLit, k0]
                exact ⟨fun _ => ⟨fun h => absurd (by trivial) h, fun _ => fin 1 _ rfl⟩, fun h => absurd (by decide) h⟩
              · obtain ⟨k', rfl⟩ : ∃ k', k = k' + 1 := ⟨k - 1, by omega⟩
                have e27 := (y2 k' (by omega)).2.2
                have wk1 : Unit → wr (((k' + 1 : Nat) : Int) - 1) = (k' : Int) := fun _ => by rw [wr_id (by omega) (by omega)]; omega
                have wc1 : Unit → wr ((c : Int) + 1) = ((c + 1 : Nat) : Int) := fun _ => by rw [wr_id (by omega) (by omega)]; omega
                try simp only [awu 113 21, awu 113 26, awu 113 28, awu 113 29, awu 113 30, pe113, xs, i_load, i_loadR, i_inc, lg, lp, true_and, and_true, List.length_cons, List.length_nil, Nat.reduceAdd, Nat.reduceLeDiff, Nat.zero_le, Int.toNat_natCast, natLit, k0, k27, l27, wk1 (), e27, wc1 ()]
                refine ⟨fun _ => ⟨fun _ => ⟨by omega, fun h => ⟨by omega, fin _ _ (by rw [if_neg (by omega)])⟩, fun h => fin _ _ (by rw [if_pos (by omega)]; omega)⟩, fun h => absurd (by omega) h⟩, fun h => absurd (by decide) h⟩
  have fillA : ∀ mm s : Nat, ∀ (s2 : St) (u3 : V), s + mm = 8 → (∀ i, i < 24 → s2 128 i = 0) → (∀ j, j < 4 * s → s2 121 (3200 + j) = -1) → s2 99 40 = (tr0 : Nat) → FrR st s2 → AW (P 113) Q (MS (d + 2)) 0 (fun _ => 0) 4 [vr 99, vi mo, vi s, u3, none] [] s2 := by
    intro mm
    induction mm with
    | zero =>
      intro s s2 u3 g1 g2 g3 g4 g5
      have : s = 8 := by omega
      subst this
      rw [awu 113 4]
      try simp only [awu 113 9, pe113, xs, i_load, i_loadR, i_inc, lg, lp, true_and, and_true, List.length_cons, List.length_nil, Nat.reduceAdd, Nat.reduceLeDiff, Nat.zero_le, Int.toNat_natCast, natLit, k0]
      refine ⟨fun _ => key 100200 0 0 tr0 0 (fun _ => 0) s2 none (by omega) hR (by omega) htr2 SV_0 ⟨fun i hi => by omega, fun s v hs hv => by rw [g2 _ (by omega)]; rfl, fun j hj => g3 j (by omega), g4⟩ (fun i hi => by omega) (fun _ => Or.inl ⟨rfl, rfl⟩) (by omega) g5, fun h => absurd (by decide) h⟩
    | succ mm ih =>
      intro s s2 u3 g1 g2 g3 g4 g5
      have ws : Unit → wr ((s : Int) + 1) = ((s + 1 : Nat) : Int) := fun _ => by rw [wr_id (by omega) (by omega)]; omega
      have lets : ∀ mm l : Nat, ∀ s3 : St, l + mm = 4 → (∀ i, i < 24 → s3 128 i = 0) → (∀ j, j < 4 * s + l → s3 121 (3200 + j) = -1) → s3 99 40 = (tr0 : Nat) → FrR st s3 → AW (P 113) Q (MS (d + 2)) 0 (fun _ => 0) 6 [vr 99, vi mo, vi s, vi l, none] [] s3 := by
        intro mm
        induction mm with
        | zero =>
          intro l s3 x1 x2 x3 x4 x5
          have : l = 4 := by omega
          subst this
          rw [awu 113 6]
          try simp only [awu 113 8, pe113, xs, i_load, i_loadR, i_inc, lg, lp, true_and, and_true, List.length_cons, List.length_nil, Nat.reduceAdd, Nat.reduceLeDiff, Nat.zero_le, Int.toNat_natCast, natLit, k0, ws ()]
          exact ⟨fun _ => ih (s + 1) s3 _ (by omega) x2 (fun j hj => x3 j (by omega)) x4 x5, fun h => absurd (by decide) h⟩
        | succ mm ihl =>
          intro l s3 x1 x2 x3 x4 x5
          have wl' : Unit → wr ((l : Int) + 1) = ((l + 1 : Nat) : Int) := fun _ => by rw [wr_id (by omega) (by omega)]; omega
          rw [awu 113 6]
          try simp only [awu 113 7, pe113, xs, i_load, i_loadR, i_inc, lg, lp, true_and, and_true, List.length_cons, List.length_nil, Nat.reduceAdd, Nat.reduceLeDiff, Nat.zero_le, Int.toNat_natCast, natLit, k0]
          refine ⟨fun h => by omega, fun _ => ?_⟩
          refine sp_putArrow (m := 4) (by decide) (show s < 200 by omega) (show l < 4 by omega) ?_
          dsimp only
          try simp only [awu 113 7, pe113, xs, i_load, i_loadR, i_inc, lg, lp, true_and, and_true, List.length_cons, List.length_nil, Nat.reduceAdd, Nat.reduceLeDiff, Nat.zero_le, Int.toNat_natCast, natLit, k0, wl' ()]
          refine ihl (l + 1) _ (by omega) (fun i hi => by rw [up2_ne (by decide)]; exact x2 i hi) (fun j hj => ?_) (by rw [up2_ne (by decide)]; exact x4) (fun q i q1 q2 q3 => ?_)
          · rw [up2_self]
            by_cases z : j = 4 * s + l
            · rw [z, show 3200 + (4 * s + l) = 800 * 4 + (4 * s + l) from rfl, upf_s]
            · rw [upf_n (by omega)]
              exact x3 j (by omega)
          · rw [up2_at]
            by_cases z : q = 121
            · subst z
              rw [if_pos rfl, if_neg (by omega)]
              exact x5 121 i q1 q2 q3
            · rw [if_neg z]
              exact x5 q i q1 q2 q3
      rw [awu 113 4]
      try simp only [awu 113 5, pe113, xs, i_load, i_loadR, i_inc, lg, lp, true_and, and_true, List.length_cons, List.length_nil, Nat.reduceAdd, Nat.reduceLeDiff, Nat.zero_le, Int.toNat_natCast, natLit, k0]
      exact ⟨fun h => by omega, fun _ => lets 4 0 s2 (by omega) g2 (fun j hj => g3 j (by omega)) g4 g5⟩
  have fillM : ∀ mm i : Nat, ∀ (s2 : St), i + mm = 24 → (∀ j, j < i → s2 128 j = 0) → s2 99 40 = (tr0 : Nat) → FrR st s2 → AW (P 113) Q (MS (d + 2)) 0 (fun _ => 0) 1 [vr 99, vi mo, vi i, none, none] [] s2 := by
    intro mm
    induction mm with
    | zero =>
      intro i s2 g1 g2 g3 g4
      have : i = 24 := by omega
      subst this
      rw [awu 113 1]
      try simp only [awu 113 3, pe113, xs, i_load, i_loadR, i_inc, lg, lp, true_and, and_true, List.length_cons, List.length_nil, Nat.reduceAdd, Nat.reduceLeDiff, Nat.zero_le, Int.toNat_natCast, natLit, k0]
      exact ⟨fun _ => fillA 8 0 s2 _ (by omega) g2 (fun j hj => by omega) g3 g4, fun h => absurd (by decide) h⟩
    | succ mm ih =>
      intro i s2 g1 g2 g3 g4
      have wi : Unit → wr ((i : Int) + 1) = ((i + 1 : Nat) : Int) := fun _ => by rw [wr_id (by omega) (by omega)]; omega
      rw [awu 113 1]
      try simp only [awu 113 2, pe113, xs, i_load, i_loadR, i_inc, lg, lp, true_and, and_true, List.length_cons, List.length_nil, Nat.reduceAdd, Nat.reduceLeDiff, Nat.zero_le, Int.toNat_natCast, natLit, k0, k28, l28, wi ()]
      refine ⟨fun h => by omega, fun _ => ⟨by omega, ih (i + 1) _ (by omega) (fun j hj => ?_) (by rw [up2_ne (by decide)]; exact g3) (fun q j q1 q2 q3 => by rw [up2_ne (by omega)]; exact g4 q j q1 q2 q3)⟩⟩
      rw [up2_self]
      by_cases z : j = i
      · rw [z, upf_s]
      · rw [upf_n z]
        exact g2 j (by omega)
  refine MS_v [vr 99, vi mo, none, none, none] rfl rfl rfl rfl ?_
  try simp only [awu 113 0, pe113, xs, i_load, i_loadR, i_inc, lg, lp, true_and, and_true, List.length_cons, List.length_nil, Nat.reduceAdd, Nat.reduceLeDiff, Nat.zero_le, Int.toNat_natCast, natLit, k0]
  exact fillM 24 0 st (by omega) (fun j hj => by omega) htr FrR_r
