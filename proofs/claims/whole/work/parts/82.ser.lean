/-! the search: the reference -/
def TDm (st : St) (t : TD) (n : Nat) (f : Nat → Nat) : Prop := (st 99 14 = (n : Nat) ∧ n ≤ 120 ∧ 0 < n) ∧ (∀ k, k < n → st 105 k = (wc (f k) : Nat) ∧ t.2.1 k = f k % 4) ∧ (∀ k, k < n → st 106 k = (t.2.2 k : Nat)) ∧ (∀ k, 0 < k → k < n → st 107 k = (t.1 k : Nat)) ∧ PrO t n ∧ ∀ i, t.2.2 i ≤ 2
def FrR (st st' : St) : Prop := ∀ q i, ¬ (q = 99 ∧ i = 40) → ¬ (q = 121 ∧ 3200 ≤ i) → q < 125 ∨ 128 < q → st' q i = st q i
theorem FrR_r {st : St} : FrR st st := fun _ _ _ _ _ => rfl
theorem FrR_t {s1 s2 s3 : St} (h1 : FrR s1 s2) (h2 : FrR s2 s3) : FrR s1 s3 := fun q i a b c => by rw [h2 q i a b c, h1 q i a b c]
theorem TDm_congr {st st' : St} {t : TD} {n : Nat} {f : Nat → Nat} (h : TDm st t n f) (e : FrR st st') : TDm st' t n f := by
  unfold TDm at *
  refine ⟨⟨by rw [e 99 14 (by omega) (by omega) (by omega)]; exact h.1.1, h.1.2⟩, fun k hk => ?_, fun k hk => ?_, fun k h1 h2 => ?_, h.2.2.2.2⟩
  · rw [e 105 k (by omega) (by omega) (by omega)]
    exact h.2.1 k hk
  · rw [e 106 k (by omega) (by omega) (by omega)]
    exact h.2.2.1 k hk
  · rw [e 107 k (by omega) (by omega) (by omega)]
    exact h.2.2.2.1 k h1 h2
def RS (st : St) (t : TD) (pt : Nat → Nat) (k tr : Nat) : Prop := (∀ i, i < k → st 125 i = (pt i : Nat) ∧ st 126 i = (if i ≠ 0 ∧ fcd t pt i = -1 then 1 else 0) ∧ st 127 i = ((sst t pt (i + 1)).2.2 : Nat)) ∧ (∀ s v, s < 8 → v < 3 → st 128 (3 * s + v) = (ctn t pt s v k : Nat)) ∧ (∀ j, j < 32 → st 121 (3200 + j) = (sst t pt k).2.1 j) ∧ st 99 40 = (tr : Nat)
def FRM (t : TD) (pt : Nat → Nat) (k c fm : Nat) : Prop := (fcd t pt k = -1 ∧ fm = c) ∨ (fcd t pt k ≠ -1 ∧ (((c : Int) = fcd t pt k ∧ (fm : Int) ≤ fcd t pt k) ∨ ((c : Int) = fcd t pt k + 1 ∧ 8 ≤ fm)))
theorem wc3 (w : Nat) : band (wc w : Nat) 3 = ((w % 4 : Nat) : Int) := by
  have := wc_lt w
  rw [band3 _ (by omega)]
  unfold wc
  omega
theorem sp_isForced {d n k tr mo : Nat} {st : St} {t : TD} {f pt : Nat → Nat} {Q : Rn} (hT : TDm st t n f) (hmo : mo ≤ 8) (hS : SV t pt mo k) (hR : RS st t pt k tr) (hk : k < n) (hq : Q (vi (if fcd t pt k = -1 then 0 else 1)) st) : MS (d + 2) 114 [vr 99, vi k] st Q := by
  have k0 : kl 99 = 12 := rfl
  have k25 : kl 125 = 50 := rfl
  have l25 : len 125 = 120 := rfl
  have k7 : kl 107 = 50 := rfl
  have l7 : len 107 = 161 := rfl
  have k5 : kl 105 = 50 := rfl
  have l5 : len 105 = 161 := rfl
  obtain ⟨⟨a1, a2, a3⟩, tb, tc, te, tp, tm⟩ := hT
  refine MS_v [vr 99, vi k] rfl rfl rfl rfl ?_
  rcases Nat.eq_zero_or_pos k with z | z
  · subst z
    rw [if_pos (show fcd t pt 0 = -1 from rfl)] at hq
    try simp only [awu 114 0, awu 114 3, awu 114 4, pe114, xs, i_load, i_loadR, i_inc, lg, lp, true_and, and_true, List.length_cons, List.length_nil, Nat.reduceAdd, Nat.reduceLeDiff, Nat.zero_le, Int.toNat_natCast, natLit, k0, ok01_0]
    exact ⟨fun _ => hq, fun h => absurd (by decide) h⟩
  · obtain ⟨p1, p2⟩ := tp k z hk
    obtain ⟨b1, b2⟩ := tb k hk
    have e1 := te k z hk
    have e2 := (hR.1 _ p1).1
    have p8 : pt (t.1 k) < 8 := by have := hS.1 _ p1; omega
    have b3 : Unit → band (wc (f k) : Nat) 3 = ((t.2.1 k : Nat) : Int) := fun _ => by rw [wc3, b2]
    have hwb := wy_b (pt := pt) tp z hk p8
    have hf : fcd t pt k = (sst t pt k).2.1 (wy t pt k) := by unfold fcd; rw [if_neg (by omega)]
    have ea : st 121 (800 * 4 + (4 * pt (t.1 k) + t.2.1 k)) = fcd t pt k := by
      rw [hf, ← hR.2.2.1 _ hwb]
      rfl
    try simp only [awu 114 0, awu 114 1, pe114, xs, i_load, i_loadR, i_inc, lg, lp, true_and, and_true, List.length_cons, List.length_nil, Nat.reduceAdd, Nat.reduceLeDiff, Nat.zero_le, Int.toNat_natCast, natLit, k0, k25, l25, k7, l7, e1, e2, k5, l5, b1, b3 ()]
    refine ⟨fun h => by omega, fun _ => ⟨by omega, by omega, by omega, ?_⟩⟩
    refine sp_arrowRaw (m := 4) (by decide) (show pt (t.1 k) < 200 by omega) (show t.2.1 k < 4 by omega) ?_
    dsimp only
    rw [ea]
    try simp only [awu 114 1, awu 114 2, awu 114 3, awu 114 4, pe114, xs, i_load, i_loadR, i_inc, lg, lp, true_and, and_true, List.length_cons, List.length_nil, Nat.reduceAdd, Nat.reduceLeDiff, Nat.zero_le, Int.toNat_natCast, natLit, k0, ok01_0, ok01_1]
    refine ⟨fun h => ?_, fun h => ?_⟩
    · rw [if_pos h] at hq
      exact hq
    · rw [if_neg h] at hq
      exact hq
theorem sp_nextTry {d n k c fm tr mo : Nat} {st : St} {t : TD} {f pt : Nat → Nat} {Q : Rn} (hT : TDm st t n f) (hmo1 : 1 ≤ mo) (hmo : mo ≤ 8) (hS : SV t pt mo k) (hR : RS st t pt k tr) (hk : k < n) (hF : FRM t pt k c fm) (hq : Q (vi (if lst t pt mo k < (c : Int) then -1 else (c : Int))) st) : MS (d + 2) 112 [vr 99, vi k, vi fm, vi mo] st Q := by
  have k0 : kl 99 = 12 := rfl
  have k25 : kl 125 = 50 := rfl
  have l25 : len 125 = 120 := rfl
  have k27 : kl 127 = 50 := rfl
  have l27 : len 127 = 120 := rfl
  have k7 : kl 107 = 50 := rfl
  have l7 : len 107 = 161 := rfl
  have k5 : kl 105 = 50 := rfl
  have l5 : len 105 = 161 := rfl
  obtain ⟨⟨a1, a2, a3⟩, tb, tc, te, tp, tm⟩ := hT
  have hu := hS.2.1
  refine MS_v [vr 99, vi k, vi fm, vi mo, none, none] rfl rfl rfl rfl ?_
  rcases Nat.eq_zero_or_pos k with z | z
  · subst z
    have hf0 : fcd t pt 0 = -1 := rfl
    have hl0 : lst t pt mo 0 = 0 := by
      unfold lst
      rw [if_pos hf0]
      show (if (0 : Int) ≤ (mo : Int) - 1 then (0 : Int) else (mo : Int) - 1) = 0
      rw [if_pos (by omega)]
    have hfc : fm = c := by
      rcases hF with ⟨_, h⟩ | ⟨h, _⟩
      · exact h
      · exact absurd hf0 h
    subst hfc
    rw [hl0] at hq
    try simp only [awu 112 0, awu 112 1, awu 112 2, awu 112 3, awu 112 4, pe112, xs, i_load, i_loadR, i_inc, lg, lp, true_and, and_true, List.length_cons, List.length_nil, Nat.reduceAdd, Nat.reduceLeDiff, Nat.zero_le, Int.toNat_natCast, natLit, k0]
    refine ⟨fun h => absurd (by trivial) h, fun _ => ⟨fun h => ?_, fun h => ?_⟩⟩
    · rw [if_pos (by omega)] at hq
      exact hq
    · have : fm = 0 := by omega
      subst this
      rw [if_neg (by omega)] at hq
      exact hq
  · obtain ⟨p1, p2⟩ := tp k z hk
    obtain ⟨b1, b2⟩ := tb k hk
    have e1 := te k z hk
    have e2 := (hR.1 _ p1).1
    have p8 : pt (t.1 k) < 8 := by have := hS.1 _ p1; omega
    have b3 : Unit → band (wc (f k) : Nat) 3 = ((t.2.1 k : Nat) : Int) := fun _ => by rw [wc3, b2]
    have hwb := wy_b (pt := pt) tp z hk p8
    have hf : fcd t pt k = (sst t pt k).2.1 (wy t pt k) := by unfold fcd; rw [if_neg (by omega)]
    have ea : st 121 (800 * 4 + (4 * pt (t.1 k) + t.2.1 k)) = fcd t pt k := by
      rw [hf, ← hR.2.2.1 _ hwb]
      rfl
    have fb := fcd_b hS
    try simp only [awu 112 0, awu 112 5, pe112, xs, i_load, i_loadR, i_inc, lg, lp, true_and, and_true, List.length_cons, List.length_nil, Nat.reduceAdd, Nat.reduceLeDiff, Nat.zero_le, Int.toNat_natCast, natLit, k0, k25, l25, k7, l7, e1, e2, k5, l5, b1, b3 ()]
    refine ⟨fun _ => ⟨by omega, by omega, by omega, ?_⟩, fun h => absurd (by omega) h⟩
    refine sp_arrowRaw (m := 4) (by decide) (show pt (t.1 k) < 200 by omega) (show t.2.1 k < 4 by omega) ?_
    dsimp only
    rw [ea]
    rcases hF with ⟨h1, h2⟩ | ⟨h1, h2⟩
    · subst h2
      obtain ⟨k', rfl⟩ : ∃ k', k = k' + 1 := ⟨k - 1, by omega⟩
      have e27 := (hR.1 k' (by omega)).2.2
      have wk : Unit → wr (((k' + 1 : Nat) : Int) - 1) = (k' : Int) := fun _ => by rw [wr_id (by omega) (by omega)]; omega
      have wm : Unit → wr ((mo : Int) - 1) = (mo : Int) - 1 := fun _ => by rw [wr_id (by omega) (by omega)]
      have hl : lst t pt mo (k' + 1) = (if ((sst t pt (k' + 1)).2.2 : Int) ≤ (mo : Int) - 1 then ((sst t pt (k' + 1)).2.2 : Int) else (mo : Int) - 1) := by unfold lst; rw [if_pos h1]
      rw [hl] at hq
      rw [h1]
      try simp only [awu 112 5, awu 112 10, awu 112 11, awu 112 12, awu 112 13, awu 112 14, awu 112 15, awu 112 16, pe112, xs, i_load, i_loadR, i_inc, lg, lp, true_and, and_true, List.length_cons, List.length_nil, Nat.reduceAdd, Nat.reduceLeDiff, Nat.zero_le, Int.toNat_natCast, natLit, k0, k27, l27, wk (), e27, wm ()]
      refine ⟨fun _ => ⟨by omega, fun h => ⟨fun h2 => ?_, fun h2 => ?_⟩, fun h => ⟨by omega, fun h2 => ?_, fun h2 => ?_⟩⟩, fun h => absurd (by trivial) h⟩
      · rw [if_neg (show ¬ ((sst t pt (k' + 1)).2.2 : Int) ≤ (mo : Int) - 1 by omega), if_pos h2] at hq
        exact hq
      · rw [if_neg (show ¬ ((sst t pt (k' + 1)).2.2 : Int) ≤ (mo : Int) - 1 by omega), if_neg h2] at hq
        exact hq
      · rw [if_pos (show ((sst t pt (k' + 1)).2.2 : Int) ≤ (mo : Int) - 1 by omega), if_pos h2] at hq
        exact hq
      · rw [if_pos (show ((sst t pt (k' + 1)).2.2 : Int) ≤ (mo : Int) - 1 by omega), if_neg h2] at hq
        exact hq
    · have hl : lst t pt mo k = fcd t pt k := by unfold lst; rw [if_neg h1]
      rw [hl] at hq
      try simp only [awu 112 5, awu 112 6, awu 112 7, awu 112 8, awu 112 9, pe112, xs, i_load, i_loadR, i_inc, lg, lp, true_and, and_true, List.length_cons, List.length_nil, Nat.reduceAdd, Nat.reduceLeDiff, Nat.zero_le, Int.toNat_natCast, natLit, k0]
      refine ⟨fun h => absurd h h1, fun _ => ⟨fun h => ?_, fun h => ?_⟩⟩
      · rw [if_pos (by omega)] at hq
        exact hq
      · rw [if_neg (by omega), show (c : Int) = fcd t pt k by omega] at hq
        exact hq
theorem sp_takeOut {d n k tr mo : Nat} {st : St} {t : TD} {f pt : Nat → Nat} {Q : Rn} (hT : TDm st t n f) (hmo : mo ≤ 8) (hS : SV t pt mo (k + 1)) (hR : RS st t pt (k + 1) tr) (hk : k < n)
    (hq : ∀ st' : St, RS st' t pt k tr → st' 125 k = (pt k : Nat) → FrR st st' → Q none st') : MS (d + 2) 111 [vr 99, vi k] st Q := by
  have k0 : kl 99 = 12 := rfl
  have k25 : kl 125 = 50 := rfl
  have l25 : len 125 = 120 := rfl
  have k26 : kl 126 = 52 := rfl
  have l26 : len 126 = 120 := rfl
  have k28 : kl 128 = 50 := rfl
  have l28 : len 128 = 24 := rfl
  have k7 : kl 107 = 50 := rfl
  have l7 : len 107 = 161 := rfl
  have k5 : kl 105 = 50 := rfl
  have l5 : len 105 = 161 := rfl
  have k6 : kl 106 = 50 := rfl
  have l6 : len 106 = 161 := rfl
  obtain ⟨⟨a1, a2, a3⟩, tb, tc, te, tp, tm⟩ := hT
  obtain ⟨r1, r2, r3, r4⟩ := id hR
  obtain ⟨d1, d2, d3⟩ := r1 k (by omega)
  have p8 : ∀ i, i < k + 1 → pt i < 8 := fun i hi => by have := hS.1 i hi; omega
  have pk8 := p8 k (by omega)
  have tk := tm k
  have em := tc k hk
  have eo := r2 (pt k) (t.2.2 k) pk8 (by omega)
  have hct := ctn_s (t := t) (pt := pt) (s := pt k) (v := t.2.2 k) (k := k)
  rw [if_pos ⟨rfl, rfl⟩] at hct
  have hle : ctn t pt (pt k) (t.2.2 k) k ≤ k := cn_le k
  rw [hct] at eo
  have w3 : Unit → wr (3 * (pt k : Int)) = ((3 * pt k : Nat) : Int) := fun _ => by rw [wr_id (by omega) (by omega)]; omega
  have w4 : Unit → wr (((3 * pt k : Nat) : Int) + ((t.2.2 k : Nat) : Int)) = ((3 * pt k + t.2.2 k : Nat) : Int) := fun _ => by rw [wr_id (by omega) (by omega)]; omega
  have w5 : Unit → wr (((ctn t pt (pt k) (t.2.2 k) k + 1 : Nat) : Int) - 1) = ((ctn t pt (pt k) (t.2.2 k) k : Nat) : Int) := fun _ => by rw [wr_id (by omega) (by omega)]; omega
  generalize hs1 : up2 st 128 (3 * pt k + t.2.2 k) ((ctn t pt (pt k) (t.2.2 k) k : Nat) : Int) = s1
  have f1 : ∀ q, q ≠ 128 → s1 q = st q := fun q hq => by rw [← hs1, up2_ne hq]
  have o1 : ∀ s v, s < 8 → v < 3 → s1 128 (3 * s + v) = (ctn t pt s v k : Nat) := by
    intro s v hs hv
    rw [← hs1, up2_self]
    by_cases z : s = pt k ∧ v = t.2.2 k
    · rw [z.1, z.2, upf_s]
    · have h2 := ctn_s (t := t) (pt := pt) (s := s) (v := v) (k := k)
      rw [if_neg (fun h => z ⟨h.1.symm, h.2.symm⟩)] at h2
      rw [upf_n (by omega), r2 s v hs hv, h2]
      rfl
  have d2' : s1 126 k = (if k ≠ 0 ∧ fcd t pt k = -1 then 1 else 0) := by rw [f1 126 (by decide)]; exact d2
  refine MS_v [vr 99, vi k] rfl rfl rfl rfl ?_
  by_cases zg : k ≠ 0 ∧ fcd t pt k = -1
  · rw [if_pos zg] at d2'
    obtain ⟨p1, p2⟩ := tp k (by omega) hk
    obtain ⟨b1, b2⟩ := tb k hk
    have e1 : s1 107 k = (t.1 k : Nat) := by rw [f1 107 (by decide)]; exact te k (by omega) hk
    have e2 : s1 125 (t.1 k) = (pt (t.1 k) : Nat) := by rw [f1 125 (by decide)]; exact (r1 _ (by omega)).1
    have e3 : s1 105 k = (wc (f k) : Nat) := by rw [f1 105 (by decide)]; exact b1
    have pp8 := p8 (t.1 k) (by omega)
    have b3 : Unit → band (wc (f k) : Nat) 3 = ((t.2.1 k : Nat) : Int) := fun _ => by rw [wc3, b2]
    have e0 : (sst t pt k).2.1 (wy t pt k) = -1 := by
      have := zg.2
      unfold fcd at this
      rw [if_neg zg.1] at this
      exact this
    try simp only [awu 111 0, pe111, xs, i_load, i_loadR, i_inc, lg, lp, true_and, and_true, List.length_cons, List.length_nil, Nat.reduceAdd, Nat.reduceLeDiff, Nat.zero_le, Int.toNat_natCast, natLit, k0, k25, l25, d1, w3 (), k6, l6, em, w4 (), k28, l28, eo, w5 ()]
    refine ⟨by omega, by omega, by omega, ?_⟩
    rw [hs1]
    try simp only [awu 111 1, pe111, xs, i_load, i_loadR, i_inc, lg, lp, true_and, and_true, List.length_cons, List.length_nil, Nat.reduceAdd, Nat.reduceLeDiff, Nat.zero_le, Int.toNat_natCast, natLit, k0, k26, l26, d2', k25, l25, k7, l7, e1, e2, k5, l5, e3, b3 ()]
    refine ⟨by omega, by omega, fun h => absurd h (by decide), fun _ => ⟨by omega, by omega, by omega, ?_⟩⟩
    refine sp_putArrow (m := 4) (by decide) (show pt (t.1 k) < 200 by omega) (show t.2.1 k < 4 by omega) ?_
    dsimp only
    try simp only [awu 111 1, awu 111 2, pe111, xs, i_load, i_loadR, i_inc, lg, lp, true_and, and_true, List.length_cons, List.length_nil, Nat.reduceAdd, Nat.reduceLeDiff, Nat.zero_le, Int.toNat_natCast, natLit, k0]
    refine hq _ ⟨fun i hi => ?_, fun s v hs hv => by rw [up2_ne (by decide)]; exact o1 s v hs hv, fun j hj => ?_, by rw [up2_ne (by decide), f1 99 (by decide)]; exact r4⟩ (by rw [up2_ne (by decide), f1 125 (by decide)]; exact d1) (fun q i q1 q2 q3 => ?_)
    · rw [up2_ne (by decide), up2_ne (by decide), up2_ne (by decide), f1 125 (by decide), f1 126 (by decide), f1 127 (by decide)]
      exact r1 i (by omega)
    · rw [up2_self]
      by_cases zj : j = wy t pt k
      · rw [zj, show 3200 + wy t pt k = 800 * 4 + (4 * pt (t.1 k) + t.2.1 k) from rfl, upf_s, e0]
      · rw [upf_n (fun e => zj (by unfold wy; omega)), f1 121 (by decide), r3 j hj, sst_a, if_pos zg, upf_n zj]
    · rw [up2_at]
      by_cases z : q = 121
      · subst z
        rw [if_pos rfl, if_neg (by omega), f1 121 (by decide)]
      · rw [if_neg z, f1 q (by omega)]
  · rw [if_neg zg] at d2'
    try simp only [awu 111 0, pe111, xs, i_load, i_loadR, i_inc, lg, lp, true_and, and_true, List.length_cons, List.length_nil, Nat.reduceAdd, Nat.reduceLeDiff, Nat.zero_le, Int.toNat_natCast, natLit, k0, k25, l25, d1, w3 (), k6, l6, em, w4 (), k28, l28, eo, w5 ()]
    refine ⟨by omega, by omega, by omega, ?_⟩
    rw [hs1]
    try simp only [awu 111 2, pe111, xs, i_load, i_loadR, i_inc, lg, lp, true_and, and_true, List.length_cons, List.length_nil, Nat.reduceAdd, Nat.reduceLeDiff, Nat.zero_le, Int.toNat_natCast, natLit, k0, k26, l26, d2']
    refine ⟨by omega, by omega, fun _ => ?_, fun h => absurd (by trivial) h⟩
    refine hq _ ⟨fun i hi => ?_, o1, fun j hj => ?_, by rw [f1 99 (by decide)]; exact r4⟩ (by rw [f1 125 (by decide)]; exact d1) (fun q i q1 q2 q3 => by rw [f1 q (by omega)])
    · rw [f1 125 (by decide), f1 126 (by decide), f1 127 (by decide)]
      exact r1 i (by omega)
    · rw [f1 121 (by decide), r3 j hj, sst_a, if_neg zg]
