/-! the search: back, and to its end (class) -/
theorem sst_a {t : TD} {pt : Nat → Nat} {k j : Nat} : (sst t pt (k + 1)).2.1 j = if k ≠ 0 ∧ fcd t pt k = -1 then upf (sst t pt k).2.1 (wy t pt k) (pt k : Int) j else (sst t pt k).2.1 j := by
  rw [sst_s]
  show (if k ≠ 0 ∧ (sst t pt k).2.1 (wy t pt k) = -1 then upf (sst t pt k).2.1 (wy t pt k) (pt k : Int) else (sst t pt k).2.1) j = _
  unfold fcd
  by_cases z : k = 0
  · rw [if_neg (fun h => h.1 z), if_neg (fun h => h.1 z)]
  · rw [if_neg z]
    split <;> rfl
theorem sst_k {t : TD} {pt : Nat → Nat} {k s : Nat} : (sst t pt (k + 1)).1 s = if (sst t pt k).1 (pt k) = 0 then updN (sst t pt k).1 (pt k) (t.2.2 k) s else (sst t pt k).1 s := by
  rw [sst_s]
  show (if (sst t pt k).1 (pt k) = 0 then updN (sst t pt k).1 (pt k) (t.2.2 k) else (sst t pt k).1) s = _
  split <;> rfl
theorem sst_u {t : TD} {pt : Nat → Nat} {k : Nat} : (sst t pt (k + 1)).2.2 = if pt k = (sst t pt k).2.2 then (sst t pt k).2.2 + 1 else (sst t pt k).2.2 := by rw [sst_s]
theorem sp_takeAway {d n k mo tr : Nat} {st : St} {t : TD} {f pt : Nat → Nat} {Q : Rn} (hT : TDc st t n f) (hmo : mo ≤ 8) (hS : SV t pt mo (k + 1)) (hC : CS0 st t pt mo (k + 1) tr) (hk : k < n)
    (hq : ∀ st' : St, CS1 st' t pt mo n k (pt k + 1) tr → FrSe st st' → Q none st') : MS (d + 3) 249 [vr 66, vr 8, vi k] st Q := by
  have k0 : kl 66 = 8 := rfl
  have k67 : kl 67 = 50 := rfl
  have l67 : len 67 = 120 := rfl
  have k70 : kl 70 = 52 := rfl
  have l70 : len 70 = 120 := rfl
  have k71 : kl 71 = 52 := rfl
  have l71 : len 71 = 120 := rfl
  have k72 : kl 72 = 52 := rfl
  have l72 : len 72 = 120 := rfl
  have k73 : kl 73 = 50 := rfl
  have l73 : len 73 = 8 := rfl
  have k74 : kl 74 = 50 := rfl
  have l74 : len 74 = 32 := rfl
  have hT' := hT
  obtain ⟨⟨a1, a2, a3⟩, tb, tc, te0, te1, te2, te3⟩ := hT'
  obtain ⟨c1, c2, c3, c4, c5⟩ := id hC
  obtain ⟨d1, d2, d3, d4, d5, d6⟩ := c1 k (by omega)
  have p8 : ∀ i, i < k + 1 → pt i < 8 := fun i hi => by have := hS.1 i hi; omega
  have pk8 := p8 k (by omega)
  -- the end: how many there are
  have endU : ∀ s3 : St, FrSe st s3 → (∀ q i, 67 ≤ q → q ≤ 72 → s3 q i = st q i) → s3 66 = st 66 → (∀ s, s < 8 → s3 73 s = ((sst t pt k).1 s : Nat)) → (∀ j, j < 32 → s3 74 j = (sst t pt k).2.1 j) → AW (P 249) Q (MS (d + 2)) 0 (fun _ => 0) 4 [vr 66, vr 8, vi k] [] s3 := by
    intro s3 x1 x2 x3 x4 x5
    have e72 : s3 72 k = (if pt k = (sst t pt k).2.2 then 1 else 0) := by rw [x2 72 k (by decide) (by decide)]; exact d6
    have e668 : s3 66 8 = ((sst t pt (k + 1)).2.2 : Nat) := by rw [x3]; exact c4
    rw [sst_u] at e668
    have arrs : ∀ i, i < k + 1 → s3 67 i = st 67 i ∧ s3 68 i = st 68 i ∧ s3 69 i = st 69 i ∧ s3 70 i = st 70 i ∧ s3 71 i = st 71 i ∧ s3 72 i = st 72 i := fun i _ => ⟨x2 67 i (by decide) (by decide), x2 68 i (by decide) (by decide), x2 69 i (by decide) (by decide), x2 70 i (by decide) (by decide), x2 71 i (by decide) (by decide), x2 72 i (by decide) (by decide)⟩
    rw [awu 249 4]
    by_cases zu : pt k = (sst t pt k).2.2
    · rw [if_pos zu] at e72 e668
      have wu : Unit → wr ((((sst t pt k).2.2 + 1 : Nat) : Int) - 1) = (((sst t pt k).2.2 : Nat) : Int) := fun _ => by have := (hS.1 k (by omega)).1; rw [wr_id (by omega) (by omega)]; omega
      try simp only [awu 249 5, awu 249 6, pe249, xs, i_load, i_loadR, i_inc, lg, lp, true_and, and_true, List.length_cons, List.length_nil, Nat.reduceAdd, Nat.reduceLeDiff, Nat.zero_le, Int.toNat_natCast, natLit, k0, k72, l72, e72, e668, wu ()]
      refine ⟨by omega, fun h => absurd h (by decide), fun _ => ?_⟩
      refine hq _ ⟨⟨fun i hi => ?_, fun s hs => ?_, fun j hj => ?_, ?_, ?_⟩, fun _ => ⟨?_, ?_⟩⟩ (fun q hq => ?_)
      · obtain ⟨y1, y2, y3, y4, y5, y6⟩ := arrs i (by omega)
        rw [up2_ne (by decide), up2_ne (by decide), up2_ne (by decide), up2_ne (by decide), up2_ne (by decide), up2_ne (by decide), y1, y2, y3, y4, y5, y6]
        exact c1 i (by omega)
      · rw [up2_ne (by decide)]; exact x4 s hs
      · rw [up2_ne (by decide)]; exact x5 j hj
      · rw [up2_self, upf_s]
      · rw [up2_self, upf_n (by decide), x3]; exact c5
      · rw [up2_ne (by decide), (arrs k (by omega)).2.1]; exact d2
      · rw [up2_ne (by decide), (arrs k (by omega)).2.2.1]; exact d3
      · rw [up2_ne (by omega)]; exact x1 q hq
    · rw [if_neg zu] at e72 e668
      try simp only [awu 249 6, pe249, xs, i_load, i_loadR, i_inc, lg, lp, true_and, and_true, List.length_cons, List.length_nil, Nat.reduceAdd, Nat.reduceLeDiff, Nat.zero_le, Int.toNat_natCast, natLit, k0, k72, l72, e72]
      refine ⟨by omega, fun _ => ?_, fun h => absurd (by trivial) h⟩
      refine hq _ ⟨⟨fun i hi => ?_, x4, x5, e668, by rw [x3]; exact c5⟩, fun _ => ⟨?_, ?_⟩⟩ x1
      · obtain ⟨y1, y2, y3, y4, y5, y6⟩ := arrs i (by omega)
        rw [y1, y2, y3, y4, y5, y6]
        exact c1 i (by omega)
      · rw [(arrs k (by omega)).2.1]; exact d2
      · rw [(arrs k (by omega)).2.2.1]; exact d3
  have midM : ∀ s2 : St, FrSe st s2 → (∀ q i, 67 ≤ q → q ≤ 72 → s2 q i = st q i) → s2 66 = st 66 → s2 73 = st 73 → (∀ j, j < 32 → s2 74 j = (sst t pt k).2.1 j) → AW (P 249) Q (MS (d + 2)) 0 (fun _ => 0) 2 [vr 66, vr 8, vi k] [] s2 := by
    intro s2 x1 x2 x3 x4 x5
    have e70 : s2 70 k = (if (sst t pt k).1 (pt k) = 0 ∧ t.2.2 k ≠ 0 then 1 else 0) := by rw [x2 70 k (by decide) (by decide)]; exact d4
    have e67 : s2 67 k = (pt k : Nat) := by rw [x2 67 k (by decide) (by decide)]; exact d1
    rw [awu 249 2]
    by_cases zg : (sst t pt k).1 (pt k) = 0 ∧ t.2.2 k ≠ 0
    · rw [if_pos zg] at e70
      try simp only [awu 249 3, pe249, xs, i_load, i_loadR, i_inc, lg, lp, true_and, and_true, List.length_cons, List.length_nil, Nat.reduceAdd, Nat.reduceLeDiff, Nat.zero_le, Int.toNat_natCast, natLit, k0, k70, l70, e70, k67, l67, e67, k73, l73]
      refine ⟨by omega, fun h => absurd h (by decide), fun _ => ⟨by omega, by omega, ?_⟩⟩
      refine endU _ (fun q hq => by rw [up2_ne (by omega)]; exact x1 q hq) (fun q i h1 h2 => by rw [up2_ne (by omega)]; exact x2 q i h1 h2) (by rw [up2_ne (by decide)]; exact x3) (fun s hs => ?_) (fun j hj => by rw [up2_ne (by decide)]; exact x5 j hj)
      rw [up2_self, x4]
      by_cases zs : s = pt k
      · rw [zs, upf_s, zg.1]
        rfl
      · rw [upf_n zs, c2 s hs, sst_k, if_pos zg.1, updN_at, if_neg zs]
    · rw [if_neg zg] at e70
      try simp only [awu 249 2, pe249, xs, i_load, i_loadR, i_inc, lg, lp, true_and, and_true, List.length_cons, List.length_nil, Nat.reduceAdd, Nat.reduceLeDiff, Nat.zero_le, Int.toNat_natCast, natLit, k0, k70, l70, e70]
      refine ⟨by omega, fun _ => endU s2 x1 x2 x3 (fun s hs => ?_) x5, fun h => absurd (by trivial) h⟩
      rw [x4, c2 s hs, sst_k]
      by_cases z0 : (sst t pt k).1 (pt k) = 0
      · have ht0 : t.2.2 k = 0 := by
          rcases Nat.eq_zero_or_pos (t.2.2 k) with z | z
          · exact z
          · exact absurd ⟨z0, by omega⟩ zg
        rw [if_pos z0, updN_at, ht0]
        by_cases zs : s = pt k
        · rw [if_pos zs, zs, z0]
        · rw [if_neg zs]
      · rw [if_neg z0]
  refine MS_v [vr 66, vr 8, vi k] rfl rfl rfl rfl ?_
  by_cases zg : k ≠ 0 ∧ fcd t pt k = -1
  · rw [if_pos zg] at d5
    obtain ⟨p1, p2⟩ := te2 k (by omega) hk
    have hwb := wy_b (pt := pt) te2 (by omega) hk (p8 _ (by omega))
    have e0 : (sst t pt k).2.1 (wy t pt k) = -1 := by
      have := zg.2
      unfold fcd at this
      rw [if_neg zg.1] at this
      exact this
    try simp only [awu 249 0, awu 249 1, pe249, xs, i_load, i_loadR, i_inc, lg, lp, true_and, and_true, List.length_cons, List.length_nil, Nat.reduceAdd, Nat.reduceLeDiff, Nat.zero_le, Int.toNat_natCast, natLit, k0, k71, l71, d5]
    refine ⟨by omega, fun h => absurd h (by decide), fun _ => ?_⟩
    refine sp_arrowTo (pt := pt) hT (by omega) hk (c1 _ (by omega)).1 (p8 _ (by omega)) ?_
    dsimp only
    try simp only [awu 249 1, pe249, xs, i_load, i_loadR, i_inc, lg, lp, true_and, and_true, List.length_cons, List.length_nil, Nat.reduceAdd, Nat.reduceLeDiff, Nat.zero_le, Int.toNat_natCast, natLit, k0, k74, l74]
    refine ⟨by omega, ?_⟩
    refine midM _ (fun q hq => by rw [up2_ne (by omega)]) (fun q i h1 h2 => by rw [up2_ne (by omega)]) (by rw [up2_ne (by decide)]) (by rw [up2_ne (by decide)]) (fun j hj => ?_)
    rw [up2_self]
    by_cases zj : j = wy t pt k
    · rw [zj, upf_s, e0]
    · rw [upf_n zj, c3 j hj, sst_a, if_pos zg, upf_n zj]
  · rw [if_neg zg] at d5
    try simp only [awu 249 0, pe249, xs, i_load, i_loadR, i_inc, lg, lp, true_and, and_true, List.length_cons, List.length_nil, Nat.reduceAdd, Nat.reduceLeDiff, Nat.zero_le, Int.toNat_natCast, natLit, k0, k71, l71, d5]
    refine ⟨by omega, fun _ => midM st FrSe_r (fun _ _ _ _ => rfl) rfl rfl (fun j hj => ?_), fun h => absurd (by trivial) h⟩
    rw [c3 j hj, sst_a, if_neg zg]
theorem sp_forgetS {d : Nat} {st : St} {Q : Rn} (hq : ∀ st' : St, st' 66 8 = 0 → st' 66 9 = st 66 9 → (∀ s, s < 8 → st' 73 s = 0) → (∀ j, j < 32 → st' 74 j = -1) → FrSe st st' → Q none st') : MS (d + 1) 245 [vr 66] st Q := by
  have k0 : kl 66 = 8 := rfl
  have k73 : kl 73 = 50 := rfl
  have l73 : len 73 = 8 := rfl
  have k74 : kl 74 = 50 := rfl
  have l74 : len 74 = 32 := rfl
  have key2 : ∀ mm j : Nat, ∀ s2 : St, j + mm = 32 → s2 66 8 = 0 → s2 66 9 = st 66 9 → (∀ s, s < 8 → s2 73 s = 0) → (∀ i, i < j → s2 74 i = -1) → FrSe st s2 → AW (P 245) Q (MS d) 0 (fun _ => 0) 4 [vr 66, vi j] [] s2 := by
    intro mm
    induction mm with
    | zero =>
      intro j s2 g1 g2 g3 g4 g5 g6
      have : j = 32 := by omega
      subst this
      rw [awu 245 4]
      try simp only [awu 245 6, pe245, xs, i_load, i_loadR, i_inc, lg, lp, true_and, and_true, List.length_cons, List.length_nil, Nat.reduceAdd, Nat.reduceLeDiff, Nat.zero_le, Int.toNat_natCast, natLit, k0]
      exact ⟨fun _ => hq s2 g2 g3 g4 g5 g6, fun h => absurd (by decide) h⟩
    | succ mm ih =>
      intro j s2 g1 g2 g3 g4 g5 g6
      have wj : Unit → wr ((j : Int) + 1) = ((j + 1 : Nat) : Int) := fun _ => by rw [wr_id (by omega) (by omega)]; omega
      rw [awu 245 4]
      try simp only [awu 245 5, pe245, xs, i_load, i_loadR, i_inc, lg, lp, true_and, and_true, List.length_cons, List.length_nil, Nat.reduceAdd, Nat.reduceLeDiff, Nat.zero_le, Int.toNat_natCast, natLit, k0, k74, l74, wj ()]
      refine ⟨fun h => by omega, fun _ => ⟨by omega, ih (j + 1) _ (by omega) (by rw [up2_ne (by decide)]; exact g2) (by rw [up2_ne (by decide)]; exact g3) (fun s hs => by rw [up2_ne (by decide)]; exact g4 s hs) (fun i hi => ?_) (fun q hq => by rw [up2_ne (by omega)]; exact g6 q hq)⟩⟩
      rw [up2_self]
      by_cases z : i = j
      · rw [z, upf_s]
      · rw [upf_n z]
        exact g5 i (by omega)
  have key1 : ∀ mm j : Nat, ∀ s2 : St, j + mm = 8 → s2 66 8 = 0 → s2 66 9 = st 66 9 → (∀ s, s < j → s2 73 s = 0) → FrSe st s2 → AW (P 245) Q (MS d) 0 (fun _ => 0) 1 [vr 66, vi j] [] s2 := by
    intro mm
    induction mm with
    | zero =>
      intro j s2 g1 g2 g3 g4 g6
      have : j = 8 := by omega
      subst this
      rw [awu 245 1]
      try simp only [awu 245 3, pe245, xs, i_load, i_loadR, i_inc, lg, lp, true_and, and_true, List.length_cons, List.length_nil, Nat.reduceAdd, Nat.reduceLeDiff, Nat.zero_le, Int.toNat_natCast, natLit, k0]
      exact ⟨fun _ => key2 32 0 s2 (by omega) g2 g3 g4 (fun i hi => by omega) g6, fun h => absurd (by decide) h⟩
    | succ mm ih =>
      intro j s2 g1 g2 g3 g4 g6
      have wj : Unit → wr ((j : Int) + 1) = ((j + 1 : Nat) : Int) := fun _ => by rw [wr_id (by omega) (by omega)]; omega
      rw [awu 245 1]
      try simp only [awu 245 2, pe245, xs, i_load, i_loadR, i_inc, lg, lp, true_and, and_true, List.length_cons, List.length_nil, Nat.reduceAdd, Nat.reduceLeDiff, Nat.zero_le, Int.toNat_natCast, natLit, k0, k73, l73, wj ()]
      refine ⟨fun h => by omega, fun _ => ⟨by omega, ih (j + 1) _ (by omega) (by rw [up2_ne (by decide)]; exact g2) (by rw [up2_ne (by decide)]; exact g3) (fun s hs => ?_) (fun q hq => by rw [up2_ne (by omega)]; exact g6 q hq)⟩⟩
      rw [up2_self]
      by_cases z : s = j
      · rw [z, upf_s]
      · rw [upf_n z]
        exact g4 s (by omega)
  refine MS_v [vr 66, none] rfl rfl rfl rfl ?_
  try simp only [awu 245 0, pe245, xs, i_load, i_loadR, i_inc, lg, lp, true_and, and_true, List.length_cons, List.length_nil, Nat.reduceAdd, Nat.reduceLeDiff, Nat.zero_le, Int.toNat_natCast, natLit, k0]
  exact key1 8 0 _ (by omega) (by rw [up2_self, upf_s]) (by rw [up2_self, upf_n (by decide)]) (fun s hs => by omega) (fun q hq => by rw [up2_ne (by omega)])
set_option maxHeartbeats 1000000 in
theorem sp_findWith {d n mo tr0 : Nat} {st : St} {t : TD} {f : Nat → Nat} {Q : Rn} (hT : TDc st t n f) (hmo1 : 1 ≤ mo) (hmo : mo ≤ 8) (htr : st 66 9 = (tr0 : Nat)) (htr2 : tr0 ≤ 50000)
    (hq : ∀ st' : St, FrSe st st' → st' 66 9 = ((srn t n mo 100200 0 0 tr0 (fun _ => 0)).2.1 : Nat) → (srn t n mo 100200 0 0 tr0 (fun _ => 0)).2.1 ≤ 50000 → ((srn t n mo 100200 0 0 tr0 (fun _ => 0)).1 = 0 → CS0 st' t (srn t n mo 100200 0 0 tr0 (fun _ => 0)).2.2 mo n (srn t n mo 100200 0 0 tr0 (fun _ => 0)).2.1 ∧ SV t (srn t n mo 100200 0 0 tr0 (fun _ => 0)).2.2 mo n) → Q (vi (if (srn t n mo 100200 0 0 tr0 (fun _ => 0)).1 = 0 then ((sst t (srn t n mo 100200 0 0 tr0 (fun _ => 0)).2.2 n).2.2 : Int) else if (srn t n mo 100200 0 0 tr0 (fun _ => 0)).1 = 1 then -2 else -3)) st') : MS (d + 4) 244 [vr 66, vr 8, vi mo] st Q := by
  have k0 : kl 66 = 8 := rfl
  have k8 : kl 8 = 9 := rfl
  have k68 : kl 68 = 50 := rfl
  have l68 : len 68 = 120 := rfl
  have k69 : kl 69 = 50 := rfl
  have l69 : len 69 = 120 := rfl
  have hT' := hT
  obtain ⟨⟨a1, a2, a3⟩, tb, tc, te0, te1, te2, te3⟩ := hT'
  generalize hR : srn t n mo 100200 0 0 tr0 (fun _ => 0) = R at *
  have fr : ∀ s2 : St, FrSe st s2 → TDc s2 t n f := fun s2 h => TDc_congr hT (fun q _ _ => h q (by omega))
  have key : ∀ fu : Nat, ∀ (k c tr tu : Nat) (pt : Nat → Nat) (s2 : St), 2 * (50000 - tr) + k < fu → srn t n mo fu k c tr pt = R → k ≤ n → tr ≤ 50000 → tr0 ≤ tr → tu + k + 2 * tr0 ≤ 2 * tr → SV t pt mo k → CS1 s2 t pt mo n k c tr → FrSe st s2 → AW (P 244) Q (MS (d + 3)) 0 (fun _ => 0) 1 [vr 66, vr 8, vi mo, vi n, vi k, vi tu] [] s2 := by
    intro fu
    induction fu with
    | zero => intro k c tr tu pt s2 h; omega
    | succ fu ih =>
      intro k c tr tu pt s2 g1 g2 g3 g4 g4' g5 g6 g7 g8
      rw [srn_s] at g2
      have wtu : Unit → wr ((tu : Int) + 1) = ((tu + 1 : Nat) : Int) := fun _ => by rw [wr_id (by omega) (by omega)]; omega
      by_cases hkn : n ≤ k
      · have hk : k = n := by omega
        subst hk
        rw [if_pos hkn] at g2
        rw [← g2] at hq
        have e668 := g7.1.2.2.2.1
        have := hq s2 g8 g7.1.2.2.2.2 g4 (fun _ => ⟨g7.1, g6⟩)
        rw [if_pos rfl] at this
        rw [awu 244 1]
        try simp only [awu 244 2, awu 244 12, awu 244 13, awu 244 15, pe244, xs, i_load, i_loadR, i_inc, lg, lp, true_and, and_true, List.length_cons, List.length_nil, Nat.reduceAdd, Nat.reduceLeDiff, Nat.zero_le, Int.toNat_natCast, natLit, k0, e668]
        exact ⟨fun h => by omega, fun _ => ⟨fun _ => ⟨fun h => by omega, fun _ => this⟩, fun h => absurd (Int.le_refl _) h⟩⟩
      · have hk : k < n := by omega
        rw [if_neg hkn] at g2
        obtain ⟨e68, e69⟩ := g7.2 hk
        have e669 := g7.1.2.2.2.2
        have hlb := lst_b g6 hmo1
        by_cases hl : lst t pt mo k < (c : Int)
        · rw [if_pos hl] at g2
          rcases Nat.eq_zero_or_pos k with zk | zk
          · subst zk
            rw [if_pos rfl] at g2
            rw [← g2] at hq
            have := hq s2 g8 e669 g4 (fun h => absurd h (show ¬ (1 : Nat) = 0 by decide))
            dsimp only at this
            rw [if_neg (by decide), if_pos rfl] at this
            have wk : Unit → wr (((0 : Nat) : Int) + -1) = -1 := fun _ => by rw [wr_id (by omega) (by omega)]; rfl
            rw [awu 244 1]
            try simp only [awu 244 2, awu 244 3, awu 244 4, awu 244 5, pe244, xs, i_load, i_loadR, i_inc, lg, lp, true_and, and_true, List.length_cons, List.length_nil, Nat.reduceAdd, Nat.reduceLeDiff, Nat.zero_le, Int.toNat_natCast, natLit, k0, k68, l68, Int.toNat_zero, e68, k69, l69, e69, wk ()]
            exact ⟨fun h => by omega, fun _ => ⟨fun h => by omega, fun _ => ⟨by omega, by omega, fun h => by omega, fun _ => ⟨fun h => absurd h (by decide), fun _ => this⟩⟩⟩⟩
          · rw [if_neg (by omega)] at g2
            obtain ⟨k', rfl⟩ : ∃ k', k = k' + 1 := ⟨k - 1, by omega⟩
            rw [Nat.add_sub_cancel] at g2
            have wk : Unit → wr (((k' + 1 : Nat) : Int) + -1) = (k' : Int) := fun _ => by rw [wr_id (by omega) (by omega)]; omega
            rw [awu 244 1]
            try simp only [awu 244 2, awu 244 3, awu 244 4, awu 244 6, pe244, xs, i_load, i_loadR, i_inc, lg, lp, true_and, and_true, List.length_cons, List.length_nil, Nat.reduceAdd, Nat.reduceLeDiff, Nat.zero_le, Int.toNat_natCast, natLit, k0, k68, l68, e68, k69, l69, e69, wk ()]
            refine ⟨fun h => by omega, fun _ => ⟨fun h => by omega, fun _ => ⟨by omega, by omega, fun h => by omega, fun _ => ⟨fun _ => ?_, fun h => absurd (by omega) h⟩⟩⟩⟩
            refine sp_takeAway (fr s2 g8) hmo g6 g7.1 (by omega) (fun s3 y1 y2 => ?_)
            dsimp only
            try simp only [awu 244 6, awu 244 11, pe244, xs, i_load, i_loadR, i_inc, lg, lp, true_and, and_true, List.length_cons, List.length_nil, Nat.reduceAdd, Nat.reduceLeDiff, Nat.zero_le, Int.toNat_natCast, natLit, k0, wtu ()]
            exact ih k' (pt k' + 1) tr (tu + 1) pt s3 (by omega) g2 (by omega) g4 g4' (by omega) (SV_p g6 te3) y1 (FrSe_t g8 y2)
        · rw [if_neg hl] at g2
          by_cases ht : 50000 ≤ tr
          · rw [if_pos ht] at g2
            rw [← g2] at hq
            have := hq s2 g8 e669 g4 (fun h => absurd h (show ¬ (2 : Nat) = 0 by decide))
            dsimp only at this
            rw [if_neg (by decide), if_neg (by decide)] at this
            rw [awu 244 1]
            try simp only [awu 244 2, awu 244 3, awu 244 7, awu 244 8, pe244, xs, i_load, i_loadR, i_inc, lg, lp, true_and, and_true, List.length_cons, List.length_nil, Nat.reduceAdd, Nat.reduceLeDiff, Nat.zero_le, Int.toNat_natCast, natLit, k0, k68, l68, e68, k69, l69, e69, e669]
            exact ⟨fun h => by omega, fun _ => ⟨fun h => by omega, fun _ => ⟨by omega, by omega, fun _ => ⟨fun h => by omega, fun _ => this⟩, fun h => absurd (by omega) h⟩⟩⟩
          · rw [if_neg ht] at g2
            rw [awu 244 1]
            try simp only [awu 244 2, awu 244 3, awu 244 7, awu 244 9, pe244, xs, i_load, i_loadR, i_inc, lg, lp, true_and, and_true, List.length_cons, List.length_nil, Nat.reduceAdd, Nat.reduceLeDiff, Nat.zero_le, Int.toNat_natCast, natLit, k0, k68, l68, e68, k69, l69, e69, e669]
            refine ⟨fun h => by omega, fun _ => ⟨fun h => by omega, fun _ => ⟨by omega, by omega, fun _ => ⟨fun _ => ?_, fun h => absurd (by omega) h⟩, fun h => absurd (by omega) h⟩⟩⟩
            refine sp_tryNext (fr s2 g8) hmo g6 g7 hk (by omega) (by omega) (fun s3 y1 y2 y3 => ?_) (fun s3 y1 y2 y3 => ?_)
            · rw [if_pos y1] at g2
              dsimp only
              try simp only [awu 244 9, awu 244 11, pe244, xs, i_load, i_loadR, i_inc, lg, lp, true_and, and_true, List.length_cons, List.length_nil, Nat.reduceAdd, Nat.reduceLeDiff, Nat.zero_le, Int.toNat_natCast, natLit, k0, wtu ()]
              exact ⟨fun _ => ih k (c + 1) (tr + 1) (tu + 1) pt s3 (by omega) g2 (by omega) (by omega) (by omega) (by omega) g6 y2 (FrSe_t g8 y3), fun h => absurd (by trivial) h⟩
            · rw [if_neg (by rw [y1]; decide)] at g2
              have wk : Unit → wr ((k : Int) + 1) = ((k + 1 : Nat) : Int) := fun _ => by rw [wr_id (by omega) (by omega)]; omega
              have cong : sst t (updN pt k c) k = sst t pt k := sst_congr te2 k (by omega) (fun j hj => by rw [updN_at, if_neg (by omega)])
              have ptk : updN pt k c k = c := by rw [updN_at, if_pos rfl]
              have SVk : SV t (updN pt k c) mo k := by
                refine ⟨fun i hi => ?_, by rw [cong]; exact g6.2.1, fun j => by rw [cong]; exact g6.2.2.1 j, fun s => by rw [cong]; exact g6.2.2.2 s⟩
                have ci : sst t (updN pt k c) i = sst t pt i := sst_congr te2 i (by omega) (fun j hj => by rw [updN_at, if_neg (by omega)])
                rw [ci, updN_at, if_neg (by omega)]
                exact g6.1 i hi
              have SV1 : SV t (updN pt k c) mo (k + 1) := SV_s (te3 k) SVk (by rw [ptk, cong]; omega) (by rw [ptk]; omega) (by rw [ptk, cong]; exact y1)
              dsimp only
              try simp only [awu 244 9, awu 244 10, pe244, xs, i_load, i_loadR, i_inc, lg, lp, true_and, and_true, List.length_cons, List.length_nil, Nat.reduceAdd, Nat.reduceLeDiff, Nat.zero_le, Int.toNat_natCast, natLit, k0, wk ()]
              refine ⟨fun h => absurd h (by decide), fun _ => ?_⟩
              refine sp_enter (fr s3 (FrSe_t g8 y3)) hmo1 hmo SV1 y2 (by omega) (fun s4 z1 z2 => ?_)
              dsimp only
              try simp only [awu 244 10, awu 244 11, pe244, xs, i_load, i_loadR, i_inc, lg, lp, true_and, and_true, List.length_cons, List.length_nil, Nat.reduceAdd, Nat.reduceLeDiff, Nat.zero_le, Int.toNat_natCast, natLit, k0, wtu ()]
              exact ih (k + 1) _ (tr + 1) (tu + 1) (updN pt k c) s4 (by omega) g2 (by omega) (by omega) (by omega) (by omega) SV1 z1 (FrSe_t g8 (FrSe_t y3 z2))
  have hmin : (if (n : Int) ≤ 120 then (n : Int) else 120) = n := by rw [if_pos (by omega)]
  refine MS_v [vr 66, vr 8, vi mo, none, none, none] rfl rfl rfl rfl ?_
  try simp only [awu 244 0, pe244, xs, i_load, i_loadR, i_inc, lg, lp, true_and, and_true, List.length_cons, List.length_nil, Nat.reduceAdd, Nat.reduceLeDiff, Nat.zero_le, Int.toNat_natCast, natLit, k0, k8, a1, hmin]
  refine sp_forgetS (fun s1 y1 y2 y3 y4 y5 => ?_)
  dsimp only
  try simp only [awu 244 0, pe244, xs, i_load, i_loadR, i_inc, lg, lp, true_and, and_true, List.length_cons, List.length_nil, Nat.reduceAdd, Nat.reduceLeDiff, Nat.zero_le, Int.toNat_natCast, natLit, k0]
  refine sp_enter (pt := fun _ => 0) (k := 0) (tr := tr0) (fr s1 y5) hmo1 hmo SV_0 ⟨fun i hi => by omega, fun s hs => y3 s hs, fun j hj => y4 j hj, y1, by rw [y2]; exact htr⟩ (Nat.zero_le _) (fun s2 z1 z2 => ?_)
  dsimp only
  try simp only [awu 244 0, pe244, xs, i_load, i_loadR, i_inc, lg, lp, true_and, and_true, List.length_cons, List.length_nil, Nat.reduceAdd, Nat.reduceLeDiff, Nat.zero_le, Int.toNat_natCast, natLit, k0]
  exact key 100200 0 0 tr0 0 (fun _ => 0) s2 (by omega) hR (by omega) htr2 (Nat.le_refl _) (by omega) SV_0 z1 (FrSe_t y5 z2)
theorem sst_pos {t : TD} {pt : Nat → Nat} {mo : Nat} : ∀ {n : Nat}, 0 < n → SV t pt mo n → (∀ i, t.2.2 i ≤ 2) → 0 < (sst t pt n).2.2
  | 0, h, _, _ => by omega
  | n + 1, _, h, hm => by
    rw [sst_u]
    split
    · omega
    · rcases Nat.eq_zero_or_pos n with z | z
      · subst z
        rename_i hne
        have := (h.1 0 (by omega)).1
        have e : (sst t pt 0).2.2 = 0 := rfl
        omega
      · exact sst_pos z (SV_p h hm) hm
set_option maxHeartbeats 1000000 in
theorem sp_find {d n : Nat} {st : St} {t : TD} {f : Nat → Nat} {Q : Rn} (hT : TDc st t n f)
    (hq : ∀ st' : St, FrSe st st' → st' 66 9 = ((lsr t n 8 1 0).2.1 : Nat) → ((lsr t n 8 1 0).1 = 0 → CS0 st' t (lsr t n 8 1 0).2.2.1 (lsr t n 8 1 0).2.2.2 n (lsr t n 8 1 0).2.1 ∧ SV t (lsr t n 8 1 0).2.2.1 (lsr t n 8 1 0).2.2.2 n ∧ (lsr t n 8 1 0).2.2.2 ≤ 8) → Q (vi (if (lsr t n 8 1 0).1 = 0 then ((sst t (lsr t n 8 1 0).2.2.1 n).2.2 : Int) else if (lsr t n 8 1 0).1 = 1 then -2 else -3)) st') : MS (d + 5) 243 [vr 66, vr 8] st Q := by
  have k0 : kl 66 = 8 := rfl
  have te3 := hT.2.2.2.2.2.2
  have tn0 := hT.1.2.2
  generalize hR : lsr t n 8 1 0 = R at *
  have key : ∀ r : Nat, ∀ (mo tr : Nat) (s2 : St) (u3 : V), mo + r = 9 → 1 ≤ mo → lsr t n r mo tr = R → tr ≤ 50000 → s2 66 9 = (tr : Nat) → FrSe st s2 → AW (P 243) Q (MS (d + 4)) 0 (fun _ => 0) 1 [vr 66, vr 8, vi mo, u3] [] s2 := by
    intro r
    induction r with
    | zero =>
      intro mo tr s2 u3 g1 g2 g3 g4 g5 g6
      have : mo = 9 := by omega
      subst this
      rw [← g3] at hq
      have := hq s2 g6 g5 (fun h => absurd h (show ¬ (1 : Nat) = 0 by decide))
      rw [show (lsr t n 0 9 tr).1 = 1 from rfl, if_neg (by decide), if_pos rfl] at this
      rw [awu 243 1]
      try simp only [awu 243 5, pe243, xs, i_load, i_loadR, i_inc, lg, lp, true_and, and_true, List.length_cons, List.length_nil, Nat.reduceAdd, Nat.reduceLeDiff, Nat.zero_le, Int.toNat_natCast, natLit, k0]
      exact ⟨fun _ => this, fun h => absurd (by decide) h⟩
    | succ r ih =>
      intro mo tr s2 u3 g1 g2 g3 g4 g5 g6
      rw [lsr_s] at g3
      have wm : Unit → wr ((mo : Int) + 1) = ((mo + 1 : Nat) : Int) := fun _ => by rw [wr_id (by omega) (by omega)]; omega
      rw [awu 243 1]
      try simp only [awu 243 2, pe243, xs, i_load, i_loadR, i_inc, lg, lp, true_and, and_true, List.length_cons, List.length_nil, Nat.reduceAdd, Nat.reduceLeDiff, Nat.zero_le, Int.toNat_natCast, natLit, k0]
      refine ⟨fun h => by omega, fun _ => ?_⟩
      refine sp_findWith (TDc_congr hT (fun q _ _ => g6 q (by omega))) g2 (by omega) g5 g4 (fun s3 y1 y2 y3 y4 => ?_)
      dsimp only
      generalize hS : srn t n mo 100200 0 0 tr (fun _ => 0) = S at *
      by_cases z1 : S.1 = 1
      · rw [if_pos z1] at g3
        rw [z1, if_neg (by decide), if_pos rfl]
        try simp only [awu 243 2, awu 243 4, pe243, xs, i_load, i_loadR, i_inc, lg, lp, true_and, and_true, List.length_cons, List.length_nil, Nat.reduceAdd, Nat.reduceLeDiff, Nat.zero_le, Int.toNat_natCast, natLit, k0, wm ()]
        exact ⟨fun _ => ih (mo + 1) _ s3 _ (by omega) (by omega) g3 y3 y2 (FrSe_t g6 y1), fun h => absurd (by trivial) h⟩
      · rw [if_neg z1] at g3
        rw [← g3] at hq
        have := hq s3 (FrSe_t g6 y1) y2 (fun h => ⟨(y4 h).1, (y4 h).2, by show mo ≤ 8; omega⟩)
        dsimp only at this
        rw [if_neg z1] at this ⊢
        by_cases z0 : S.1 = 0
        · rw [if_pos z0] at this ⊢
          have hp := sst_pos tn0 (y4 z0).2 te3
          try simp only [awu 243 2, awu 243 3, pe243, xs, i_load, i_loadR, i_inc, lg, lp, true_and, and_true, List.length_cons, List.length_nil, Nat.reduceAdd, Nat.reduceLeDiff, Nat.zero_le, Int.toNat_natCast, natLit, k0]
          exact ⟨fun h => by omega, fun _ => this⟩
        · rw [if_neg z0] at this ⊢
          try simp only [awu 243 2, awu 243 3, pe243, xs, i_load, i_loadR, i_inc, lg, lp, true_and, and_true, List.length_cons, List.length_nil, Nat.reduceAdd, Nat.reduceLeDiff, Nat.zero_le, Int.toNat_natCast, natLit, k0]
          exact ⟨fun h => absurd h (by decide), fun _ => this⟩
  refine MS_v [vr 66, vr 8, none, none] rfl rfl rfl rfl ?_
  try simp only [awu 243 0, pe243, xs, i_load, i_loadR, i_inc, lg, lp, true_and, and_true, List.length_cons, List.length_nil, Nat.reduceAdd, Nat.reduceLeDiff, Nat.zero_le, Int.toNat_natCast, natLit, k0]
  exact key 8 1 0 _ _ (by omega) (by omega) hR (by omega) (by rw [up2_self, upf_s]; rfl) (fun q hq => by rw [up2_ne (by omega)])
theorem sp_stell {d n mo tr : Nat} {st : St} {t : TD} {pt : Nat → Nat} {Q : Rn} (hC : CS0 st t pt mo n tr) (hS : SV t pt mo n) (hmo : mo ≤ 8)
    (hq : ∀ st' : St, MCc st' 57 8 (lsM t pt n) → (∀ q, q ≠ 57 → q ≠ 58 → q ≠ 59 → st' q = st q) → Q none st') : MS (d + 3) 250 [vr 66, vr 57] st Q := by
  have k0 : kl 66 = 8 := rfl
  have k73 : kl 73 = 50 := rfl
  have l73 : len 73 = 8 := rfl
  have k74 : kl 74 = 50 := rfl
  have l74 : len 74 = 32 := rfl
  obtain ⟨c1, c2, c3, c4, c5⟩ := hC
  have hu := hS.2.1
  have key : ∀ mm s : Nat, ∀ (s2 : St) (u3 : V), s + mm = (sst t pt n).2.2 → (∀ q, q ≠ 57 → q ≠ 58 → q ≠ 59 → s2 q = st q) → s2 57 2 = (s : Nat) → (∀ x, x < s → s2 58 x = ((sst t pt n).1 x : Nat)) → (∀ i, i < 4 * s → s2 59 i = (sst t pt n).2.1 i) → AW (P 250) Q (MS (d + 2)) 0 (fun _ => 0) 1 [vr 66, vr 57, vi s, u3] [] s2 := by
    intro mm
    induction mm with
    | zero =>
      intro s s2 u3 g1 g2 g3 g4 g5
      have : s = (sst t pt n).2.2 := by omega
      subst this
      have e8 : s2 66 8 = ((sst t pt n).2.2 : Nat) := by rw [g2 66 (by decide) (by decide) (by decide)]; exact c4
      rw [awu 250 1]
      try simp only [awu 250 7, pe250, xs, i_load, i_loadR, i_inc, lg, lp, true_and, and_true, List.length_cons, List.length_nil, Nat.reduceAdd, Nat.reduceLeDiff, Nat.zero_le, Int.toNat_natCast, natLit, k0, e8]
      exact ⟨fun _ => hq s2 ⟨g3, by show (sst t pt n).2.2 ≤ 8; omega, g4, g5⟩ g2, fun h => absurd (Int.le_refl _) h⟩
    | succ mm ih =>
      intro s s2 u3 g1 g2 g3 g4 g5
      have e8 : s2 66 8 = ((sst t pt n).2.2 : Nat) := by rw [g2 66 (by decide) (by decide) (by decide)]; exact c4
      have e73 : s2 73 s = ((sst t pt n).1 s : Nat) := by rw [g2 73 (by decide) (by decide) (by decide)]; exact c2 s (by omega)
      have ws : Unit → wr ((s : Int) + 1) = ((s + 1 : Nat) : Int) := fun _ => by rw [wr_id (by omega) (by omega)]; omega
      have w4s : Unit → wr ((s : Int) * 4) = ((4 * s : Nat) : Int) := fun _ => by rw [wr_id (by omega) (by omega)]; omega
      have keyl : ∀ mm l : Nat, ∀ s3 : St, l + mm = 4 → (∀ q, q ≠ 57 → q ≠ 58 → q ≠ 59 → s3 q = st q) → s3 57 2 = (s + 1 : Nat) → (∀ x, x < s + 1 → s3 58 x = ((sst t pt n).1 x : Nat)) → (∀ i, i < 4 * s + l → s3 59 i = (sst t pt n).2.1 i) → AW (P 250) Q (MS (d + 2)) 0 (fun _ => 0) 4 [vr 66, vr 57, vi s, vi l] [] s3 := by
        intro mm
        induction mm with
        | zero =>
          intro l s3 x1 x2 x3 x4 x5
          have : l = 4 := by omega
          subst this
          rw [awu 250 4]
          try simp only [awu 250 6, pe250, xs, i_load, i_loadR, i_inc, lg, lp, true_and, and_true, List.length_cons, List.length_nil, Nat.reduceAdd, Nat.reduceLeDiff, Nat.zero_le, Int.toNat_natCast, natLit, k0, ws ()]
          exact ⟨fun _ => ih (s + 1) s3 _ (by omega) x2 x3 x4 (fun i hi => x5 i (by omega)), fun h => absurd (by decide) h⟩
        | succ mm ihl =>
          intro l s3 x1 x2 x3 x4 x5
          have wl' : Unit → wr ((l : Int) + 1) = ((l + 1 : Nat) : Int) := fun _ => by rw [wr_id (by omega) (by omega)]; omega
          have w4l : Unit → wr (((4 * s : Nat) : Int) + (l : Int)) = ((4 * s + l : Nat) : Int) := fun _ => by rw [wr_id (by omega) (by omega)]; omega
          have e74 : s3 74 (4 * s + l) = (sst t pt n).2.1 (4 * s + l) := by rw [x2 74 (by decide) (by decide) (by decide)]; exact c3 _ (by omega)
          rw [awu 250 4]
          try simp only [awu 250 5, pe250, xs, i_load, i_loadR, i_inc, lg, lp, true_and, and_true, List.length_cons, List.length_nil, Nat.reduceAdd, Nat.reduceLeDiff, Nat.zero_le, Int.toNat_natCast, natLit, k0, w4s (), w4l (), k74, l74, e74]
          refine ⟨fun h => by omega, fun _ => ⟨by omega, ?_⟩⟩
          refine sp_mclink isMc_57 x3 (by omega) (show s < s + 1 by omega) (show l < 4 by omega) ?_
          dsimp only
          try simp only [awu 250 5, pe250, xs, i_load, i_loadR, i_inc, lg, lp, true_and, and_true, List.length_cons, List.length_nil, Nat.reduceAdd, Nat.reduceLeDiff, Nat.zero_le, Int.toNat_natCast, natLit, k0, wl' ()]
          refine ihl (l + 1) _ (by omega) (fun q q1 q2 q3 => by rw [up2_ne q3]; exact x2 q q1 q2 q3) (by rw [up2_ne (by decide)]; exact x3) (fun x hx => by rw [up2_ne (by decide)]; exact x4 x hx) (fun i hi => ?_)
          rw [up2_self]
          by_cases z : i = 4 * s + l
          · rw [z, upf_s]
          · rw [upf_n z]
            exact x5 i (by omega)
      rw [awu 250 1]
      try simp only [awu 250 2, awu 250 3, pe250, xs, i_load, i_loadR, i_inc, lg, lp, true_and, and_true, List.length_cons, List.length_nil, Nat.reduceAdd, Nat.reduceLeDiff, Nat.zero_le, Int.toNat_natCast, natLit, k0, e8, k73, l73, e73]
      refine ⟨fun h => by omega, fun _ => ⟨fun h => by omega, fun _ => ⟨by omega, ?_⟩⟩⟩
      refine sp_mcadd isMc_57 g3 (by omega) (fun s3 w1 w2 w3 w4 => ?_)
      dsimp only
      try simp only [awu 250 3, pe250, xs, i_load, i_loadR, i_inc, lg, lp, true_and, and_true, List.length_cons, List.length_nil, Nat.reduceAdd, Nat.reduceLeDiff, Nat.zero_le, Int.toNat_natCast, natLit, k0]
      refine keyl 4 0 s3 (by omega) (fun q q1 q2 q3 => ?_) w1 (fun x hx => ?_) (fun i hi => ?_)
      · funext i
        rw [w4 q i (by omega) (by omega) (by omega), g2 q q1 q2 q3]
      · by_cases z : x = s
        · rw [z]
          exact w2
        · rw [w4 58 x (by omega) (by omega) (by omega)]
          exact g4 x (by omega)
      · rw [w4 59 i (by omega) (by omega) (by omega)]
        exact g5 i (by omega)
  refine MS_v [vr 66, vr 57, none, none] rfl rfl rfl rfl ?_
  try simp only [awu 250 0, pe250, xs, i_load, i_loadR, i_inc, lg, lp, true_and, and_true, List.length_cons, List.length_nil, Nat.reduceAdd, Nat.reduceLeDiff, Nat.zero_le, Int.toNat_natCast, natLit, k0]
  refine sp_mcclear isMc_57 ?_
  dsimp only
  try simp only [awu 250 0, pe250, xs, i_load, i_loadR, i_inc, lg, lp, true_and, and_true, List.length_cons, List.length_nil, Nat.reduceAdd, Nat.reduceLeDiff, Nat.zero_le, Int.toNat_natCast, natLit, k0]
  exact key (sst t pt n).2.2 0 _ none (Nat.zero_add _) (fun q q1 _ _ => up2_ne q1) (by rw [up2_self, upf_s]; rfl) (fun x hx => by omega) (fun i hi => by omega)
