/-! the search: tries of the class -/
def DFk (k : Nat) (st s : St) : Prop := (∀ q, q < 66 ∨ 74 < q → s q = st q) ∧ (∀ q i, 67 ≤ q → q ≤ 72 → i ≠ k → s q i = st q i) ∧ s 69 = st 69
theorem DFk_u {k q i : Nat} {v : Int} {st s : St} (h : DFk k st s) (hq : 66 ≤ q) (hq2 : q ≤ 74) (h1 : q ≠ 69) (h2 : (67 ≤ q ∧ q ≤ 72) → i = k) : DFk k st (up2 s q i v) := by
  refine ⟨fun q' hq' => ?_, fun q' i' a b c => ?_, ?_⟩
  · rw [up2_ne (by omega)]
    exact h.1 q' hq'
  · rw [up2_at]
    by_cases z : q' = q
    · subst z
      rw [if_pos rfl, if_neg (by have := h2 ⟨a, b⟩; omega)]
      exact h.2.1 q' i' a b c
    · rw [if_neg z]
      exact h.2.1 q' i' a b c
  · rw [up2_ne (fun e => h1 e.symm)]
    exact h.2.2
set_option maxHeartbeats 1000000 in
theorem sp_tryNext {d n k c mo tr : Nat} {st : St} {t : TD} {f pt : Nat → Nat} {Q : Rn} (hT : TDc st t n f) (hmo : mo ≤ 8) (hS : SV t pt mo k) (hC : CS1 st t pt mo n k c tr) (hk : k < n) (hc : c < 8) (htr : tr < 50000)
    (h0 : ∀ st' : St, cfl ((sst t pt k).1 c) (t.2.2 k) = true → CS1 st' t pt mo n k (c + 1) (tr + 1) → FrSe st st' → Q (vi 0) st')
    (h1 : ∀ st' : St, cfl ((sst t pt k).1 c) (t.2.2 k) = false → CS0 st' t (updN pt k c) mo (k + 1) (tr + 1) → FrSe st st' → Q (vi 1) st') : MS (d + 3) 248 [vr 66, vr 8, vi k] st Q := by
  have k0 : kl 66 = 8 := rfl
  have k8 : kl 8 = 9 := rfl
  have k10 : kl 10 = 50 := rfl
  have l10 : len 10 = 120 := rfl
  have k67 : kl 67 = 50 := rfl
  have l67 : len 67 = 120 := rfl
  have k68 : kl 68 = 50 := rfl
  have l68 : len 68 = 120 := rfl
  have k70 : kl 70 = 52 := rfl
  have l70 : len 70 = 120 := rfl
  have k71 : kl 71 = 52 := rfl
  have l71 : len 71 = 120 := rfl
  have k72 : kl 72 = 52 := rfl
  have l72 : len 72 = 120 := rfl
  have k73 : kl 73 = 50 := rfl
  have l73 : len 73 = 8 := rfl
  have k74 : kl 74 = 50 := rfl
  have l74 : len 74 = 32 := rfl
  have hT' := hT
  obtain ⟨⟨a1, a2, a3⟩, tb, tc, te0, te1, te2, te3⟩ := hT'
  obtain ⟨⟨c1, c2, c3, c4, c5⟩, cN⟩ := id hC
  obtain ⟨cN1, cN2⟩ := cN hk
  have hu := hS.2.1
  have p8 : ∀ i, i < k → pt i < 8 := fun i hi => by have := hS.1 i hi; omega
  have cong : ∀ i, i ≤ k → sst t (updN pt k c) i = sst t pt i := fun i hi => sst_congr te2 i (by omega) (fun j hj => by rw [updN_at, if_neg (by omega)])
  have ptk : updN pt k c k = c := by rw [updN_at, if_pos rfl]
  have pti : ∀ i, i < k → updN pt k c i = pt i := fun i hi => by rw [updN_at, if_neg (by omega)]
  have wyk : ∀ i, 0 < i → i ≤ k → wy t (updN pt k c) i = wy t pt i := fun i hi0 hi => by unfold wy; rw [pti _ (by have := te2 i hi0 (by omega); omega)]
  have fcc : ∀ i, i ≤ k → fcd t (updN pt k c) i = fcd t pt i := fun i hi => by
    unfold fcd
    rcases Nat.eq_zero_or_pos i with z | z
    · rw [if_pos z, if_pos z]
    · rw [if_neg (by omega), if_neg (by omega), cong i hi, wyk i z hi]
  have lsc : ∀ i, i ≤ k → lst t (updN pt k c) mo i = lst t pt mo i := fun i hi => by unfold lst; rw [fcc i hi, cong i hi]
  have w1 : Unit → wr ((tr : Int) + 1) = ((tr + 1 : Nat) : Int) := fun _ => by rw [wr_id (by omega) (by omega)]; omega
  have w2 : Unit → wr ((c : Int) + 1) = ((c + 1 : Nat) : Int) := fun _ => by rw [wr_id (by omega) (by omega)]; omega
  have e68 : up2 st 66 9 ((tr + 1 : Nat) : Int) 68 k = (c : Nat) := by rw [up2_ne (by decide)]; exact cN1
  have hmc := hS.2.2.2 c
  have htk := te3 k
  -- the state after the first block
  generalize hs2 : up2 (up2 st 66 9 ((tr + 1 : Nat) : Int)) 68 k ((c + 1 : Nat) : Int) = s2
  have D2 : DFk k st s2 := by
    rw [← hs2]
    exact DFk_u (DFk_u ⟨fun _ _ => rfl, fun _ _ _ _ _ => rfl, rfl⟩ (by decide) (by decide) (by decide) (fun h => by omega)) (by decide) (by decide) (by decide) (fun _ => rfl)
  have v68 : s2 68 k = (c + 1 : Nat) := by rw [← hs2, up2_self, upf_s]
  have v73 : s2 73 = st 73 := by rw [← hs2, up2_ne (by decide), up2_ne (by decide)]
  have v74 : s2 74 = st 74 := by rw [← hs2, up2_ne (by decide), up2_ne (by decide)]
  have v668 : s2 66 8 = ((sst t pt k).2.2 : Nat) := by rw [← hs2, up2_ne (by decide), up2_self, upf_n (by decide)]; exact c4
  have v669 : s2 66 9 = (tr + 1 : Nat) := by rw [← hs2, up2_ne (by decide), up2_self, upf_s]
  have em : s2 73 c = ((sst t pt k).1 c : Nat) := by rw [v73]; exact c2 c hc
  have et : s2 10 k = (t.2.2 k : Nat) := by rw [D2.1 10 (by decide)]; exact tc k hk
  have hb3 := bor3 ((sst t pt k).1 c) (by omega) (t.2.2 k) (by omega)
  refine MS_v [vr 66, vr 8, vi k, none, none] rfl rfl rfl rfl ?_
  try simp only [awu 248 0, pe248, xs, i_load, i_loadR, i_inc, lg, lp, true_and, and_true, List.length_cons, List.length_nil, Nat.reduceAdd, Nat.reduceLeDiff, Nat.zero_le, Int.toNat_natCast, natLit, k0, c5, w1 (), k68, l68, e68, w2 ()]
  refine ⟨by omega, by omega, by omega, ?_⟩
  rw [hs2]
  refine ⟨fun h => by omega, fun _ => ?_⟩
  try simp only [awu 248 1, awu 248 2, pe248, xs, i_load, i_loadR, i_inc, lg, lp, true_and, and_true, List.length_cons, List.length_nil, Nat.reduceAdd, Nat.reduceLeDiff, Nat.zero_le, Int.toNat_natCast, natLit, k0, k8, k73, l73, em, k10, l10, et]
  refine ⟨fun h => by omega, fun _ => ⟨by omega, by omega, fun hne => ?_, fun hne => ?_⟩⟩
  · -- it is put
    have hcf : cfl ((sst t pt k).1 c) (t.2.2 k) = false := by
      cases e : cfl ((sst t pt k).1 c) (t.2.2 k) with
      | false => rfl
      | true => exact absurd (hb3.mpr (cfl_d.mp e)) hne
    -- the end: the arrow
    have endA : ∀ (s7 : St), DFk k st s7 → s7 67 k = (c : Nat) → s7 68 k = (c + 1 : Nat) → s7 70 k = (if (sst t pt k).1 c = 0 ∧ t.2.2 k ≠ 0 then 1 else 0) → s7 72 k = (if c = (sst t pt k).2.2 then 1 else 0) → (∀ s, s < 8 → s7 73 s = ((if (sst t pt k).1 c = 0 then updN (sst t pt k).1 c (t.2.2 k) else (sst t pt k).1) s : Nat)) → s7 74 = st 74 → s7 66 8 = ((if c = (sst t pt k).2.2 then (sst t pt k).2.2 + 1 else (sst t pt k).2.2 : Nat) : Int) → s7 66 9 = (tr + 1 : Nat) → AW (P 248) Q (MS (d + 2)) 0 (fun _ => 0) 15 [vr 66, vr 8, vi k, vi c, none] [] s7 := by
      intro s7 D7 x67 x68 x70 x72 x73 x74 x668 x669
      have T7 : TDc s7 t n f := TDc_congr hT (fun q _ _ => D7.1 q (by omega))
      have fin : ∀ (s9 : St) (ga : Int), DFk k st s9 → s9 67 k = (c : Nat) → s9 68 k = (c + 1 : Nat) → s9 70 k = s7 70 k → s9 72 k = s7 72 k → s9 73 = s7 73 → s9 66 = s7 66 → s9 71 k = ga → ga = (if k ≠ 0 ∧ fcd t pt k = -1 then 1 else 0) → (∀ j, j < 32 → s9 74 j = (if k ≠ 0 ∧ (sst t pt k).2.1 (wy t pt k) = -1 then upf (sst t pt k).2.1 (wy t pt k) (c : Int) else (sst t pt k).2.1) j) → Q (vi 1) s9 := by
        intro s9 ga D9 y67 y68 y70 y72 y73 y66 y71 hga y74
        refine h1 s9 hcf ⟨fun i hi => ?_, fun s hs => ?_, fun j hj => ?_, ?_, ?_⟩ (fun q hq => D9.1 q hq)
        · by_cases z : i = k
          · subst z
            rw [ptk, lsc i (Nat.le_refl _), cong i (Nat.le_refl _), fcc i (Nat.le_refl _), y67, y68, y70, y71, y72, x70, x72, D9.2.2]
            exact ⟨rfl, rfl, cN2, rfl, hga, rfl⟩
          · rw [pti i (by omega), lsc i (by omega), cong i (by omega), fcc i (by omega), D9.2.1 67 i (by decide) (by decide) z, D9.2.1 68 i (by decide) (by decide) z, D9.2.1 69 i (by decide) (by decide) z, D9.2.1 70 i (by decide) (by decide) z, D9.2.1 71 i (by decide) (by decide) z, D9.2.1 72 i (by decide) (by decide) z]
            exact c1 i (by omega)
        · rw [y73, x73 s hs, sst_s, ptk, cong k (Nat.le_refl _)]
        · rw [y74 j hj, sst_s, ptk, cong k (Nat.le_refl _)]
          rcases Nat.eq_zero_or_pos k with z | z
          · subst z
            rw [if_neg (fun h => h.1 rfl)]
            dsimp only
            rw [if_neg (fun h => h.1 rfl)]
          · rw [wyk k z (Nat.le_refl _)]
        · rw [y66, x668, sst_s, ptk, cong k (Nat.le_refl _)]
        · rw [y66]
          exact x669
      rcases Nat.eq_zero_or_pos k with zk | zk
      · subst zk
        rw [awu 248 15]
        try simp only [awu 248 15, pe248, xs, i_load, i_loadR, i_inc, lg, lp, true_and, and_true, List.length_cons, List.length_nil, Nat.reduceAdd, Nat.reduceLeDiff, Nat.zero_le, Int.toNat_natCast, natLit, k0]
        refine sp_arrowTo0 T7 ?_
        dsimp only
        have e71 : up2 s7 71 0 0 71 0 = 0 := by rw [up2_self, upf_s]
        try simp only [awu 248 15, awu 248 18, awu 248 19, awu 248 21, pe248, xs, i_load, i_loadR, i_inc, lg, lp, true_and, and_true, List.length_cons, List.length_nil, Nat.reduceAdd, Nat.reduceLeDiff, Nat.zero_le, Int.toNat_natCast, natLit, k0, k71, l71, ok01_0, ok01_1, Int.toNat_zero, e71]
        refine ⟨fun _ => ⟨by decide, by decide, fun _ => ?_, fun h => absurd (by trivial) h⟩, fun h => absurd (by trivial) h⟩
        refine fin _ 0 (DFk_u D7 (by decide) (by decide) (by decide) (fun _ => rfl)) ?_ ?_ ?_ ?_ ?_ ?_ e71 (by rw [if_neg (fun h => h.1 rfl)]) (fun j hj => ?_)
        · rw [up2_ne (by decide)]; exact x67
        · rw [up2_ne (by decide)]; exact x68
        · rw [up2_ne (by decide)]
        · rw [up2_ne (by decide)]
        · rw [up2_ne (by decide)]
        · rw [up2_ne (by decide)]
        · rw [up2_ne (by decide), x74, if_neg (fun h => h.1 rfl)]
          exact c3 j hj
      · obtain ⟨p1, p2⟩ := te2 k zk hk
        have hwb := wy_b (pt := pt) te2 zk hk (p8 _ p1)
        have e74 : s7 74 (wy t pt k) = (sst t pt k).2.1 (wy t pt k) := by rw [x74]; exact c3 _ hwb
        have hfc : fcd t pt k = (sst t pt k).2.1 (wy t pt k) := by unfold fcd; rw [if_neg (by omega)]
        rw [awu 248 15]
        try simp only [awu 248 15, pe248, xs, i_load, i_loadR, i_inc, lg, lp, true_and, and_true, List.length_cons, List.length_nil, Nat.reduceAdd, Nat.reduceLeDiff, Nat.zero_le, Int.toNat_natCast, natLit, k0]
        refine sp_arrowTo (pt := pt) T7 zk hk (by rw [D7.2.1 67 _ (by decide) (by decide) (by omega)]; exact (c1 _ p1).1) (p8 _ p1) ?_
        dsimp only
        by_cases zf : (sst t pt k).2.1 (wy t pt k) = -1
        · rw [zf] at e74
          have e71 : up2 s7 71 k 1 71 k = 1 := by rw [up2_self, upf_s]
          try simp only [awu 248 15, awu 248 16, awu 248 17, awu 248 19, awu 248 20, awu 248 21, pe248, xs, i_load, i_loadR, i_inc, lg, lp, true_and, and_true, List.length_cons, List.length_nil, Nat.reduceAdd, Nat.reduceLeDiff, Nat.zero_le, Int.toNat_natCast, natLit, k0, k71, l71, k74, l74, e74, ok01_0, ok01_1, e71]
          refine ⟨fun h => by omega, fun _ => ⟨by omega, fun h => absurd (by trivial) h, fun _ => ⟨by omega, by omega, fun h => absurd h (by decide), fun _ => ⟨by omega, ?_⟩⟩⟩⟩
          refine fin _ 1 (DFk_u (DFk_u D7 (by decide) (by decide) (by decide) (fun _ => rfl)) (by decide) (by decide) (by decide) (fun h => by omega)) ?_ ?_ ?_ ?_ ?_ ?_ ?_ (by rw [hfc, if_pos ⟨by omega, zf⟩]) (fun j hj => ?_)
          · rw [up2_ne (by decide), up2_ne (by decide)]; exact x67
          · rw [up2_ne (by decide), up2_ne (by decide)]; exact x68
          · rw [up2_ne (by decide), up2_ne (by decide)]
          · rw [up2_ne (by decide), up2_ne (by decide)]
          · rw [up2_ne (by decide), up2_ne (by decide)]
          · rw [up2_ne (by decide), up2_ne (by decide)]
          · rw [up2_ne (by decide)]; exact e71
          · rw [up2_self, up2_ne (by decide), x74, if_pos ⟨by omega, zf⟩]
            by_cases zj : j = wy t pt k
            · rw [zj, upf_s, upf_s]
            · rw [upf_n zj, upf_n zj]
              exact c3 j hj
        · have e71 : up2 s7 71 k 0 71 k = 0 := by rw [up2_self, upf_s]
          try simp only [awu 248 15, awu 248 16, awu 248 18, awu 248 19, awu 248 21, pe248, xs, i_load, i_loadR, i_inc, lg, lp, true_and, and_true, List.length_cons, List.length_nil, Nat.reduceAdd, Nat.reduceLeDiff, Nat.zero_le, Int.toNat_natCast, natLit, k0, k71, l71, k74, l74, e74, ok01_0, ok01_1, e71]
          refine ⟨fun h => by omega, fun _ => ⟨by omega, fun _ => ⟨by omega, by omega, fun _ => ?_, fun h => absurd (by trivial) h⟩, fun h => absurd zf h⟩⟩
          refine fin _ 0 (DFk_u D7 (by decide) (by decide) (by decide) (fun _ => rfl)) ?_ ?_ ?_ ?_ ?_ ?_ e71 (by rw [hfc, if_neg (fun h => zf h.2)]) (fun j hj => ?_)
          · rw [up2_ne (by decide)]; exact x67
          · rw [up2_ne (by decide)]; exact x68
          · rw [up2_ne (by decide)]
          · rw [up2_ne (by decide)]
          · rw [up2_ne (by decide)]
          · rw [up2_ne (by decide)]
          · rw [up2_ne (by decide), x74, if_neg (fun h => zf h.2)]
            exact c3 j hj
    -- the mark
    have midM : ∀ (s5 : St), DFk k st s5 → s5 67 k = (c : Nat) → s5 68 k = (c + 1 : Nat) → s5 72 k = (if c = (sst t pt k).2.2 then 1 else 0) → s5 73 = st 73 → s5 74 = st 74 → s5 66 8 = ((if c = (sst t pt k).2.2 then (sst t pt k).2.2 + 1 else (sst t pt k).2.2 : Nat) : Int) → s5 66 9 = (tr + 1 : Nat) → AW (P 248) Q (MS (d + 2)) 0 (fun _ => 0) 9 [vr 66, vr 8, vi k, vi c, none] [] s5 := by
      intro s5 D5 x67 x68 x72 x73 x74 x668 x669
      have em5 : s5 73 c = ((sst t pt k).1 c : Nat) := by rw [x73]; exact c2 c hc
      have et5 : s5 10 k = (t.2.2 k : Nat) := by rw [D5.1 10 (by decide)]; exact tc k hk
      have et6 : ∀ v, up2 s5 70 k v 10 k = (t.2.2 k : Nat) := fun v => by rw [up2_ne (by decide)]; exact et5
      have e70 : ∀ v, up2 s5 70 k v 70 k = v := fun v => by rw [up2_self, upf_s]
      have no : ¬ ((sst t pt k).1 c = 0 ∧ t.2.2 k ≠ 0) → AW (P 248) Q (MS (d + 2)) 0 (fun _ => 0) 15 [vr 66, vr 8, vi k, vi c, none] [] (up2 s5 70 k 0) := fun hno => by
        refine endA _ (DFk_u D5 (by decide) (by decide) (by decide) (fun _ => rfl)) ?_ ?_ (by rw [e70, if_neg hno]) ?_ (fun s hs => ?_) ?_ ?_ ?_
        · rw [up2_ne (by decide)]; exact x67
        · rw [up2_ne (by decide)]; exact x68
        · rw [up2_ne (by decide)]; exact x72
        · rw [up2_ne (by decide), x73, c2 s hs]
          by_cases z0 : (sst t pt k).1 c = 0
          · have ht0 : t.2.2 k = 0 := by
              rcases Nat.eq_zero_or_pos (t.2.2 k) with z | z
              · exact z
              · exact absurd ⟨z0, by omega⟩ hno
            rw [if_pos z0, updN_at, ht0]
            by_cases zs : s = c
            · rw [if_pos zs, zs, z0]
            · rw [if_neg zs]
          · rw [if_neg z0]
        · rw [up2_ne (by decide)]; exact x74
        · rw [up2_ne (by decide)]; exact x668
        · rw [up2_ne (by decide)]; exact x669
      rw [awu 248 9]
      by_cases z0 : (sst t pt k).1 c = 0
      · by_cases zt : t.2.2 k = 0
        · have no := no (fun h => h.2 zt)
          rw [z0] at em5
          rw [zt] at et5
          try simp only [awu 248 9, awu 248 10, awu 248 12, awu 248 13, pe248, xs, i_load, i_loadR, i_inc, lg, lp, true_and, and_true, List.length_cons, List.length_nil, Nat.reduceAdd, Nat.reduceLeDiff, Nat.zero_le, Int.toNat_natCast, natLit, k0, k8, k73, l73, em5, k10, l10, et5, k70, l70, ok01_0, e70]
          exact ⟨by omega, fun h => absurd (by trivial) h, fun _ => ⟨by omega, fun _ => ⟨by omega, by omega, fun _ => no, fun h => absurd (by trivial) h⟩, fun h => absurd (by trivial) h⟩⟩
        · rw [z0] at em5
          try simp only [awu 248 9, awu 248 10, awu 248 11, awu 248 13, awu 248 14, pe248, xs, i_load, i_loadR, i_inc, lg, lp, true_and, and_true, List.length_cons, List.length_nil, Nat.reduceAdd, Nat.reduceLeDiff, Nat.zero_le, Int.toNat_natCast, natLit, k0, k8, k73, l73, em5, k10, l10, et5, et6, k70, l70, ok01_1, e70]
          refine ⟨by omega, fun h => absurd (by trivial) h, fun _ => ⟨by omega, fun h => by omega, fun _ => ⟨by omega, by omega, fun h => absurd h (by decide), fun _ => ⟨by omega, by omega, ?_⟩⟩⟩⟩
          refine endA _ (DFk_u (DFk_u D5 (by decide) (by decide) (by decide) (fun _ => rfl)) (by decide) (by decide) (by decide) (fun h => by omega)) ?_ ?_ ?_ ?_ (fun s hs => ?_) ?_ ?_ ?_
          · rw [up2_ne (by decide), up2_ne (by decide)]; exact x67
          · rw [up2_ne (by decide), up2_ne (by decide)]; exact x68
          · rw [up2_ne (by decide), e70, if_pos ⟨z0, zt⟩]
          · rw [up2_ne (by decide), up2_ne (by decide)]; exact x72
          · rw [up2_self, up2_ne (by decide), x73, if_pos z0, updN_at]
            by_cases zs : s = c
            · rw [if_pos zs, zs, upf_s]
            · rw [if_neg zs, upf_n zs]
              exact c2 s hs
          · rw [up2_ne (by decide), up2_ne (by decide)]; exact x74
          · rw [up2_ne (by decide), up2_ne (by decide)]; exact x668
          · rw [up2_ne (by decide), up2_ne (by decide)]; exact x669
      · have no := no (fun h => z0 h.1)
        try simp only [awu 248 9, awu 248 12, awu 248 13, pe248, xs, i_load, i_loadR, i_inc, lg, lp, true_and, and_true, List.length_cons, List.length_nil, Nat.reduceAdd, Nat.reduceLeDiff, Nat.zero_le, Int.toNat_natCast, natLit, k0, k73, l73, em5, k70, l70, ok01_0, e70]
        exact ⟨by omega, fun _ => ⟨by omega, by omega, fun _ => no, fun h => absurd (by trivial) h⟩, fun h => absurd (by omega) h⟩
    have e668 : ∀ q i v, q ≠ 66 → up2 s2 q i v 66 8 = ((sst t pt k).2.2 : Nat) := fun q i v hq => by rw [up2_ne (fun e => hq e.symm)]; exact v668
    have e668b : up2 s2 67 k (c : Int) 66 8 = ((sst t pt k).2.2 : Nat) := e668 67 k _ (by decide)
    have e72 : ∀ (s : St) v, up2 s 72 k v 72 k = v := fun s v => by rw [up2_self, upf_s]
    have e668c : ∀ v, up2 (up2 s2 67 k (c : Int)) 72 k v 66 8 = ((sst t pt k).2.2 : Nat) := fun v => by rw [up2_ne (by decide)]; exact e668b
    have D4 : ∀ v, DFk k st (up2 (up2 s2 67 k (c : Int)) 72 k v) := fun v => DFk_u (DFk_u D2 (by decide) (by decide) (by decide) (fun _ => rfl)) (by decide) (by decide) (by decide) (fun _ => rfl)
    rw [awu 248 4]
    by_cases zu : c = (sst t pt k).2.2
    · have wu : Unit → wr (((sst t pt k).2.2 : Int) + 1) = (((sst t pt k).2.2 + 1 : Nat) : Int) := fun _ => by rw [wr_id (by omega) (by omega)]; omega
      try simp only [awu 248 4, awu 248 5, awu 248 7, awu 248 8, pe248, xs, i_load, i_loadR, i_inc, lg, lp, true_and, and_true, List.length_cons, List.length_nil, Nat.reduceAdd, Nat.reduceLeDiff, Nat.zero_le, Int.toNat_natCast, natLit, k0, k67, l67, e668b, k72, l72, e72, ok01_1, e668c, wu ()]
      refine ⟨by omega, fun h => absurd (by omega) h, fun _ => ⟨by omega, by omega, fun h => absurd h (by decide), fun _ => ?_⟩⟩
      refine midM _ (DFk_u (D4 1) (by decide) (by decide) (by decide) (fun h => by omega)) ?_ ?_ ?_ ?_ ?_ ?_ ?_
      · rw [up2_ne (by decide), up2_ne (by decide), up2_self, upf_s]
      · rw [up2_ne (by decide), up2_ne (by decide), up2_ne (by decide)]; exact v68
      · rw [up2_ne (by decide), e72, if_pos zu]
      · rw [up2_ne (by decide), up2_ne (by decide), up2_ne (by decide)]; exact v73
      · rw [up2_ne (by decide), up2_ne (by decide), up2_ne (by decide)]; exact v74
      · rw [up2_self, upf_s, if_pos zu]
      · rw [up2_self, upf_n (by decide), up2_ne (by decide), up2_ne (by decide)]; exact v669
    · try simp only [awu 248 4, awu 248 6, awu 248 7, pe248, xs, i_load, i_loadR, i_inc, lg, lp, true_and, and_true, List.length_cons, List.length_nil, Nat.reduceAdd, Nat.reduceLeDiff, Nat.zero_le, Int.toNat_natCast, natLit, k0, k67, l67, e668b, k72, l72, e72, ok01_0]
      refine ⟨by omega, fun _ => ⟨by omega, by omega, fun _ => ?_, fun h => absurd (by trivial) h⟩, fun h => absurd (by omega) h⟩
      refine midM _ (D4 0) ?_ ?_ ?_ ?_ ?_ ?_ ?_
      · rw [up2_ne (by decide), up2_self, upf_s]
      · rw [up2_ne (by decide), up2_ne (by decide)]; exact v68
      · rw [e72, if_neg zu]
      · rw [up2_ne (by decide), up2_ne (by decide)]; exact v73
      · rw [up2_ne (by decide), up2_ne (by decide)]; exact v74
      · rw [e668c, if_neg zu]
      · rw [up2_ne (by decide), up2_ne (by decide)]; exact v669
  · -- it does not go
    have hcf : cfl ((sst t pt k).1 c) (t.2.2 k) = true := cfl_d.mpr (hb3.mp (Classical.not_not.mp hne))
    rw [awu 248 3]
    try simp only [awu 248 3, pe248, xs, i_load, i_loadR, i_inc, lg, lp, true_and, and_true, List.length_cons, List.length_nil, Nat.reduceAdd, Nat.reduceLeDiff, Nat.zero_le, Int.toNat_natCast, natLit, k0, ok01_0]
    refine h0 s2 hcf ⟨⟨fun i hi => ?_, fun s hs => by rw [v73]; exact c2 s hs, fun j hj => by rw [v74]; exact c3 j hj, v668, v669⟩, fun _ => ⟨v68, by rw [D2.2.2]; exact cN2⟩⟩ (fun q hq => D2.1 q hq)
    have z : i ≠ k := by omega
    rw [D2.2.1 67 i (by decide) (by decide) z, D2.2.1 68 i (by decide) (by decide) z, D2.2.1 69 i (by decide) (by decide) z, D2.2.1 70 i (by decide) (by decide) z, D2.2.1 71 i (by decide) (by decide) z, D2.2.1 72 i (by decide) (by decide) z]
    exact c1 i hi
