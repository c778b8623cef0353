/-! pairs, two machines put together: the reference -/
def nmI (X : PR) (q : Int × Int) : Int := match hasP X q with
  | some i => (i : Int)
  | none => -1
def MPm (st : St) (X : PR) : Prop := st 99 52 = (X.2 : Nat) ∧ (∀ i, i < X.2 → st 131 i = (X.1 i).1 ∧ st 132 i = (X.1 i).2) ∧ ∀ s t : Nat, s < 201 → t < 201 → st 135 (201 * s + t) = nmI X ((s : Int) - 1, (t : Int) - 1)
def FrQ (st st' : St) : Prop := ∀ q i, ¬ (q = 99 ∧ i = 52) → q < 131 ∨ 135 < q → st' q i = st q i
theorem sp_comeTo {d : Nat} {s t fm l : Int} {st : St} {X : PR} {Q : Rn} (hP : MPm st X) (hD : DP X) (hX : hasP X (s, t) = none → X.2 < 40401) (hs : -1 ≤ s ∧ s < 200) (ht : -1 ≤ t ∧ t < 200)
    (hq : ∀ st' : St, MPm st' (addP X (s, t)) → (hasP X (s, t) = none → st' 133 X.2 = fm ∧ st' 134 X.2 = l) → (∀ i, i < X.2 → st' 133 i = st 133 i ∧ st' 134 i = st 134 i) → FrQ st st' → Q (vi (numP X (s, t) : Nat)) st') : MS (d + 1) 127 [vr 99, vi s, vi t, vi fm, vi l] st Q := by
  have k0 : kl 99 = 12 := rfl
  have k31 : kl 131 = 50 := rfl
  have l31 : len 131 = 40401 := rfl
  have k32 : kl 132 = 50 := rfl
  have l32 : len 132 = 40401 := rfl
  have k33 : kl 133 = 50 := rfl
  have l33 : len 133 = 40401 := rfl
  have k34 : kl 134 = 50 := rfl
  have l34 : len 134 = 40401 := rfl
  have k35 : kl 135 = 50 := rfl
  have l35 : len 135 = 40401 := rfl
  obtain ⟨p1, p2, p3⟩ := id hP
  obtain ⟨S, hS⟩ : ∃ S : Nat, s = (S : Int) - 1 := ⟨(s + 1).toNat, by omega⟩
  obtain ⟨T, hT⟩ : ∃ T : Nat, t = (T : Int) - 1 := ⟨(t + 1).toNat, by omega⟩
  have w1 : Unit → wr (s + 1) = (S : Int) := fun _ => by rw [wr_id (by omega) (by omega)]; omega
  have w2 : Unit → wr (201 * (S : Int)) = ((201 * S : Nat) : Int) := fun _ => by rw [wr_id (by omega) (by omega)]; omega
  have w3 : Unit → wr (((201 * S : Nat) : Int) + t) = ((201 * S : Nat) : Int) + t := fun _ => by rw [wr_id (by omega) (by omega)]
  have w4 : Unit → wr (((201 * S : Nat) : Int) + t + 1) = ((201 * S + T : Nat) : Int) := fun _ => by rw [wr_id (by omega) (by omega)]; omega
  have e35 := p3 S T (by omega) (by omega)
  rw [← hS, ← hT] at e35
  refine MS_v [vr 99, vi s, vi t, vi fm, vi l, none] rfl rfl rfl rfl ?_
  cases hh : hasP X (s, t) with
  | some i =>
    have hi := hasP_some hh
    have e35 : st 135 (201 * S + T) = (i : Nat) := by rw [e35]; unfold nmI; rw [hh]
    rw [(addP_some hh).1, (addP_some hh).2] at hq
    try simp only [awu 127 0, awu 127 1, pe127, xs, i_load, i_loadR, i_inc, lg, lp, true_and, and_true, List.length_cons, List.length_nil, Nat.reduceAdd, Nat.reduceLeDiff, Nat.zero_le, Int.toNat_natCast, natLit, k0, k35, l35, w1 (), w2 (), w3 (), w4 (), e35]
    exact ⟨by omega, fun h => by omega, fun _ => ⟨by omega, hq st hP (fun h => by rw [h] at hh; cases hh) (fun _ _ => ⟨rfl, rfl⟩) (fun _ _ _ _ => rfl)⟩⟩
  | none =>
    have hX := hX hh
    have e35 : st 135 (201 * S + T) = -1 := by rw [e35]; unfold nmI; rw [hh]
    rw [(addP_none hh).1, (addP_none hh).2] at hq
    have e1 : ∀ v, up2 st 135 (201 * S + T) v 99 52 = (X.2 : Nat) := fun v => by rw [up2_ne (by decide)]; exact p1
    have e2 : ∀ v v2, up2 (up2 st 135 (201 * S + T) v) 131 X.2 v2 99 52 = (X.2 : Nat) := fun v v2 => by rw [up2_ne (by decide)]; exact e1 v
    have e3 : ∀ v v2 v3, up2 (up2 (up2 st 135 (201 * S + T) v) 131 X.2 v2) 132 X.2 v3 99 52 = (X.2 : Nat) := fun v v2 v3 => by rw [up2_ne (by decide)]; exact e2 v v2
    have e4 : ∀ v v2 v3 v4, up2 (up2 (up2 (up2 st 135 (201 * S + T) v) 131 X.2 v2) 132 X.2 v3) 133 X.2 v4 99 52 = (X.2 : Nat) := fun v v2 v3 v4 => by rw [up2_ne (by decide)]; exact e3 v v2 v3
    have e5 : ∀ v v2 v3 v4 v5, up2 (up2 (up2 (up2 (up2 st 135 (201 * S + T) v) 131 X.2 v2) 132 X.2 v3) 133 X.2 v4) 134 X.2 v5 99 52 = (X.2 : Nat) := fun v v2 v3 v4 v5 => by rw [up2_ne (by decide)]; exact e4 v v2 v3 v4
    have w5 : Unit → wr ((X.2 : Int) + 1) = ((X.2 + 1 : Nat) : Int) := fun _ => by rw [wr_id (by omega) (by omega)]; omega
    have w6 : Unit → wr (((X.2 + 1 : Nat) : Int) - 1) = ((X.2 : Nat) : Int) := fun _ => by rw [wr_id (by omega) (by omega)]; omega
    have e6 : ∀ s0 : St, up2 s0 99 52 ((X.2 + 1 : Nat) : Int) 99 52 = ((X.2 + 1 : Nat) : Int) := fun s0 => by rw [up2_self, upf_s]
    try simp only [awu 127 0, awu 127 2, pe127, xs, i_load, i_loadR, i_inc, lg, lp, true_and, and_true, List.length_cons, List.length_nil, Nat.reduceAdd, Nat.reduceLeDiff, Nat.zero_le, Int.toNat_natCast, natLit, k0, k31, l31, k32, l32, k33, l33, k34, l34, k35, l35, w1 (), w2 (), w3 (), w4 (), e35, p1, e1, e2, e3, e4, e5, e6, w5 (), w6 ()]
    refine ⟨by omega, fun _ => ⟨by omega, by omega, by omega, by omega, by omega, ?_⟩, fun h => absurd (by trivial) h⟩
    refine hq _ ⟨e6 _, fun i hi => ?_, fun s' t' hs' ht' => ?_⟩ (fun _ => ⟨?_, ?_⟩) (fun i hi => ⟨?_, ?_⟩) (fun q i q1 q2 => ?_)
    · have hi : i < X.2 + 1 := hi
      show _ = (updP X.1 X.2 (s, t) i).1 ∧ _ = (updP X.1 X.2 (s, t) i).2
      have old := fun h => p2 i h
      constructor
      · rw [up2_ne (by decide), up2_ne (by decide), up2_ne (by decide), up2_ne (by decide), up2_self]
        by_cases z : i = X.2
        · rw [z, upf_s, updP_s]
        · rw [upf_n z, updP_n z, up2_ne (by decide)]
          exact (old (by omega)).1
      · rw [up2_ne (by decide), up2_ne (by decide), up2_ne (by decide), up2_self]
        by_cases z : i = X.2
        · rw [z, upf_s, updP_s]
        · rw [upf_n z, updP_n z, up2_ne (by decide), up2_ne (by decide)]
          exact (old (by omega)).2
    · rw [up2_ne (by decide), up2_ne (by decide), up2_ne (by decide), up2_ne (by decide), up2_ne (by decide), up2_self]
      by_cases z : s' = S ∧ t' = T
      · rw [z.1, z.2, upf_s, ← hS, ← hT]
        unfold nmI
        have : hasP (updP X.1 X.2 (s, t), X.2 + 1) (s, t) = some X.2 := by
          have hD' := addP_DP (q := (s, t)) hD
          rw [(addP_none hh).1] at hD'
          exact hasP_of hD' (Nat.lt_succ_self _) updP_s
        rw [this]
      · rw [upf_n (by omega), p3 s' t' hs' ht']
        unfold nmI
        have : hasP (updP X.1 X.2 (s, t), X.2 + 1) ((s' : Int) - 1, (t' : Int) - 1) = hasP X ((s' : Int) - 1, (t' : Int) - 1) := by
          have hD' := addP_DP (q := (s, t)) hD
          rw [(addP_none hh).1] at hD'
          cases e : hasP X ((s' : Int) - 1, (t' : Int) - 1) with
          | some i =>
            have := hasP_some e
            refine hasP_of hD' (Nat.lt_succ_of_lt this.1) ?_
            show updP X.1 X.2 (s, t) i = _
            rw [updP_n (by omega)]
            exact this.2
          | none =>
            cases e2 : hasP (updP X.1 X.2 (s, t), X.2 + 1) ((s' : Int) - 1, (t' : Int) - 1) with
            | none => rfl
            | some i =>
              obtain ⟨y1, y2⟩ := hasP_some e2
              have y1 : i < X.2 + 1 := y1
              have y2 : updP X.1 X.2 (s, t) i = _ := y2
              by_cases zi : i = X.2
              · rw [zi, updP_s] at y2
                have a1 : s = (s' : Int) - 1 := congrArg Prod.fst y2
                have a2 : t = (t' : Int) - 1 := congrArg Prod.snd y2
                omega
              · rw [updP_n zi] at y2
                exact absurd y2 (hasP_none e i (by omega))
        rw [this]
    · rw [up2_ne (by decide), up2_ne (by decide), up2_self, upf_s]
    · rw [up2_ne (by decide), up2_self, upf_s]
    · rw [up2_ne (by decide), up2_ne (by decide), up2_self, upf_n (by omega), up2_ne (by decide), up2_ne (by decide), up2_ne (by decide)]
    · rw [up2_ne (by decide), up2_self, upf_n (by omega), up2_ne (by decide), up2_ne (by decide), up2_ne (by decide), up2_ne (by decide)]
    · have g : ∀ s0 : St, up2 s0 99 52 ((X.2 + 1 : Nat) : Int) q i = s0 q i := fun s0 => by
        rw [up2_at]
        by_cases z : q = 99
        · subst z
          rw [if_pos rfl, if_neg (by omega)]
        · rw [if_neg z]
      rw [g, up2_ne (by omega), up2_ne (by omega), up2_ne (by omega), up2_ne (by omega), up2_ne (by omega)]
theorem sp_beginPairs {d : Nat} {st : St} {M O : MC} {a : Nat} {Q : Rn} (hq : ∀ st' : St, MPm st' (bf M O a 0) → st' 133 0 = -1 → FrQ st st' → Q none st') : MS (d + 2) 126 [vr 99] st Q := by
  have k0 : kl 99 = 12 := rfl
  have k35 : kl 135 = 50 := rfl
  have l35 : len 135 = 40401 := rfl
  have key : ∀ mm k : Nat, ∀ s2 : St, k + mm = 40401 → (∀ x, x < k → s2 135 x = -1) → (∀ q, q ≠ 135 → s2 q = st q) → AW (P 126) Q (MS (d + 1)) 0 (fun _ => 0) 1 [vr 99, vi k] [] s2 := by
    intro mm
    induction mm with
    | zero =>
      intro k s2 g1 g2 g3
      have : k = 40401 := by omega
      subst this
      rw [awu 126 1]
      try simp only [awu 126 3, pe126, xs, i_load, i_loadR, i_inc, lg, lp, true_and, and_true, List.length_cons, List.length_nil, Nat.reduceAdd, Nat.reduceLeDiff, Nat.zero_le, Int.toNat_natCast, natLit, k0]
      refine ⟨fun _ => ?_, fun h => absurd (by decide) h⟩
      refine sp_comeTo (X := P0) ⟨by rw [up2_self, upf_s]; rfl, fun i hi => absurd hi (Nat.not_lt_zero i), fun s t hs ht => ?_⟩ (fun i j hi => absurd hi (Nat.not_lt_zero i)) (fun _ => by decide) (by decide) (by decide) (fun s3 w1 w2 w3 w4 => ?_)
      · rw [up2_ne (by decide)]
        exact g2 _ (by omega)
      · dsimp only
        have hb0 : addP P0 (0, 0) = bf M O a 0 := by
          have hn : hasP P0 (0, 0) = none := rfl
          rw [(addP_none hn).1]
          show (updP (fun _ => (0, 0)) 0 (0, 0), 1) = ((fun _ => (0, 0)), 1)
          congr 1
          funext j
          unfold updP
          split <;> rfl
        rw [hb0] at w1
        try simp only [awu 126 3, pe126, xs, i_load, i_loadR, i_inc, lg, lp, true_and, and_true, List.length_cons, List.length_nil, Nat.reduceAdd, Nat.reduceLeDiff, Nat.zero_le, Int.toNat_natCast, natLit, k0]
        refine hq s3 w1 (w2 rfl).1 (fun q i q1 q2 => ?_)
        rw [w4 q i q1 q2, up2_at]
        by_cases z : q = 99
        · subst z
          rw [if_pos rfl, if_neg (by omega), g3 99 (by decide)]
        · rw [if_neg z, g3 q (by omega)]
    | succ mm ih =>
      intro k s2 g1 g2 g3
      have wk : Unit → wr ((k : Int) + 1) = ((k + 1 : Nat) : Int) := fun _ => by rw [wr_id (by omega) (by omega)]; omega
      rw [awu 126 1]
      try simp only [awu 126 2, pe126, xs, i_load, i_loadR, i_inc, lg, lp, true_and, and_true, List.length_cons, List.length_nil, Nat.reduceAdd, Nat.reduceLeDiff, Nat.zero_le, Int.toNat_natCast, natLit, k0, k35, l35, wk ()]
      refine ⟨fun h => by omega, fun _ => ⟨by omega, ih (k + 1) _ (by omega) (fun x hx => ?_) (fun q q1 => ?_)⟩⟩
      · rw [up2_self]
        by_cases z : x = k
        · rw [z, upf_s]
        · rw [upf_n z]
          exact g2 x (by omega)
      · rw [up2_ne q1]
        exact g3 q q1
  refine MS_v [vr 99, none] rfl rfl rfl rfl ?_
  try simp only [awu 126 0, pe126, xs, i_load, i_loadR, i_inc, lg, lp, true_and, and_true, List.length_cons, List.length_nil, Nat.reduceAdd, Nat.reduceLeDiff, Nat.zero_le, Int.toNat_natCast, natLit, k0]
  exact key 40401 0 st (by omega) (fun x hx => by omega) (fun _ _ => rfl)
theorem sp_marked {d m : Nat} {s : Int} {st : St} {M : MC} {Q : Rn} (hM : MCm st m M) (hm : m ≤ 4) (hs : -1 ≤ s ∧ s < M.1) (hq : Q (vi (if inM M s then 1 else 0)) st) : MS (d + 2) 128 [vr 99, vi m, vi s] st Q := by
  have k0 : kl 99 = 12 := rfl
  refine MS_v [vr 99, vi m, vi s] rfl rfl rfl rfl ?_
  by_cases z : s = -1
  · subst z
    rw [inM_n] at hq
    try simp only [awu 128 0, awu 128 3, awu 128 4, pe128, xs, i_load, i_loadR, i_inc, lg, lp, true_and, and_true, List.length_cons, List.length_nil, Nat.reduceAdd, Nat.reduceLeDiff, Nat.zero_le, Int.toNat_natCast, natLit, k0, ok01_0]
    exact ⟨fun _ => hq, fun h => absurd (by trivial) h⟩
  · obtain ⟨n, rfl⟩ : ∃ n : Nat, s = n := ⟨s.toNat, by omega⟩
    rw [inM_s (by omega)] at hq
    try simp only [awu 128 0, awu 128 1, pe128, xs, i_load, i_loadR, i_inc, lg, lp, true_and, and_true, List.length_cons, List.length_nil, Nat.reduceAdd, Nat.reduceLeDiff, Nat.zero_le, Int.toNat_natCast, natLit, k0]
    refine ⟨fun h => absurd h z, fun _ => ?_⟩
    refine sp_markOf hM hm (show n < M.1 by omega) ?_
    dsimp only
    try simp only [awu 128 1, awu 128 2, awu 128 3, awu 128 4, pe128, xs, i_load, i_loadR, i_inc, lg, lp, true_and, and_true, List.length_cons, List.length_nil, Nat.reduceAdd, Nat.reduceLeDiff, Nat.zero_le, Int.toNat_natCast, natLit, k0, ok01_0, ok01_1]
    refine ⟨fun h => ?_, fun h => ?_⟩
    · rw [if_neg (by simpa using h)] at hq
      exact hq
    · rw [if_pos (by simpa using h)] at hq
      exact hq
def FrX (lo : Nat) (st st' : St) : Prop := ∀ q i, ¬ (q = 99 ∧ i = 52) → ¬ (131 ≤ q ∧ q ≤ 135) → ¬ (q = 119 ∧ lo ≤ i) → ¬ (q = 120 ∧ 200 * lo ≤ i) → ¬ (q = 121 ∧ 800 * lo ≤ i) → st' q i = st q i
theorem Go_le {M O : MC} {a mo : Nat} : ∀ {k : Nat}, Go M O a mo k → k ≤ (bf M O a k).2
  | 0, _ => Nat.zero_le _
  | k + 1, h => by
    have := (h k (by omega)).1
    have := (bf_le (M := M) (O := O) (a := a) (k := k) 1).1
    omega
set_option maxHeartbeats 4000000 in
theorem sp_mboth {d m o a : Nat} {how : Int} {st : St} {M O : MC} {Q : Rn} {u4 u5 u6 u7 : V} (hm : m ≤ 3) (ho : o ≤ 3) (hM : MCm st m M) (hO : MCm st o O) (hMW : MW a M) (hOW : MW a O) (m0 : 0 < M.1) (o0 : 0 < O.1) (ha : a ≤ 4) (hl : st 99 2 = a)
    (h1 : ∀ (st' : St) (n : Nat), Fin M O a 200 n → MCm st' 3 (btM M O a how n) → FrX 3 st st' → Q (vi (n : Nat)) st')
    (h0 : ∀ (st' : St) (k : Nat), Ovf M O a 200 k → FrX 4 st st' → Q (vi (-3)) st') : AW (P 132) Q (MS (d + 2)) 0 (fun _ => 0) 3 [vr 99, vi m, vi o, vi how, u4, u5, u6, u7] [] st := by
  have k0 : kl 99 = 12 := rfl
  have k19 : kl 119 = 50 := rfl
  have l19 : len 119 = 5 := rfl
  have k20 : kl 120 = 50 := rfl
  have l20 : len 120 = 1000 := rfl
  have k31 : kl 131 = 50 := rfl
  have l31 : len 131 = 40401 := rfl
  have k32 : kl 132 = 50 := rfl
  have l32 : len 132 = 40401 := rfl
  have hM2 := hM.2.1
  have hO2 := hO.2.1
  have fr : ∀ s2 : St, FrX 4 st s2 → MCm s2 m M ∧ MCm s2 o O ∧ s2 99 2 = a := fun s2 h => ⟨MCm_congr hM (h 119 m (by omega) (by omega) (by omega) (by omega) (by omega)) (fun i _ _ => h 120 i (by omega) (by omega) (by omega) (by omega) (by omega)) (fun i _ _ => h 121 i (by omega) (by omega) (by omega) (by omega) (by omega)), MCm_congr hO (h 119 o (by omega) (by omega) (by omega) (by omega) (by omega)) (fun i _ _ => h 120 i (by omega) (by omega) (by omega) (by omega) (by omega)) (fun i _ _ => h 121 i (by omega) (by omega) (by omega) (by omega) (by omega)), by rw [h 99 2 (by omega) (by omega) (by omega) (by omega) (by omega)]; exact hl⟩
  have key : ∀ mm k : Nat, ∀ (s2 : St) (u5 u6 u7 : V), k + mm = 202 → Go M O a 200 k → MPm s2 (bf M O a k) → FrX 4 st s2 → btR M O a how (bf M O a k) k 0 (fun s => s2 120 (800 + s)) (fun i => s2 121 (3200 + i)) → AW (P 132) Q (MS (d + 2)) 0 (fun _ => 0) 4 [vr 99, vi m, vi o, vi how, vi k, u5, u6, u7] [] s2 := by
    intro mm
    induction mm with
    | zero =>
      intro k s2 u5 u6 u7 g1 g2 g3 g4 g5
      have := g2 200 (by omega)
      omega
    | succ mm ih =>
      intro k s2 u5 u6 u7 g1 g2 g3 g4 g5
      have hB := BI_bf hMW hOW ha m0 o0 k g2
      have e52 := g3.1
      have hkl := Go_le g2
      obtain ⟨f1, f2, f3⟩ := fr s2 g4
      by_cases hk : k = (bf M O a k).2
      · have hF : Fin M O a 200 k := ⟨g2, hk.symm⟩
        have hk200 := Fin_le hF (by decide)
        have hR := btR_e hB.1 hk.symm g5
        rw [awu 132 4]
        try simp only [awu 132 26, pe132, xs, i_load, i_loadR, i_inc, lg, lp, true_and, and_true, List.length_cons, List.length_nil, Nat.reduceAdd, Nat.reduceLeDiff, Nat.zero_le, Int.toNat_natCast, natLit, k0, k19, l19, e52]
        refine ⟨fun _ => ⟨by omega, ?_⟩, fun h => absurd (by omega) h⟩
        refine sp_mcopy (f := 4) (t := 3) (M := btM M O a how k) ⟨?_, hk200, fun s hs => ?_, fun i hi => ?_⟩ (by decide) (by decide) (by decide) (fun s3 w1 w2 => ?_)
        · rw [up2_self, show ((4 : Int)).toNat = 4 from rfl, upf_s, ← hk]
          rfl
        · rw [up2_ne (by decide)]
          exact hR.1 s hs
        · rw [up2_ne (by decide)]
          exact hR.2 i hi
        · dsimp only
          have e19 : s3 119 3 = (k : Nat) := w1.1
          try simp only [awu 132 26, pe132, xs, i_load, i_loadR, i_inc, lg, lp, true_and, and_true, List.length_cons, List.length_nil, Nat.reduceAdd, Nat.reduceLeDiff, Nat.zero_le, Int.toNat_natCast, natLit, k0, k19, l19, show ((3 : Int)).toNat = 3 from rfl, e19]
          refine ⟨by omega, h1 s3 k hF w1 (fun q i q1 q2 q3 q4 q5 => ?_)⟩
          rw [w2 q i (by omega) (by omega) (by omega), up2_at]
          by_cases z : q = 119
          · subst z
            rw [if_pos rfl, if_neg (by rw [show ((4 : Int)).toNat = 4 from rfl]; omega)]
            exact g4 119 i (by omega) (by omega) (by omega) (by omega) (by omega)
          · rw [if_neg z]
            exact g4 q i q1 q2 (by omega) (by omega) (by omega)
      · have hk : k < (bf M O a k).2 := by omega
        by_cases hov : 200 < (bf M O a k).2
        · rw [awu 132 4]
          try simp only [awu 132 5, awu 132 6, pe132, xs, i_load, i_loadR, i_inc, lg, lp, true_and, and_true, List.length_cons, List.length_nil, Nat.reduceAdd, Nat.reduceLeDiff, Nat.zero_le, Int.toNat_natCast, natLit, k0, e52]
          exact ⟨fun h => by omega, fun _ => ⟨fun h => by omega, fun _ => h0 s2 k ⟨g2, hov⟩ g4⟩⟩
        · have g2' : Go M O a 200 (k + 1) := by
            intro j hj
            by_cases z : j = k
            · rw [z]
              exact ⟨hk, by omega⟩
            · exact g2 j (by omega)
          have hle1 : leP (bf M O a k) (bf M O a (k + 1)) := bf_le 1
          obtain ⟨x1, x2⟩ := g3.2.1 k hk
          have hRg := hB.2.2.1 k hk
          have wk : Unit → wr ((k : Int) + 1) = ((k + 1 : Nat) : Int) := fun _ => by rw [wr_id (by omega) (by omega)]; omega
          have w800 : Unit → wr (800 + (k : Int)) = ((800 + k : Nat) : Int) := fun _ => by rw [wr_id (by omega) (by omega)]; omega
          -- the letters that there aren't
          have keyl2 : ∀ mm l : Nat, ∀ (s3 : St) (u5 u6 : V), l + mm = 4 → a ≤ l → MPm s3 (bf M O a (k + 1)) → FrX 4 st s3 → btR M O a how (bf M O a (k + 1)) k a (fun s => s3 120 (800 + s)) (fun i => s3 121 (3200 + i)) → s3 120 (800 + k) = (if cb how (inM M ((bf M O a k).1 k).1) (inM O ((bf M O a k).1 k).2) then 1 else 2) → (∀ j, a ≤ j → j < l → s3 121 (3200 + (4 * k + j)) = -1) → AW (P 132) Q (MS (d + 2)) 0 (fun _ => 0) 20 [vr 99, vi m, vi o, vi how, vi k, u5, u6, vi l] [] s3 := by
            intro mm
            induction mm with
            | zero =>
              intro l s3 u5 u6 y1 y1' y2 y3 y4 y5 y6
              have : l = 4 := by omega
              subst this
              rw [awu 132 20]
              try simp only [awu 132 25, pe132, xs, i_load, i_loadR, i_inc, lg, lp, true_and, and_true, List.length_cons, List.length_nil, Nat.reduceAdd, Nat.reduceLeDiff, Nat.zero_le, Int.toNat_natCast, natLit, k0, wk ()]
              refine ⟨fun _ => ih (k + 1) s3 _ _ _ (by omega) g2' y2 y3 ⟨fun s hs => ?_, fun s j hs hj => ?_, fun j hj => by omega⟩, fun h => absurd (by decide) h⟩
              · by_cases z : s = k
                · rw [z, hle1.2 k hk]
                  exact y5
                · exact y4.1 s (by omega)
              · by_cases z : s = k
                · rw [z]
                  rcases Nat.lt_or_ge j a with zj | zj
                  · exact Or.inr ⟨zj, y4.2.2 j zj zj⟩
                  · exact Or.inl ⟨zj, y6 j zj hj⟩
                · exact y4.2.1 s j (by omega) hj
            | succ mm ihl =>
              intro l s3 u5 u6 y1 y1' y2 y3 y4 y5 y6
              have f3 := (fr s3 y3).2.2
              have wl' : Unit → wr ((l : Int) + 1) = ((l + 1 : Nat) : Int) := fun _ => by rw [wr_id (by omega) (by omega)]; omega
              rw [awu 132 20]
              try simp only [awu 132 21, awu 132 23, awu 132 24, pe132, xs, i_load, i_loadR, i_inc, lg, lp, true_and, and_true, List.length_cons, List.length_nil, Nat.reduceAdd, Nat.reduceLeDiff, Nat.zero_le, Int.toNat_natCast, natLit, k0, f3]
              refine ⟨fun h => by omega, fun _ => ⟨fun _ => ?_, fun h => absurd (by omega) h⟩⟩
              refine sp_putArrow (m := 4) (by decide) (show k < 200 by omega) (show l < 4 by omega) ?_
              dsimp only
              try simp only [awu 132 24, pe132, xs, i_load, i_loadR, i_inc, lg, lp, true_and, and_true, List.length_cons, List.length_nil, Nat.reduceAdd, Nat.reduceLeDiff, Nat.zero_le, Int.toNat_natCast, natLit, k0, wl' ()]
              refine ihl (l + 1) _ _ _ (by omega) (by omega) ⟨by rw [up2_ne (by decide)]; exact y2.1, fun i hi => by rw [up2_ne (by decide), up2_ne (by decide)]; exact y2.2.1 i hi, fun s t hs ht => by rw [up2_ne (by decide)]; exact y2.2.2 s t hs ht⟩ (fun q i q1 q2 q3 q4 q5 => ?_) (btR_congr y4 (fun s hs => by show up2 s3 121 _ _ 120 _ = _; rw [up2_ne (by decide)]) (fun i hi => by show up2 s3 121 _ _ 121 _ = _; rw [up2_self, upf_n (by omega)])) (by rw [up2_ne (by decide)]; exact y5) (fun j j1 j2 => ?_)
              · rw [up2_at]
                by_cases z : q = 121
                · subst z
                  rw [if_pos rfl, if_neg (by omega)]
                  exact y3 121 i q1 q2 q3 q4 q5
                · rw [if_neg z]
                  exact y3 q i q1 q2 q3 q4 q5
              · rw [up2_self]
                by_cases z : j = l
                · rw [z, show 3200 + (4 * k + l) = 800 * 4 + (4 * k + l) by omega, upf_s]
                · rw [upf_n (by omega)]
                  exact y6 j j1 (by omega)
          have keyl : ∀ mm l : Nat, ∀ (s3 : St) (u5 u6 : V), l + mm = a → MPm s3 (stpP M O (bf M O a k) k l) → FrX 4 st s3 → btR M O a how (stpP M O (bf M O a k) k l) k l (fun s => s3 120 (800 + s)) (fun i => s3 121 (3200 + i)) → s3 120 (800 + k) = (if cb how (inM M ((bf M O a k).1 k).1) (inM O ((bf M O a k).1 k).2) then 1 else 2) → AW (P 132) Q (MS (d + 2)) 0 (fun _ => 0) 20 [vr 99, vi m, vi o, vi how, vi k, u5, u6, vi l] [] s3 := by
            intro mm
            induction mm with
            | zero =>
              intro l s3 u5 u6 y1 y2 y3 y4 y5
              have : l = a := by omega
              subst this
              rw [← bf_s] at y2 y4
              exact keyl2 (4 - l) l s3 u5 u6 (by omega) (Nat.le_refl _) y2 y3 y4 y5 (fun j h1 h2 => by omega)
            | succ mm ihl =>
              intro l s3 u5 u6 y1 y2 y3 y4 y5
              have hle := stpP_le (M := M) (O := O) (X := bf M O a k) (k := k) l
              have hB3 := BI_st hMW hOW ha hB hk l (by omega)
              have h2 := stpP_2 (M := M) (O := O) (X := bf M O a k) (k := k) l
              have hk3 : k < (stpP M O (bf M O a k) k l).2 := by have := hle.1; omega
              obtain ⟨z1, z2⟩ := y2.2.1 k hk3
              rw [hle.2 k hk] at z1 z2
              obtain ⟨f1, f2, f3⟩ := fr s3 y3
              have wl' : Unit → wr ((l : Int) + 1) = ((l + 1 : Nat) : Int) := fun _ => by rw [wr_id (by omega) (by omega)]; omega
              have b1 := fo_b (s := ((bf M O a k).1 k).1) hMW (show l < 4 by omega)
              have b2 := fo_b (s := ((bf M O a k).1 k).2) hOW (show l < 4 by omega)
              rw [awu 132 20]
              try simp only [awu 132 21, awu 132 22, pe132, xs, i_load, i_loadR, i_inc, lg, lp, true_and, and_true, List.length_cons, List.length_nil, Nat.reduceAdd, Nat.reduceLeDiff, Nat.zero_le, Int.toNat_natCast, natLit, k0, f3, k31, l31, z1]
              refine ⟨fun h => by omega, fun _ => ⟨fun h => by omega, fun _ => ⟨by omega, ?_⟩⟩⟩
              refine sp_arrowOf f1 (by omega) (by omega) (show l < 4 by omega) ?_
              dsimp only
              try simp only [awu 132 22, pe132, xs, i_load, i_loadR, i_inc, lg, lp, true_and, and_true, List.length_cons, List.length_nil, Nat.reduceAdd, Nat.reduceLeDiff, Nat.zero_le, Int.toNat_natCast, natLit, k0, k32, l32, z2]
              refine ⟨by omega, ?_⟩
              refine sp_arrowOf f2 (by omega) (by omega) (show l < 4 by omega) ?_
              dsimp only
              try simp only [awu 132 22, pe132, xs, i_load, i_loadR, i_inc, lg, lp, true_and, and_true, List.length_cons, List.length_nil, Nat.reduceAdd, Nat.reduceLeDiff, Nat.zero_le, Int.toNat_natCast, natLit, k0]
              refine sp_comeTo (X := stpP M O (bf M O a k) k l) y2 hB3.1 (fun _ => by omega) (by omega) (by omega) (fun s4 w1 _ _ w2 => ?_)
              dsimp only
              have hle4 := addP_le (X := stpP M O (bf M O a k) k l) (q := tg M O ((bf M O a k).1 k) l)
              have hnum := numP_ok (X := stpP M O (bf M O a k) k l) (q := tg M O ((bf M O a k).1 k) l)
              try simp only [awu 132 22, awu 132 24, pe132, xs, i_load, i_loadR, i_inc, lg, lp, true_and, and_true, List.length_cons, List.length_nil, Nat.reduceAdd, Nat.reduceLeDiff, Nat.zero_le, Int.toNat_natCast, natLit, k0]
              refine sp_putArrow (m := 4) (v := ((numP (stpP M O (bf M O a k) k l) (tg M O ((bf M O a k).1 k) l) : Nat) : Int)) (by decide) (show k < 200 by omega) (show l < 4 by omega) ?_
              dsimp only
              try simp only [awu 132 24, pe132, xs, i_load, i_loadR, i_inc, lg, lp, true_and, and_true, List.length_cons, List.length_nil, Nat.reduceAdd, Nat.reduceLeDiff, Nat.zero_le, Int.toNat_natCast, natLit, k0, wl' ()]
              refine ihl (l + 1) _ _ _ (by omega) ?_ (fun q i q1 q2 q3 q4 q5 => ?_) ?_ ?_
              · rw [stpP_s]
                exact ⟨by rw [up2_ne (by decide)]; exact w1.1, fun i hi => by rw [up2_ne (by decide), up2_ne (by decide)]; exact w1.2.1 i hi, fun s t hs ht => by rw [up2_ne (by decide)]; exact w1.2.2 s t hs ht⟩
              · rw [up2_at]
                by_cases z : q = 121
                · subst z
                  rw [if_pos rfl, if_neg (by omega), w2 121 i (by omega) (by omega)]
                  exact y3 121 i q1 q2 q3 q4 q5
                · rw [if_neg z, w2 q i q1 (by omega)]
                  exact y3 q i q1 q2 q3 q4 q5
              · rw [stpP_s]
                have hR := btR_le hk3 hle4 y4
                refine ⟨fun s hs => ?_, fun s j hs hj => ?_, fun j hj hja => ?_⟩
                · show up2 s4 121 _ _ 120 _ = _
                  rw [up2_ne (by decide), w2 120 _ (by omega) (by omega)]
                  exact hR.1 s hs
                · show (_ ∧ up2 s4 121 _ _ 121 _ = -1) ∨ (_ ∧ ∃ i : Nat, _ ∧ up2 s4 121 _ _ 121 _ = _ ∧ _)
                  rw [up2_self, upf_n (by omega), w2 121 _ (by omega) (by omega)]
                  exact hR.2.1 s j hs hj
                · show ∃ i : Nat, _ ∧ up2 s4 121 _ _ 121 _ = _ ∧ _
                  rw [up2_self]
                  by_cases zj : j = l
                  · subst zj
                    refine ⟨_, hnum.1, by rw [show 3200 + (4 * k + j) = 800 * 4 + (4 * k + j) by omega, upf_s], ?_⟩
                    rw [hnum.2, hle4.2 k hk3, hle.2 k hk]
                  · rw [upf_n (by omega), w2 121 _ (by omega) (by omega)]
                    exact hR.2.2 j (by omega) hja
              · rw [up2_ne (by decide), w2 120 _ (by omega) (by omega)]
                exact y5
          have putM : ∀ (v : Int) (u5 u6 u7 : V), v = (if cb how (inM M ((bf M O a k).1 k).1) (inM O ((bf M O a k).1 k).2) then 1 else 2) → AW (P 132) Q (MS (d + 2)) 0 (fun _ => 0) 19 [vr 99, vi m, vi o, vi how, vi k, u5, u6, u7] [vi v, vi (800 + k : Nat), vr 120] s2 := by
            intro v u5 u6 u7 hv
            rw [awu 132 19]
            try simp only [awu 132 19, pe132, xs, i_load, i_loadR, i_inc, lg, lp, true_and, and_true, List.length_cons, List.length_nil, Nat.reduceAdd, Nat.reduceLeDiff, Nat.zero_le, Int.toNat_natCast, natLit, k0, k20, l20]
            refine ⟨by omega, ?_⟩
            refine keyl a 0 _ _ _ (by omega) ⟨by rw [up2_ne (by decide)]; exact g3.1, fun i hi => by rw [up2_ne (by decide), up2_ne (by decide)]; exact g3.2.1 i hi, fun s t hs ht => by rw [up2_ne (by decide)]; exact g3.2.2 s t hs ht⟩ (fun q i q1 q2 q3 q4 q5 => ?_) (btR_congr g5 (fun s hs => by show up2 s2 120 _ _ 120 _ = _; rw [up2_self, upf_n (by omega)]) (fun i hi => by show up2 s2 120 _ _ 121 _ = _; rw [up2_ne (by decide)])) (by rw [up2_self, upf_s]; exact hv)
            rw [up2_at]
            by_cases z : q = 120
            · subst z
              rw [if_pos rfl, if_neg (by omega)]
              exact g4 120 i q1 q2 q3 q4 q5
            · rw [if_neg z]
              exact g4 q i q1 q2 q3 q4 q5
          rw [awu 132 4]
          try simp only [awu 132 5, awu 132 7, pe132, xs, i_load, i_loadR, i_inc, lg, lp, true_and, and_true, List.length_cons, List.length_nil, Nat.reduceAdd, Nat.reduceLeDiff, Nat.zero_le, Int.toNat_natCast, natLit, k0, e52, k31, l31, x1]
          refine ⟨fun h => by omega, fun _ => ⟨fun _ => ⟨by omega, ?_⟩, fun h => absurd (by omega) h⟩⟩
          refine sp_marked f1 (by omega) hRg.1 ?_
          dsimp only
          try simp only [awu 132 7, pe132, xs, i_load, i_loadR, i_inc, lg, lp, true_and, and_true, List.length_cons, List.length_nil, Nat.reduceAdd, Nat.reduceLeDiff, Nat.zero_le, Int.toNat_natCast, natLit, k0, k32, l32, x2]
          refine ⟨by omega, ?_⟩
          refine sp_marked f2 (by omega) hRg.2 ?_
          dsimp only
          unfold cb at putM
          cases hx : inM M ((bf M O a k).1 k).1 <;> cases hy : inM O ((bf M O a k).1 k).2 <;> rw [hx, hy] at putM <;> by_cases z0 : how = 0 <;> by_cases z1 : how = 1 <;> simp [z0, z1] at putM <;> (try simp only [awu 132 7, awu 132 8, awu 132 9, awu 132 10, awu 132 11, awu 132 12, awu 132 13, awu 132 14, awu 132 15, awu 132 16, awu 132 17, awu 132 18, pe132, xs, i_load, i_loadR, i_inc, lg, lp, true_and, and_true, List.length_cons, List.length_nil, Nat.reduceAdd, Nat.reduceLeDiff, Nat.zero_le, Int.toNat_natCast, natLit, k0, w800 ()]) <;> simp [z0, z1] <;> first | exact putM _ _ _ _ rfl | (rw [z0] at z1; cases z1) | skip
  rw [awu 132 3]
  try simp only [awu 132 3, pe132, xs, i_load, i_loadR, i_inc, lg, lp, true_and, and_true, List.length_cons, List.length_nil, Nat.reduceAdd, Nat.reduceLeDiff, Nat.zero_le, Int.toNat_natCast, natLit, k0]
  refine sp_beginPairs (M := M) (O := O) (a := a) (fun s1 y1 _ y2 => ?_)
  dsimp only
  try simp only [awu 132 3, pe132, xs, i_load, i_loadR, i_inc, lg, lp, true_and, and_true, List.length_cons, List.length_nil, Nat.reduceAdd, Nat.reduceLeDiff, Nat.zero_le, Int.toNat_natCast, natLit, k0]
  refine key 202 0 s1 _ _ _ (by omega) (fun j hj => by omega) y1 (fun q i q1 q2 _ _ _ => y2 q i q1 (by omega)) ⟨fun s hs => by omega, fun s j hs => by omega, fun j hj => by omega⟩
