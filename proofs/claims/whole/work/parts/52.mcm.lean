/-! machines of the reference -/
def MCm (st : St) (m : Nat) (M : MC) : Prop := st 119 m = (M.1 : Nat) ∧ M.1 ≤ 200 ∧ (∀ s, s < M.1 → st 120 (200 * m + s) = M.2.1 s) ∧ (∀ i, i < 4 * M.1 → st 121 (800 * m + i) = M.2.2 i)
theorem MCm_congr {st st' : St} {m : Nat} {M : MC} (h : MCm st m M) (e1 : st' 119 m = st 119 m) (e2 : ∀ i, 200 * m ≤ i → i < 200 * m + 200 → st' 120 i = st 120 i) (e3 : ∀ i, 800 * m ≤ i → i < 800 * m + 800 → st' 121 i = st 121 i) : MCm st' m M := by
  obtain ⟨h1, h2, h3, h4⟩ := h
  exact ⟨by rw [e1]; exact h1, h2, fun s hs => by rw [e2 _ (by omega) (by omega)]; exact h3 s hs, fun i hi => by rw [e3 _ (by omega) (by omega)]; exact h4 i hi⟩
theorem sp_markOf {d m s : Nat} {st : St} {M : MC} {Q : Rn} (hM : MCm st m M) (hm : m ≤ 4) (hs : s < M.1) (hq : Q (vi (M.2.1 s)) st) : MS (d + 1) 98 [vr 99, vi m, vi s] st Q := by
  have k0 : kl 99 = 12 := rfl
  have k20 : kl 120 = 50 := rfl
  have l20 : len 120 = 1000 := rfl
  obtain ⟨c1, c2, c3, c4⟩ := hM
  have w1 : Unit → wr (200 * (m : Int)) = ((200 * m : Nat) : Int) := fun _ => by rw [wr_id (by omega) (by omega)]; omega
  have w2 : Unit → wr (((200 * m : Nat) : Int) + (s : Int)) = ((200 * m + s : Nat) : Int) := fun _ => by rw [wr_id (by omega) (by omega)]; omega
  refine MS_v [vr 99, vi m, vi s] rfl rfl rfl rfl ?_
  try simp only [awu 98 0, pe98, xs, i_load, i_loadR, i_inc, lg, lp, true_and, and_true, List.length_cons, List.length_nil, Nat.reduceAdd, Nat.reduceLeDiff, Nat.zero_le, Int.toNat_natCast, natLit, k0, k20, l20, w1 (), w2 (), c3 s hs]
  exact ⟨by omega, hq⟩
theorem sp_arrowRaw {d m s l : Nat} {st : St} {Q : Rn} (hm : m ≤ 4) (hs : s < 200) (hl : l < 4) (hq : Q (vi (st 121 (800 * m + (4 * s + l)))) st) : MS (d + 1) 99 [vr 99, vi m, vi s, vi l] st Q := by
  have k0 : kl 99 = 12 := rfl
  have k21 : kl 121 = 50 := rfl
  have l21 : len 121 = 4000 := rfl
  have w1 : Unit → wr (200 * (m : Int)) = ((200 * m : Nat) : Int) := fun _ => by rw [wr_id (by omega) (by omega)]; omega
  have w2 : Unit → wr (((200 * m : Nat) : Int) + (s : Int)) = ((200 * m + s : Nat) : Int) := fun _ => by rw [wr_id (by omega) (by omega)]; omega
  have w3 : Unit → wr (4 * ((200 * m + s : Nat) : Int)) = ((4 * (200 * m + s) : Nat) : Int) := fun _ => by rw [wr_id (by omega) (by omega)]; omega
  have w4 : Unit → wr (((4 * (200 * m + s) : Nat) : Int) + (l : Int)) = ((800 * m + (4 * s + l) : Nat) : Int) := fun _ => by rw [wr_id (by omega) (by omega)]; omega
  refine MS_v [vr 99, vi m, vi s, vi l] rfl rfl rfl rfl ?_
  try simp only [awu 99 0, awu 99 2, awu 99 3, pe99, xs, i_load, i_loadR, i_inc, lg, lp, true_and, and_true, List.length_cons, List.length_nil, Nat.reduceAdd, Nat.reduceLeDiff, Nat.zero_le, Int.toNat_natCast, natLit, k0, k21, l21, w1 (), w2 (), w3 (), w4 ()]
  exact ⟨fun _ => ⟨by omega, hq⟩, fun h => by omega⟩
theorem sp_arrowNeg {d : Nat} {m l : Int} {st : St} {Q : Rn} (hq : Q (vi (-1)) st) : MS (d + 1) 99 [vr 99, vi m, vi (-1), vi l] st Q := by
  refine MS_v [vr 99, vi m, vi (-1), vi l] rfl rfl rfl rfl ?_
  try simp only [awu 99 0, awu 99 1, awu 99 3, pe99, xs, i_load, i_loadR, i_inc, lg, lp, true_and, and_true, List.length_cons, List.length_nil, Nat.reduceAdd, Nat.reduceLeDiff, Nat.zero_le, Int.toNat_natCast, natLit, mK0]
  exact ⟨fun h => absurd trivial h, fun _ => hq⟩
theorem sp_arrowOf {d m l : Nat} {s : Int} {st : St} {M : MC} {Q : Rn} (hM : MCm st m M) (hm : m ≤ 4) (hs : s = -1 ∨ (0 ≤ s ∧ s < M.1)) (hl : l < 4) (hq : Q (vi (fo M s l)) st) : MS (d + 1) 99 [vr 99, vi m, vi s, vi l] st Q := by
  rcases hs with e | ⟨h1, h2⟩
  · subst e
    rw [fo_n] at hq
    exact sp_arrowNeg hq
  · obtain ⟨t, rfl⟩ : ∃ t : Nat, s = t := ⟨s.toNat, by omega⟩
    have := hM.2.1
    refine sp_arrowRaw hm (by omega) hl ?_
    unfold fo at hq
    rw [if_pos ⟨h1, h2⟩, Int.toNat_natCast] at hq
    rw [hM.2.2.2 (4 * t + l) (by omega)]
    exact hq
theorem sp_putArrow {d m s l : Nat} {v : Int} {st : St} {Q : Rn} (hm : m ≤ 4) (hs : s < 200) (hl : l < 4) (hq : Q none (up2 st 121 (800 * m + (4 * s + l)) v)) : MS (d + 1) 100 [vr 99, vi m, vi s, vi l, vi v] st Q := by
  have k0 : kl 99 = 12 := rfl
  have k21 : kl 121 = 50 := rfl
  have l21 : len 121 = 4000 := rfl
  have w1 : Unit → wr (200 * (m : Int)) = ((200 * m : Nat) : Int) := fun _ => by rw [wr_id (by omega) (by omega)]; omega
  have w2 : Unit → wr (((200 * m : Nat) : Int) + (s : Int)) = ((200 * m + s : Nat) : Int) := fun _ => by rw [wr_id (by omega) (by omega)]; omega
  have w3 : Unit → wr (4 * ((200 * m + s : Nat) : Int)) = ((4 * (200 * m + s) : Nat) : Int) := fun _ => by rw [wr_id (by omega) (by omega)]; omega
  have w4 : Unit → wr (((4 * (200 * m + s) : Nat) : Int) + (l : Int)) = ((800 * m + (4 * s + l) : Nat) : Int) := fun _ => by rw [wr_id (by omega) (by omega)]; omega
  refine MS_v [vr 99, vi m, vi s, vi l, vi v] rfl rfl rfl rfl ?_
  try simp only [awu 100 0, pe100, xs, i_load, i_loadR, i_inc, lg, lp, true_and, and_true, List.length_cons, List.length_nil, Nat.reduceAdd, Nat.reduceLeDiff, Nat.zero_le, Int.toNat_natCast, natLit, k0, k21, l21, w1 (), w2 (), w3 (), w4 ()]
  exact ⟨by omega, hq⟩
def FrN (st st' : St) : Prop := ∀ q i, q ≠ 122 → ¬ (q = 119 ∧ i = 0) → ¬ (q = 120 ∧ i < 200) → ¬ (q = 121 ∧ i < 800) → st' q i = st q i
set_option maxHeartbeats 1000000 in
theorem sp_layNow {d n q : Nat} {st : St} {F : FS} {M : MC} {Q : Rn} (hn : n ≤ 120) (hq4 : q ≤ 4) (hC : MR st n q F) (hF : FI n F) (hL : LA n q F) (hT : TL F n M)
    (hq : ∀ st' : St, MCm st' 0 M → FrN st st' → Q none st') : MS (d + 2) 101 [vr 99] st Q := by
  have k0 : kl 99 = 12 := rfl
  have k9 : kl 109 = 50 := rfl
  have l9 : len 109 = 161 := rfl
  have k10 : kl 110 = 50 := rfl
  have l10 : len 110 = 161 := rfl
  have k12 : kl 112 = 50 := rfl
  have l12 : len 112 = 644 := rfl
  have k19 : kl 119 = 50 := rfl
  have l19 : len 119 = 5 := rfl
  have k20 : kl 120 = 50 := rfl
  have l20 : len 120 = 1000 := rfl
  have k22 : kl 122 = 50 := rfl
  have l22 : len 122 = 161 := rfl
  have hcn : cR F n ≤ n := cn_le n
  have fr : ∀ s2 : St, FrN st s2 → MR s2 n q F := fun s2 h => MR_congr hC (h _ _ (by omega) (by omega) (by omega) (by omega)) (h _ _ (by omega) (by omega) (by omega) (by omega)) (h _ _ (by omega) (by omega) (by omega) (by omega)) (fun j h1 h2 => by funext z; exact h _ _ (by omega) (by omega) (by omega) (by omega))
  have key2 : ∀ m k : Nat, ∀ (s2 : St) (u3 : V), k + m = n → FrN st s2 → s2 119 0 = (cR F n : Nat) → (∀ j, j < n → F.1 j = j → s2 122 j = (cR F j : Nat)) → (∀ j, j < k → F.1 j = j → s2 120 (cR F j) = F.2.1 j ∧ ∀ l, l < 4 → s2 121 (4 * cR F j + l) = vl F n j l) → AW (P 101) Q (MS (d + 1)) 0 (fun _ => 0) 7 [vr 99, vi (cR F n : Nat), vi k, u3] [] s2 := by
    intro m
    induction m with
    | zero =>
      intro k s2 u3 g1 g2 g3 g4 g5
      have : k = n := by omega
      subst this
      have f2 := (fr s2 g2).1
      have hT2 : TL F k (cR F k, s2 120, s2 121) := ⟨rfl, fun j h1 h2 => g5 j h1 h2⟩
      obtain ⟨u1, u2, u3⟩ := TL_u hT hT2
      dsimp only at u1 u2 u3
      rw [awu 101 7]
      try simp only [awu 101 18, pe101, xs, i_load, i_loadR, i_inc, lg, lp, true_and, and_true, List.length_cons, List.length_nil, Nat.reduceAdd, Nat.reduceLeDiff, Nat.zero_le, Int.toNat_natCast, natLit, k0, f2]
      refine ⟨fun _ => hq s2 ⟨by rw [g3, u1], by omega, fun s hs => ?_, fun i hi => ?_⟩ g2, fun h => by omega⟩
      · rw [u2 s hs]
        congr 1
        omega
      · rw [u3 i hi]
        congr 1
        omega
    | succ m ih =>
      intro k s2 u3 g1 g2 g3 g4 g5
      have hk : k < n := by omega
      have f1 := fr s2 g2
      have f2 := f1.1
      obtain ⟨e1, e2, -⟩ := f1.2.2.1 k hk
      have w : Unit → wr ((k : Int) + 1) = ((k + 1 : Nat) : Int) := fun _ => by rw [wr_id (by omega) (by omega)]; omega
      rw [awu 101 7]
      try simp only [awu 101 8, awu 101 9, pe101, xs, i_load, i_loadR, i_inc, lg, lp, true_and, and_true, List.length_cons, List.length_nil, Nat.reduceAdd, Nat.reduceLeDiff, Nat.zero_le, Int.toNat_natCast, natLit, k0, f2, k9, l9, e1]
      refine ⟨fun h => by omega, fun _ => ⟨by omega, ?_⟩⟩
      by_cases hu : F.1 k = k
      · rw [if_pos hu]
        refine ⟨fun _ => ?_, fun h => absurd rfl h⟩
        have e22 := g4 k hk hu
        have hrk := cR_lt hk hu
        try simp only [awu 101 10, pe101, xs, i_load, i_loadR, i_inc, lg, lp, true_and, and_true, List.length_cons, List.length_nil, Nat.reduceAdd, Nat.reduceLeDiff, Nat.zero_le, Int.toNat_natCast, natLit, k0, k20, l20, k22, l22, k10, l10, e22, e2]
        refine ⟨by omega, by omega, by omega, ?_⟩
        have keyl : ∀ m l : Nat, ∀ (s3 : St), l + m = 4 → FrN st s3 → s3 119 0 = (cR F n : Nat) → (∀ j, j < n → F.1 j = j → s3 122 j = (cR F j : Nat)) → (∀ j, j < k → F.1 j = j → s3 120 (cR F j) = F.2.1 j ∧ ∀ l, l < 4 → s3 121 (4 * cR F j + l) = vl F n j l) → s3 120 (cR F k) = F.2.1 k → (∀ i, i < l → s3 121 (4 * cR F k + i) = vl F n k i) → AW (P 101) Q (MS (d + 1)) 0 (fun _ => 0) 11 [vr 99, vi (cR F n : Nat), vi k, vi l] [] s3 := by
          intro m
          induction m with
          | zero =>
            intro l s3 h1 h2 h3 h4 h5 h6 h7
            have : l = 4 := by omega
            subst this
            rw [awu 101 11]
            try simp only [awu 101 17, pe101, xs, i_load, i_loadR, i_inc, lg, lp, true_and, and_true, List.length_cons, List.length_nil, Nat.reduceAdd, Nat.reduceLeDiff, Nat.zero_le, Int.toNat_natCast, natLit, k0, w ()]
            refine ⟨fun _ => ih (k + 1) s3 _ (by omega) h2 h3 h4 (fun j a1 a2 => ?_), fun h => absurd (by decide) h⟩
            rcases Nat.lt_or_ge j k with z | z
            · exact h5 j z a2
            · have : j = k := by omega
              subst this
              exact ⟨h6, h7⟩
          | succ m ihl =>
            intro l s3 h1 h2 h3 h4 h5 h6 h7
            have hl4 : l < 4 := by omega
            have w2 : Unit → wr ((l : Int) + 1) = ((l + 1 : Nat) : Int) := fun _ => by rw [wr_id (by omega) (by omega)]; omega
            have f1 := fr s3 h2
            have hq2 := f1.2.1
            have e22 := h4 k hk hu
            have w4 : Unit → wr (4 * (k : Int)) = ((4 * k : Nat) : Int) := fun _ => by rw [wr_id (by omega) (by omega)]; omega
            have w5 : Unit → wr (((4 * k : Nat) : Int) + (l : Int)) = ((4 * k + l : Nat) : Int) := fun _ => by rw [wr_id (by omega) (by omega)]; omega
            have em := f1.2.2.2.1 (4 * k + l) (by omega)
            have hbd := hF.2.2.2 (4 * k + l) (by omega)
            have hfl : fl F n (k : Int) l = if F.2.2.2 (4 * k + l) ≠ -1 then (rt F.1 (F.2.2.2 (4 * k + l)).toNat : Int) else -1 := by
              unfold fl
              rw [Int.toNat_natCast]
              by_cases z : F.2.2.2 (4 * k + l) ≠ -1
              · rw [if_pos ⟨by omega, by omega, hu, z⟩, if_pos z]
              · rw [if_neg (fun y => z y.2.2.2), if_neg z]
            have fin : ∀ (v : Int), v = vl F n k l → AW (P 101) Q (MS (d + 1)) 0 (fun _ => 0) 16 [vr 99, vi (cR F n : Nat), vi k, vi l] [vi v, vi l, vi (cR F k : Nat), vi 0, vr 99] s3 := by
              intro v hv
              rw [awu 101 16]
              try simp only [awu 101 16, pe101, xs, i_load, i_loadR, i_inc, lg, lp, true_and, and_true, List.length_cons, List.length_nil, Nat.reduceAdd, Nat.reduceLeDiff, Nat.zero_le, Int.toNat_natCast, natLit, k0]
              refine sp_putArrow (m := 0) (by decide) (show cR F k < 200 by omega) hl4 ?_
              dsimp only
              try simp only [awu 101 16, pe101, xs, i_load, i_loadR, i_inc, lg, lp, true_and, and_true, List.length_cons, List.length_nil, Nat.reduceAdd, Nat.reduceLeDiff, Nat.zero_le, Int.toNat_natCast, natLit, k0, w2 ()]
              refine ihl (l + 1) _ (by omega) (fun q i a1 a2 a3 a4 => ?_) ?_ (fun j a1 a2 => ?_) (fun j a1 a2 => ⟨?_, fun i a3 => ?_⟩) ?_ (fun i hi => ?_)
              · rw [up2_at]
                by_cases z : q = 121
                · subst z
                  rw [if_pos rfl, if_neg (by omega)]
                  exact h2 _ i a1 a2 a3 a4
                · rw [if_neg z]
                  exact h2 q i a1 a2 a3 a4
              · rw [up2_ne (by decide)]
                exact h3
              · rw [up2_ne (by decide)]
                exact h4 j a1 a2
              · rw [up2_ne (by decide)]
                exact (h5 j a1 a2).1
              · rw [up2_self, upf_n]
                · exact (h5 j a1 a2).2 i a3
                · have : cR F j ≠ cR F k := fun e => by have := cR_inj a2 hu e; omega
                  omega
              · rw [up2_ne (by decide)]
                exact h6
              · rw [up2_self]
                by_cases z : i = l
                · subst z
                  rw [show 800 * 0 + (4 * cR F k + i) = 4 * cR F k + i by omega, upf_s]
                  exact hv
                · rw [upf_n (by omega)]
                  exact h7 i (by omega)
            rw [awu 101 11]
            try simp only [awu 101 12, pe101, xs, i_load, i_loadR, i_inc, lg, lp, true_and, and_true, List.length_cons, List.length_nil, Nat.reduceAdd, Nat.reduceLeDiff, Nat.zero_le, Int.toNat_natCast, natLit, k0, k22, l22, e22, hq2]
            refine ⟨fun h => by omega, fun _ => ⟨by omega, fun h => ?_, fun h => ?_⟩⟩
            · try simp only [awu 101 15, pe101, xs, i_load, i_loadR, i_inc, lg, lp, true_and, and_true, List.length_cons, List.length_nil, Nat.reduceAdd, Nat.reduceLeDiff, Nat.zero_le, Int.toNat_natCast, natLit, k0]
              exact fin _ (by unfold vl; rw [fl_q hL hk (by omega) hl4, if_pos rfl])
            · try simp only [awu 101 13, pe101, xs, i_load, i_loadR, i_inc, lg, lp, true_and, and_true, List.length_cons, List.length_nil, Nat.reduceAdd, Nat.reduceLeDiff, Nat.zero_le, Int.toNat_natCast, natLit, k0, k12, l12, w4 (), w5 (), em]
              refine ⟨by omega, fun h2 => ?_, fun h2 => ?_⟩
              · try simp only [awu 101 15, pe101, xs, i_load, i_loadR, i_inc, lg, lp, true_and, and_true, List.length_cons, List.length_nil, Nat.reduceAdd, Nat.reduceLeDiff, Nat.zero_le, Int.toNat_natCast, natLit, k0]
                rw [if_neg (fun z => z h2)] at hfl
                exact fin _ (by unfold vl; rw [hfl, if_pos rfl])
              · have e5 : F.2.2.2 (4 * k + l) = (((F.2.2.2 (4 * k + l)).toNat : Nat) : Int) := by omega
                rw [if_pos h2] at hfl
                try simp only [awu 101 14, pe101, xs, i_load, i_loadR, i_inc, lg, lp, true_and, and_true, List.length_cons, List.length_nil, Nat.reduceAdd, Nat.reduceLeDiff, Nat.zero_le, Int.toNat_natCast, natLit, k0, k12, l12, w4 (), w5 (), em]
                refine ⟨by omega, ?_⟩
                rw [e5]
                refine sp_mnof hn f1 hF (by omega) ?_
                dsimp only
                have hr1 := rt_le (u := F.1) (F.2.2.2 (4 * k + l)).toNat
                have hr2 := rt_root hF.1 (F.2.2.2 (4 * k + l)).toNat (by omega)
                have e22' := h4 (rt F.1 (F.2.2.2 (4 * k + l)).toNat) (by omega) hr2
                generalize rt F.1 (F.2.2.2 (4 * k + l)).toNat = r at *
                try simp only [awu 101 14, pe101, xs, i_load, i_loadR, i_inc, lg, lp, true_and, and_true, List.length_cons, List.length_nil, Nat.reduceAdd, Nat.reduceLeDiff, Nat.zero_le, Int.toNat_natCast, natLit, k0, k22, l22, e22']
                refine ⟨by omega, fin _ ?_⟩
                unfold vl
                rw [hfl, if_neg (by omega), Int.toNat_natCast]
        refine keyl 4 0 _ rfl (fun q i a1 a2 a3 a4 => ?_) ?_ (fun j a1 a2 => ?_) (fun j a1 a2 => ⟨?_, fun i a3 => ?_⟩) ?_ (fun i hi => by omega)
        · rw [up2_at]
          by_cases z : q = 120
          · subst z
            rw [if_pos rfl, if_neg (by omega)]
            exact g2 _ i a1 a2 a3 a4
          · rw [if_neg z]
            exact g2 q i a1 a2 a3 a4
        · rw [up2_ne (by decide)]
          exact g3
        · rw [up2_ne (by decide)]
          exact g4 j a1 a2
        · rw [up2_self, upf_n]
          · exact (g5 j a1 a2).1
          · exact fun e => by have := cR_inj a2 hu e; omega
        · rw [up2_ne (by decide)]
          exact (g5 j a1 a2).2 i a3
        · rw [up2_self, upf_s]
      · rw [if_neg hu]
        refine ⟨fun h => by omega, fun _ => ?_⟩
        try simp only [awu 101 17, pe101, xs, i_load, i_loadR, i_inc, lg, lp, true_and, and_true, List.length_cons, List.length_nil, Nat.reduceAdd, Nat.reduceLeDiff, Nat.zero_le, Int.toNat_natCast, natLit, k0, w ()]
        refine ih (k + 1) s2 _ (by omega) g2 g3 g4 (fun j a1 a2 => ?_)
        rcases Nat.lt_or_ge j k with z | z
        · exact g5 j z a2
        · have : j = k := by omega
          subst this
          exact absurd a2 hu
  have key1 : ∀ m k : Nat, ∀ (s2 : St), k + m = n → FrN st s2 → (∀ j, j < k → F.1 j = j → s2 122 j = (cR F j : Nat)) → AW (P 101) Q (MS (d + 1)) 0 (fun _ => 0) 1 [vr 99, vi (cR F k : Nat), vi k, none] [] s2 := by
    intro m
    induction m with
    | zero =>
      intro k s2 g1 g2 g3
      have : k = n := by omega
      subst this
      have f2 := (fr s2 g2).1
      rw [awu 101 1]
      try simp only [awu 101 6, pe101, xs, i_load, i_loadR, i_inc, lg, lp, true_and, and_true, List.length_cons, List.length_nil, Nat.reduceAdd, Nat.reduceLeDiff, Nat.zero_le, Int.toNat_natCast, natLit, k0, f2, k19, l19]
      refine ⟨fun _ => ⟨by omega, ?_⟩, fun h => by omega⟩
      refine key2 k 0 _ none (by omega) (fun q i a1 a2 a3 a4 => ?_) ?_ (fun j a1 a2 => ?_) (fun j hj => by omega)
      · rw [up2_at]
        by_cases z : q = 119
        · subst z
          rw [if_pos rfl, if_neg (by omega)]
          exact g2 _ i a1 a2 a3 a4
        · rw [if_neg z]
          exact g2 q i a1 a2 a3 a4
      · rw [up2_self]
        exact upf_s
      · rw [up2_ne (by decide)]
        exact g3 j a1 a2
    | succ m ih =>
      intro k s2 g1 g2 g3
      have hk : k < n := by omega
      have f1 := fr s2 g2
      have f2 := f1.1
      obtain ⟨e1, -⟩ := f1.2.2.1 k hk
      have hck : cR F k ≤ k := cn_le k
      have w : Unit → wr ((k : Int) + 1) = ((k + 1 : Nat) : Int) := fun _ => by rw [wr_id (by omega) (by omega)]; omega
      have w2 : Unit → wr (((cR F k : Nat) : Int) + 1) = ((cR F k + 1 : Nat) : Int) := fun _ => by rw [wr_id (by omega) (by omega)]; omega
      have ih := fun s2 => ih (k + 1) s2 (by omega)
      rw [cR_s] at ih
      rw [awu 101 1]
      try simp only [awu 101 2, awu 101 3, awu 101 4, awu 101 5, pe101, xs, i_load, i_loadR, i_inc, lg, lp, true_and, and_true, List.length_cons, List.length_nil, Nat.reduceAdd, Nat.reduceLeDiff, Nat.zero_le, Int.toNat_natCast, natLit, k0, f2, k9, l9, e1, k22, l22, w (), w2 ()]
      refine ⟨fun h => by omega, fun _ => ⟨by omega, ?_⟩⟩
      by_cases hu : F.1 k = k
      · rw [if_pos hu]
        rw [if_pos hu] at ih
        refine ⟨fun _ => ⟨by omega, ?_⟩, fun h => absurd rfl h⟩
        refine ih _ (fun q i a1 a2 a3 a4 => ?_) (fun j a1 a2 => ?_)
        · rw [up2_ne a1]
          exact g2 q i a1 a2 a3 a4
        · rw [up2_self]
          by_cases z : j = k
          · subst z
            rw [upf_s]
          · rw [upf_n z]
            exact g3 j (by omega) a2
      · rw [if_neg hu]
        rw [if_neg hu] at ih
        refine ⟨fun h => by omega, fun _ => ih s2 g2 (fun j a1 a2 => ?_)⟩
        rcases Nat.lt_or_ge j k with z | z
        · exact g3 j z a2
        · have : j = k := by omega
          subst this
          exact absurd a2 hu
  refine MS_v [vr 99, none, none, none] rfl rfl rfl rfl ?_
  try simp only [awu 101 0, pe101, xs, i_load, i_loadR, i_inc, lg, lp, true_and, and_true, List.length_cons, List.length_nil, Nat.reduceAdd, Nat.reduceLeDiff, Nat.zero_le, Int.toNat_natCast, natLit, k0]
  exact key1 n 0 st (by omega) (fun _ _ _ _ _ _ => rfl) (fun j hj => by omega)
def FrC (m : Nat) (st st' : St) : Prop := ∀ q i, ¬ (q = 119 ∧ i = m) → ¬ (q = 120 ∧ 200 * m ≤ i ∧ i < 200 * m + 200) → ¬ (q = 121 ∧ 800 * m ≤ i ∧ i < 800 * m + 800) → st' q i = st q i
theorem sp_mcopy {d f t : Nat} {st : St} {M : MC} {Q : Rn} (hM : MCm st f M) (hf : f ≤ 4) (ht : t ≤ 4) (hft : f ≠ t)
    (hq : ∀ st' : St, MCm st' t M → FrC t st st' → Q none st') : MS (d + 1) 103 [vr 99, vi f, vi t] st Q := by
  have k0 : kl 99 = 12 := rfl
  have k19 : kl 119 = 50 := rfl
  have l19 : len 119 = 5 := rfl
  have k20 : kl 120 = 50 := rfl
  have l20 : len 120 = 1000 := rfl
  have k21 : kl 121 = 50 := rfl
  have l21 : len 121 = 4000 := rfl
  obtain ⟨c1, c2, c3, c4⟩ := hM
  have v1 : Unit → wr (200 * (f : Int)) = ((200 * f : Nat) : Int) := fun _ => by rw [wr_id (by omega) (by omega)]; omega
  have v2 : Unit → wr (200 * (t : Int)) = ((200 * t : Nat) : Int) := fun _ => by rw [wr_id (by omega) (by omega)]; omega
  have v3 : Unit → wr (800 * (f : Int)) = ((800 * f : Nat) : Int) := fun _ => by rw [wr_id (by omega) (by omega)]; omega
  have v4 : Unit → wr (800 * (t : Int)) = ((800 * t : Nat) : Int) := fun _ => by rw [wr_id (by omega) (by omega)]; omega
  have key2 : ∀ m k : Nat, ∀ (s2 : St), k + m = 800 → FrC t st s2 → s2 119 t = (M.1 : Nat) → (∀ s, s < M.1 → s2 120 (200 * t + s) = M.2.1 s) → (∀ i, i < k → s2 121 (800 * t + i) = st 121 (800 * f + i)) → AW (P 103) Q (MS d) 0 (fun _ => 0) 4 [vr 99, vi f, vi t, vi k] [] s2 := by
    intro m
    induction m with
    | zero =>
      intro k s2 g1 g2 g3 g4 g5
      have : k = 800 := by omega
      subst this
      rw [awu 103 4]
      try simp only [awu 103 6, pe103, xs, i_load, i_loadR, i_inc, lg, lp, true_and, and_true, List.length_cons, List.length_nil, Nat.reduceAdd, Nat.reduceLeDiff, Nat.zero_le, Int.toNat_natCast, natLit, k0]
      exact ⟨fun _ => hq s2 ⟨g3, c2, g4, fun i hi => by rw [g5 i (by omega)]; exact c4 i hi⟩ g2, fun h => absurd (by decide) h⟩
    | succ m ih =>
      intro k s2 g1 g2 g3 g4 g5
      have w : Unit → wr ((k : Int) + 1) = ((k + 1 : Nat) : Int) := fun _ => by rw [wr_id (by omega) (by omega)]; omega
      have x1 : Unit → wr (((800 * f : Nat) : Int) + (k : Int)) = ((800 * f + k : Nat) : Int) := fun _ => by rw [wr_id (by omega) (by omega)]; omega
      have x2 : Unit → wr (((800 * t : Nat) : Int) + (k : Int)) = ((800 * t + k : Nat) : Int) := fun _ => by rw [wr_id (by omega) (by omega)]; omega
      have e := g2 121 (800 * f + k) (by omega) (by omega) (by omega)
      rw [awu 103 4]
      try simp only [awu 103 5, pe103, xs, i_load, i_loadR, i_inc, lg, lp, true_and, and_true, List.length_cons, List.length_nil, Nat.reduceAdd, Nat.reduceLeDiff, Nat.zero_le, Int.toNat_natCast, natLit, k0, k21, l21, v3 (), v4 (), x1 (), x2 (), w (), e]
      refine ⟨fun h => by omega, fun _ => ⟨by omega, by omega, ?_⟩⟩
      refine ih (k + 1) _ (by omega) (fun q i a1 a2 a3 => ?_) ?_ (fun s hs => ?_) (fun i hi => ?_)
      · rw [up2_at]
        by_cases z : q = 121
        · subst z
          rw [if_pos rfl, if_neg (by omega)]
          exact g2 _ i a1 a2 a3
        · rw [if_neg z]
          exact g2 q i a1 a2 a3
      · rw [up2_ne (by decide)]
        exact g3
      · rw [up2_ne (by decide)]
        exact g4 s hs
      · rw [up2_self]
        by_cases z : i = k
        · subst z
          rw [upf_s]
        · rw [upf_n (by omega)]
          exact g5 i (by omega)
  have key1 : ∀ m k : Nat, ∀ (s2 : St), k + m = 200 → FrC t st s2 → s2 119 t = (M.1 : Nat) → (∀ i, i < k → s2 120 (200 * t + i) = st 120 (200 * f + i)) → AW (P 103) Q (MS d) 0 (fun _ => 0) 1 [vr 99, vi f, vi t, vi k] [] s2 := by
    intro m
    induction m with
    | zero =>
      intro k s2 g1 g2 g3 g5
      have : k = 200 := by omega
      subst this
      rw [awu 103 1]
      try simp only [awu 103 3, pe103, xs, i_load, i_loadR, i_inc, lg, lp, true_and, and_true, List.length_cons, List.length_nil, Nat.reduceAdd, Nat.reduceLeDiff, Nat.zero_le, Int.toNat_natCast, natLit, k0]
      exact ⟨fun _ => key2 800 0 s2 rfl g2 g3 (fun s hs => by rw [g5 s (by omega)]; exact c3 s hs) (fun i hi => by omega), fun h => absurd (by decide) h⟩
    | succ m ih =>
      intro k s2 g1 g2 g3 g5
      have w : Unit → wr ((k : Int) + 1) = ((k + 1 : Nat) : Int) := fun _ => by rw [wr_id (by omega) (by omega)]; omega
      have x1 : Unit → wr (((200 * f : Nat) : Int) + (k : Int)) = ((200 * f + k : Nat) : Int) := fun _ => by rw [wr_id (by omega) (by omega)]; omega
      have x2 : Unit → wr (((200 * t : Nat) : Int) + (k : Int)) = ((200 * t + k : Nat) : Int) := fun _ => by rw [wr_id (by omega) (by omega)]; omega
      have e := g2 120 (200 * f + k) (by omega) (by omega) (by omega)
      rw [awu 103 1]
      try simp only [awu 103 2, pe103, xs, i_load, i_loadR, i_inc, lg, lp, true_and, and_true, List.length_cons, List.length_nil, Nat.reduceAdd, Nat.reduceLeDiff, Nat.zero_le, Int.toNat_natCast, natLit, k0, k20, l20, v1 (), v2 (), x1 (), x2 (), w (), e]
      refine ⟨fun h => by omega, fun _ => ⟨by omega, by omega, ?_⟩⟩
      refine ih (k + 1) _ (by omega) (fun q i a1 a2 a3 => ?_) ?_ (fun i hi => ?_)
      · rw [up2_at]
        by_cases z : q = 120
        · subst z
          rw [if_pos rfl, if_neg (by omega)]
          exact g2 _ i a1 a2 a3
        · rw [if_neg z]
          exact g2 q i a1 a2 a3
      · rw [up2_ne (by decide)]
        exact g3
      · rw [up2_self]
        by_cases z : i = k
        · subst z
          rw [upf_s]
        · rw [upf_n (by omega)]
          exact g5 i (by omega)
  refine MS_v [vr 99, vi f, vi t, none] rfl rfl rfl rfl ?_
  try simp only [awu 103 0, pe103, xs, i_load, i_loadR, i_inc, lg, lp, true_and, and_true, List.length_cons, List.length_nil, Nat.reduceAdd, Nat.reduceLeDiff, Nat.zero_le, Int.toNat_natCast, natLit, k0, k19, l19, c1]
  refine ⟨by omega, by omega, ?_⟩
  refine key1 200 0 _ rfl (fun q i a1 a2 a3 => ?_) ?_ (fun i hi => by omega)
  · rw [up2_at]
    by_cases z : q = 119
    · subst z
      rw [if_pos rfl, if_neg (by omega)]
    · rw [if_neg z]
  · rw [up2_self, upf_s]
theorem rn_b {M : MC} {a w : Nat} (hW : MW a M) (h0 : 0 < M.1) : ∀ p, rn M w p = -1 ∨ (0 ≤ rn M w p ∧ rn M w p < M.1)
  | 0 => Or.inr ⟨Int.le_refl _, by show (0 : Int) < M.1; omega⟩
  | p + 1 => by
    rw [rn_s]
    have := fo_b (s := rn M w p) hW (lt_lt w p)
    omega
theorem sp_taken {d m a w : Nat} {st : St} {M : MC} {Q : Rn} (hM : MCm st m M) (hm : m ≤ 4) (hW : MW a M) (h0 : 0 < M.1) (hw : wf w) (hq : Q (vi (if acc M w then 1 else 0)) st) : MS (d + 2) 107 [vr 99, vi m, vi (wl w : Nat), vi (wc w : Nat)] st Q := by
  have k0 : kl 99 = 12 := rfl
  have hw10 := hw.1
  have hc20 := wc_lt w
  have fin : ∀ (s : Int) (u : V), s = rn M w (wl w) → AW (P 107) Q (MS (d + 1)) 0 (fun _ => 0) 4 [vr 99, vi m, vi (wl w : Nat), vi (wc w : Nat), vi s, u] [] st := by
    intro s u hs
    unfold acc inM at hq
    rw [← hs] at hq
    rcases rn_b (w := w) hW h0 (wl w) with e | ⟨e1, e2⟩
    · rw [e] at hs
      subst hs
      rw [decide_eq_false (by omega)] at hq
      rw [awu 107 4]
      try simp only [awu 107 7, awu 107 8, pe107, xs, i_load, i_loadR, i_inc, lg, lp, true_and, and_true, List.length_cons, List.length_nil, Nat.reduceAdd, Nat.reduceLeDiff, Nat.zero_le, Int.toNat_natCast, natLit, k0]
      exact ⟨fun _ => ⟨ok01_0, hq⟩, fun h => absurd trivial h⟩
    · rw [← hs] at e1 e2
      obtain ⟨j, rfl⟩ : ∃ j : Nat, s = j := ⟨s.toNat, by omega⟩
      rw [decide_eq_true ⟨e1, e2⟩, Int.toNat_natCast, Bool.true_and] at hq
      rw [awu 107 4]
      try simp only [awu 107 5, pe107, xs, i_load, i_loadR, i_inc, lg, lp, true_and, and_true, List.length_cons, List.length_nil, Nat.reduceAdd, Nat.reduceLeDiff, Nat.zero_le, Int.toNat_natCast, natLit, k0]
      refine ⟨fun h => by omega, fun _ => ?_⟩
      refine sp_markOf hM hm (show j < M.1 by omega) ?_
      dsimp only
      try simp only [awu 107 6, awu 107 7, awu 107 8, pe107, xs, i_load, i_loadR, i_inc, lg, lp, true_and, and_true, List.length_cons, List.length_nil, Nat.reduceAdd, Nat.reduceLeDiff, Nat.zero_le, Int.toNat_natCast, natLit, k0]
      refine ⟨fun h => ?_, fun h => ?_⟩
      · rw [beq_eq_false_iff_ne.mpr h] at hq
        exact ⟨ok01_0, hq⟩
      · rw [beq_iff_eq.mpr (show M.2.1 j = 1 by omega)] at hq
        exact ⟨ok01_1, hq⟩
  have key : ∀ m2 p : Nat, p + m2 = wl w → AW (P 107) Q (MS (d + 1)) 0 (fun _ => 0) 1 [vr 99, vi m, vi (wl w : Nat), vi (wc w : Nat), vi (rn M w p), vi p] [] st := by
    intro m2
    induction m2 with
    | zero =>
      intro p g1
      have : p = wl w := by omega
      subst this
      rw [awu 107 1]
      try simp only [awu 107 1, pe107, xs, i_load, i_loadR, i_inc, lg, lp, true_and, and_true, List.length_cons, List.length_nil, Nat.reduceAdd, Nat.reduceLeDiff, Nat.zero_le, Int.toNat_natCast, natLit, k0]
      exact ⟨fun _ => fin _ _ rfl, fun h => absurd (Int.le_refl _) h⟩
    | succ m2 ih =>
      intro p g1
      have e : Unit → wr ((p : Int) + 1) = ((p + 1 : Nat) : Int) := fun _ => by rw [wr_id (by omega) (by omega)]; omega
      have hlt := lt_wc (w := w) (p := p) hw10 (by omega)
      rw [awu 107 1]
      try simp only [awu 107 2, awu 107 3, pe107, xs, i_load, i_loadR, i_inc, lg, lp, true_and, and_true, List.length_cons, List.length_nil, Nat.reduceAdd, Nat.reduceLeDiff, Nat.zero_le, Int.toNat_natCast, natLit, k0]
      refine ⟨fun h => by omega, fun _ => ⟨fun h => ?_, fun h => ?_⟩⟩
      · refine fin _ _ ?_
        rw [← g1, rn_n h, h]
      · refine sp_letterAt (by omega) hw10 (show p < wl w by omega) ?_
        rw [← hlt]
        dsimp only
        try simp only [awu 107 3, pe107, xs, i_load, i_loadR, i_inc, lg, lp, true_and, and_true, List.length_cons, List.length_nil, Nat.reduceAdd, Nat.reduceLeDiff, Nat.zero_le, Int.toNat_natCast, natLit, k0]
        refine sp_arrowOf hM hm (rn_b hW h0 p) (lt_lt w p) ?_
        dsimp only
        try simp only [awu 107 3, pe107, xs, i_load, i_loadR, i_inc, lg, lp, true_and, and_true, List.length_cons, List.length_nil, Nat.reduceAdd, Nat.reduceLeDiff, Nat.zero_le, Int.toNat_natCast, natLit, k0, e ()]
        exact ih (p + 1) (by omega)
  refine MS_v [vr 99, vi m, vi (wl w : Nat), vi (wc w : Nat), none, none] rfl rfl rfl rfl ?_
  try simp only [awu 107 0, pe107, xs, i_load, i_loadR, i_inc, lg, lp, true_and, and_true, List.length_cons, List.length_nil, Nat.reduceAdd, Nat.reduceLeDiff, Nat.zero_le, Int.toNat_natCast, natLit, k0]
  exact key (wl w) 0 (by omega)
