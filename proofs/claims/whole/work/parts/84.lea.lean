/-! the least machine found by trying: the reference -/
def FrE (st st' : St) : Prop := ∀ q i, ¬ (q = 99 ∧ i = 40) → ¬ (q = 119 ∧ (i = 1 ∨ i = 4)) → ¬ (q = 120 ∧ ((200 ≤ i ∧ i < 400) ∨ 800 ≤ i)) → ¬ (q = 121 ∧ ((800 ≤ i ∧ i < 1600) ∨ 3200 ≤ i)) → q < 125 ∨ 128 < q → st' q i = st q i
set_option maxHeartbeats 1000000 in
theorem sp_mleast {d n : Nat} {st : St} {t : TD} {f : Nat → Nat} {Q : Rn} (hT : TDm st t n f)
    (h0 : ∀ st' : St, (lsr t n 8 1 0).1 = 0 → SV t (lsr t n 8 1 0).2.2.1 (lsr t n 8 1 0).2.2.2 n → (lsr t n 8 1 0).2.2.2 ≤ 8 → MCm st' 1 (lsM t (lsr t n 8 1 0).2.2.1 n) → st' 99 40 = ((lsr t n 8 1 0).2.1 : Nat) → FrE st st' → Q (vi ((sst t (lsr t n 8 1 0).2.2.1 n).2.2 : Nat)) st')
    (h1 : ∀ st' : St, (lsr t n 8 1 0).1 ≠ 0 → st' 99 40 = ((lsr t n 8 1 0).2.1 : Nat) → FrR st st' → Q (vi (if (lsr t n 8 1 0).1 = 1 then -2 else -3)) st') : MS (d + 4) 115 [vr 99] st Q := by
  have k0 : kl 99 = 12 := rfl
  have k19 : kl 119 = 50 := rfl
  have l19 : len 119 = 5 := rfl
  have k20 : kl 120 = 50 := rfl
  have l20 : len 120 = 1000 := rfl
  have k27 : kl 127 = 50 := rfl
  have l27 : len 127 = 120 := rfl
  have k28 : kl 128 = 50 := rfl
  have l28 : len 128 = 24 := rfl
  have hT' := hT
  obtain ⟨⟨a1, a2, a3⟩, tb, tc, te, tp, tm⟩ := hT'
  have z4 : ((4 : Int)).toNat = 4 := rfl
  have z1 : ((1 : Int)).toNat = 1 := rfl
  generalize hR : lsr t n 8 1 0 = R at *
  have key : ∀ r : Nat, ∀ (mo tr : Nat) (s2 : St) (u2 u3 : V), mo + r = 9 → 1 ≤ mo → lsr t n r mo tr = R → tr ≤ 50000 → s2 99 40 = (tr : Nat) → FrR st s2 → AW (P 115) Q (MS (d + 3)) 0 (fun _ => 0) 1 [vr 99, vi mo, u2, u3] [] s2 := by
    intro r
    induction r with
    | zero =>
      intro mo tr s2 u2 u3 g1 g2 g3 g4 g5 g6
      have : mo = 9 := by omega
      subst this
      rw [← g3] at h1
      have := h1 s2 (show ¬ (1 : Nat) = 0 by decide) g5 g6
      rw [show (lsr t n 0 9 tr).1 = 1 from rfl, if_pos rfl] at this
      rw [awu 115 1]
      try simp only [awu 115 16, pe115, xs, i_load, i_loadR, i_inc, lg, lp, true_and, and_true, List.length_cons, List.length_nil, Nat.reduceAdd, Nat.reduceLeDiff, Nat.zero_le, Int.toNat_natCast, natLit, k0]
      exact ⟨fun _ => this, fun h => absurd (by decide) h⟩
    | succ r ih =>
      intro mo tr s2 u2 u3 g1 g2 g3 g4 g5 g6
      rw [lsr_s] at g3
      have wm : Unit → wr ((mo : Int) + 1) = ((mo + 1 : Nat) : Int) := fun _ => by rw [wr_id (by omega) (by omega)]; omega
      rw [awu 115 1]
      try simp only [awu 115 2, pe115, xs, i_load, i_loadR, i_inc, lg, lp, true_and, and_true, List.length_cons, List.length_nil, Nat.reduceAdd, Nat.reduceLeDiff, Nat.zero_le, Int.toNat_natCast, natLit, k0]
      refine ⟨fun h => by omega, fun _ => ?_⟩
      refine sp_mfindWith (TDm_congr hT g6) g2 (by omega) g5 g4 (fun s3 y1 y2 y3 y4 => ?_)
      dsimp only
      generalize hS : srn t n mo 100200 0 0 tr (fun _ => 0) = S at *
      have fr3 := FrR_t g6 y1
      by_cases zz1 : S.1 = 1
      · rw [if_pos zz1] at g3
        rw [zz1, if_neg (by decide), if_pos rfl]
        try simp only [awu 115 2, awu 115 4, awu 115 5, awu 115 15, pe115, xs, i_load, i_loadR, i_inc, lg, lp, true_and, and_true, List.length_cons, List.length_nil, Nat.reduceAdd, Nat.reduceLeDiff, Nat.zero_le, Int.toNat_natCast, natLit, k0, wm ()]
        exact ⟨fun _ => ⟨fun h => absurd (by trivial) h, fun _ => ih (mo + 1) _ s3 _ _ (by omega) (by omega) g3 y3 y2 fr3⟩, fun h => absurd (by decide) h⟩
      · rw [if_neg zz1] at g3
        by_cases z0 : S.1 = 0
        · obtain ⟨r4, sv⟩ := y4 z0
          rw [← g3] at h0
          dsimp only at h0
          obtain ⟨q1, q2, q3, q4⟩ := id r4
          have hu := sv.2.1
          have e14 : s3 99 14 = (n : Nat) := (TDm_congr hT fr3).1.1
          have e27 : s3 127 (n - 1) = ((sst t S.2.2 n).2.2 : Nat) := by
            have := (q1 (n - 1) (by omega)).2.2
            rw [show n - 1 + 1 = n by omega] at this
            exact this
          have wn : Unit → wr ((n : Int) - 1) = ((n - 1 : Nat) : Int) := fun _ => by rw [wr_id (by omega) (by omega)]; omega
          have hsm := fun s => sst_m n (fun i hi => (sv.1 i hi).2.2) tm s
          have marks : ∀ mm s : Nat, ∀ s4 : St, s + mm = (sst t S.2.2 n).2.2 → s4 119 4 = ((sst t S.2.2 n).2.2 : Nat) → (∀ q i, ¬ (q = 119 ∧ i = 4) → ¬ (q = 120 ∧ 800 ≤ i) → s4 q i = s3 q i) → (∀ x, x < s → s4 120 (800 + x) = ((sst t S.2.2 n).1 x : Nat)) → AW (P 115) Q (MS (d + 3)) 0 (fun _ => 0) 7 [vr 99, vi mo, vi 1, vi s] [] s4 := by
            intro mm
            induction mm with
            | zero =>
              intro s s4 x1 x2 x3 x4
              have : s = (sst t S.2.2 n).2.2 := by omega
              subst this
              rw [awu 115 7]
              try simp only [awu 115 14, pe115, xs, i_load, i_loadR, i_inc, lg, lp, true_and, and_true, List.length_cons, List.length_nil, Nat.reduceAdd, Nat.reduceLeDiff, Nat.zero_le, Int.toNat_natCast, natLit, k0, k19, l19, z4, x2]
              refine ⟨by omega, fun _ => ?_, fun h => absurd (Int.le_refl _) h⟩
              refine sp_mcopy (f := 4) (t := 1) (M := lsM t S.2.2 n) ⟨x2, by show (sst t S.2.2 n).2.2 ≤ 200; omega, x4, fun i hi => ?_⟩ (by decide) (by decide) (by decide) (fun s5 w1 w2 => ?_)
              · have hi : i < 4 * (sst t S.2.2 n).2.2 := hi
                rw [x3 121 _ (by omega) (by omega)]
                exact q3 i (by omega)
              · dsimp only
                have e19 : s5 119 1 = ((sst t S.2.2 n).2.2 : Nat) := w1.1
                try simp only [awu 115 14, pe115, xs, i_load, i_loadR, i_inc, lg, lp, true_and, and_true, List.length_cons, List.length_nil, Nat.reduceAdd, Nat.reduceLeDiff, Nat.zero_le, Int.toNat_natCast, natLit, k0, k19, l19, z1, e19]
                refine ⟨by omega, h0 s5 z0 sv (by omega) w1 ?_ (fun q i q1 q2 q3 q4 q5 => ?_)⟩
                · rw [w2 99 40 (by omega) (by omega) (by omega), x3 99 40 (by omega) (by omega)]
                  exact y2
                · rw [w2 q i (by omega) (by omega) (by omega), x3 q i (by omega) (by omega)]
                  exact fr3 q i q1 (by omega) q5
            | succ mm ihm =>
              intro s s4 x1 x2 x3 x4
              have ws : Unit → wr ((s : Int) + 1) = ((s + 1 : Nat) : Int) := fun _ => by rw [wr_id (by omega) (by omega)]; omega
              have w8 : Unit → wr (800 + (s : Int)) = ((800 + s : Nat) : Int) := fun _ => by rw [wr_id (by omega) (by omega)]; omega
              have w3 : Unit → wr (3 * (s : Int)) = ((3 * s : Nat) : Int) := fun _ => by rw [wr_id (by omega) (by omega)]; omega
              have w31 : Unit → wr (((3 * s : Nat) : Int) + 1) = ((3 * s + 1 : Nat) : Int) := fun _ => by rw [wr_id (by omega) (by omega)]; omega
              have w32 : Unit → wr (((3 * s : Nat) : Int) + 2) = ((3 * s + 2 : Nat) : Int) := fun _ => by rw [wr_id (by omega) (by omega)]; omega
              have o1 : s4 128 (3 * s + 1) = (ctn t S.2.2 s 1 n : Nat) := by rw [x3 128 _ (by omega) (by omega)]; exact q2 s 1 (by omega) (by omega)
              have o2 : s4 128 (3 * s + 2) = (ctn t S.2.2 s 2 n : Nat) := by rw [x3 128 _ (by omega) (by omega)]; exact q2 s 2 (by omega) (by omega)
              obtain ⟨m1, m2, m3⟩ := hsm s
              have put : ∀ v : Int, v = ((sst t S.2.2 n).1 s : Nat) → AW (P 115) Q (MS (d + 3)) 0 (fun _ => 0) 13 [vr 99, vi mo, vi 1, vi s] [vi v, vi (800 + s : Nat), vr 120] s4 := by
                intro v hv
                rw [awu 115 13]
                try simp only [awu 115 13, pe115, xs, i_load, i_loadR, i_inc, lg, lp, true_and, and_true, List.length_cons, List.length_nil, Nat.reduceAdd, Nat.reduceLeDiff, Nat.zero_le, Int.toNat_natCast, natLit, k0, k20, l20, ws ()]
                refine ⟨by omega, ihm (s + 1) _ (by omega) (by rw [up2_ne (by decide)]; exact x2) (fun q i q1 q2 => ?_) (fun x hx => ?_)⟩
                · rw [up2_at]
                  by_cases z : q = 120
                  · subst z
                    rw [if_pos rfl, if_neg (by omega)]
                    exact x3 120 i q1 q2
                  · rw [if_neg z]
                    exact x3 q i q1 q2
                · rw [up2_self]
                  by_cases z : x = s
                  · rw [z, upf_s]
                    exact hv
                  · rw [upf_n (by omega)]
                    exact x4 x (by omega)
              rw [awu 115 7]
              try simp only [awu 115 8, awu 115 9, awu 115 10, awu 115 11, awu 115 12, pe115, xs, i_load, i_loadR, i_inc, lg, lp, true_and, and_true, List.length_cons, List.length_nil, Nat.reduceAdd, Nat.reduceLeDiff, Nat.zero_le, Int.toNat_natCast, natLit, k0, k19, l19, z4, x2, w8 (), w3 (), w31 (), w32 (), k28, l28, o1, o2]
              refine ⟨by omega, fun h => by omega, fun _ => ⟨by omega, fun h => ⟨by omega, fun h2 => put 0 ?_, fun h2 => put 2 ?_⟩, fun h => put 1 ?_⟩⟩
              · omega
              · have := m2.mpr (by omega)
                omega
              · have := m1.mpr (by omega)
                omega
          rw [if_pos z0]
          try simp only [awu 115 2, awu 115 4, awu 115 6, pe115, xs, i_load, i_loadR, i_inc, lg, lp, true_and, and_true, List.length_cons, List.length_nil, Nat.reduceAdd, Nat.reduceLeDiff, Nat.zero_le, Int.toNat_natCast, natLit, k0, k19, l19, z4, e14, wn (), k27, l27, e27]
          refine ⟨fun _ => ⟨fun _ => ⟨by omega, by omega, ?_⟩, fun h => absurd (by decide) h⟩, fun h => absurd (by decide) h⟩
          exact marks _ 0 _ (Nat.zero_add _) (by rw [up2_self, upf_s]) (fun q i q1 q2 => by
            rw [up2_at]
            by_cases z : q = 119
            · subst z
              rw [if_pos rfl, if_neg (by omega)]
            · rw [if_neg z]) (fun x hx => by omega)
        · rw [if_neg z0, if_neg zz1]
          rw [← g3] at h1
          dsimp only at h1
          have := h1 s3 z0 y2 fr3
          rw [if_neg zz1] at this
          try simp only [awu 115 2, awu 115 3, pe115, xs, i_load, i_loadR, i_inc, lg, lp, true_and, and_true, List.length_cons, List.length_nil, Nat.reduceAdd, Nat.reduceLeDiff, Nat.zero_le, Int.toNat_natCast, natLit, k0]
          exact ⟨fun h => absurd (by trivial) h, fun _ => this⟩
  refine MS_v [vr 99, none, none, none] rfl rfl rfl rfl ?_
  try simp only [awu 115 0, pe115, xs, i_load, i_loadR, i_inc, lg, lp, true_and, and_true, List.length_cons, List.length_nil, Nat.reduceAdd, Nat.reduceLeDiff, Nat.zero_le, Int.toNat_natCast, natLit, k0]
  refine key 8 1 0 _ none none (by omega) (by omega) hR (by omega) (by rw [up2_self, upf_s]; rfl) (fun q i q1 q2 q3 => ?_)
  rw [up2_at]
  by_cases z : q = 99
  · subst z
    rw [if_pos rfl, if_neg (by omega)]
  · rw [if_neg z]
