/-! a whole text is read: the reference -/
theorem sp_mreadState40 {d c p : Nat} {st : St} {b : Nat → Int} {Q : Rn} (hI : INm st b c) (hp : st 99 41 = (p : Nat)) (h0 : ∀ st' : St, st' 99 42 = (p : Nat) → FrTm st st' → Q (vi 0) st') : MS (d + 3) 122 [vr 99, vi 40] st Q := by
  have k0 : kl 99 = 12 := rfl
  have fin : Q (vi 0) (up2 st 99 42 (p : Int)) := h0 _ (by rw [up2_self, upf_s]) (fun y i a b' c' d' e' f => by
    rw [up2_at]
    by_cases zy : y = 99
    · subst zy
      rw [if_pos rfl, if_neg (by omega)]
    · rw [if_neg zy])
  have go : ∀ u2 : V, AW (P 122) Q (MS (d + 2)) 0 (fun _ => 0) 2 [vr 99, vi 40, u2, none, none] [] st := by
    intro u2
    rw [awu 122 2]
    try simp only [awu 122 2, pe122, xs, i_load, i_loadR, i_inc, lg, lp, true_and, and_true, List.length_cons, List.length_nil, Nat.reduceAdd, Nat.reduceLeDiff, Nat.zero_le, Int.toNat_natCast, natLit, k0, hp]
    refine sp_fails ?_
    dsimp only
    try simp only [awu 122 2, pe122, xs, i_load, i_loadR, i_inc, lg, lp, true_and, and_true, List.length_cons, List.length_nil, Nat.reduceAdd, Nat.reduceLeDiff, Nat.zero_le, Int.toNat_natCast, natLit, k0, ok01_0]
    exact fin
  refine MS_v [vr 99, vi 40, none, none, none] rfl rfl rfl rfl ?_
  try simp only [awu 122 0, pe122, xs, i_load, i_loadR, i_inc, lg, lp, true_and, and_true, List.length_cons, List.length_nil, Nat.reduceAdd, Nat.reduceLeDiff, Nat.zero_le, Int.toNat_natCast, natLit, k0]
  refine sp_here hI hp ?_
  dsimp only
  try simp only [awu 122 0, pe122, xs, i_load, i_loadR, i_inc, lg, lp, true_and, and_true, List.length_cons, List.length_nil, Nat.reduceAdd, Nat.reduceLeDiff, Nat.zero_le, Int.toNat_natCast, natLit, k0]
  refine sp_sign' ?_
  dsimp only
  try simp only [awu 122 0, awu 122 1, pe122, xs, i_load, i_loadR, i_inc, lg, lp, true_and, and_true, List.length_cons, List.length_nil, Nat.reduceAdd, Nat.reduceLeDiff, Nat.zero_le, Int.toNat_natCast, natLit, k0]
  exact ⟨fun _ => go _, fun _ => ⟨fun h => absurd (by trivial) h, fun _ => go _⟩⟩
set_option maxHeartbeats 1000000 in
theorem sp_readMachine {d c a : Nat} {st : St} {b : Nat → Int} {Q : Rn} (hI : INm st b c) (ha0 : 0 < a) (ha : a ≤ 4) (hl : st 99 2 = (a : Nat))
    (h0 : ∀ (st' : St) (q : Nat), rdT b c a = .inl q → st' 99 42 = (q : Nat) → FrTm st st' → Q (vi 0) st')
    (h1 : ∀ (st' : St) (M : MC), rdT b c a = .inr M → st' 99 42 = -1 → MCm st' 4 M → FrTm st st' → Q (vi 1) st') : MS (d + 4) 123 [vr 99] st Q := by
  have k0 : kl 99 = 12 := rfl
  have k19 : kl 119 = 50 := rfl
  have l19 : len 119 = 5 := rfl
  have k29 : kl 129 = 50 := rfl
  have l29 : len 129 = 160 := rfl
  have k30 : kl 130 = 50 := rfl
  have l30 : len 130 = 160 := rfl
  have z4 : ((4 : Int)).toNat = 4 := rfl
  have hT : rdT b c a = match rdM b c a 40 0 X0 with
    | .inl p => .inl p
    | .inr (n, X) => match lsD n X.2.2.1 with
      | some w => .inl (X.2.2.2 w)
      | none => .inr (n, X.2.1, X.2.2.1) := rfl
  generalize hG : rdM b c a 40 0 X0 = G at hT
  have frL : ∀ s2, FrTm st s2 → s2 99 2 = (a : Nat) := fun s2 h => by rw [h 99 2 (by omega) (by omega) (by omega) (by omega) (by omega) (by omega)]; exact hl
  -- the numbers are looked at
  have lost : ∀ (s2 : St) (n : Nat) (X : PS) (u2 : V), n ≤ 40 → G = .inr (n, X) → RVI a c n X → RDm s2 n X.1 (4 * n) X.2.1 X.2.2.1 X.2.2.2 → s2 99 42 = -1 → FrTm st s2 → AW (P 123) Q (MS (d + 3)) 0 (fun _ => 0) 6 [vr 99, vi n, u2] [] s2 := by
    intro s2 n X u2 hn hg hV hR e42 hf
    obtain ⟨p, mk, ar, dg⟩ := X
    obtain ⟨v1, v2, v3, v4⟩ := id hV
    obtain ⟨r1, r2, r3, r4⟩ := id hR
    dsimp only at v1 v2 v3 v4 r1 r2 r3 r4
    rw [hg] at hT
    dsimp only at hT
    generalize hs3 : up2 s2 119 4 (n : Int) = s3
    have o3 : ∀ q i, ¬ (q = 119 ∧ i = 4) → s3 q i = s2 q i := fun q i h => by
      rw [← hs3, up2_at]
      by_cases z : q = 119
      · subst z
        rw [if_pos rfl, if_neg (by omega)]
      · rw [if_neg z]
    have f3 : FrTm st s3 := fun q i a1 a2 a3 a4 a5 a6 => by rw [o3 q i a2]; exact hf q i a1 a2 a3 a4 a5 a6
    have e46 : s3 99 46 = (cn (asn ar) (4 * n) : Nat) := by rw [o3 99 46 (by omega)]; exact r4.1
    have hle := cn_le (p := asn ar) (4 * n)
    have key : ∀ mm k : Nat, k + mm = cn (asn ar) (4 * n) → (∀ w, w < 4 * n → asn ar w = true → cn (asn ar) w < k → ar w < n) → AW (P 123) Q (MS (d + 3)) 0 (fun _ => 0) 7 [vr 99, vi n, vi k] [] s3 := by
      intro mm
      induction mm with
      | zero =>
        intro k x1 x2
        have hk : k = cn (asn ar) (4 * n) := by omega
        have all : ∀ w, w < 4 * n → ar w < n := by
          intro w hw
          by_cases z : asn ar w = true
          · exact x2 w hw z (by rw [hk]; exact cn_lt hw z)
          · rw [asn_d] at z
            have := Classical.not_not.mp z
            omega
        have e : lsD n ar = none := by
          unfold lsD
          rw [fs_none]
          intro w hw
          rw [decide_eq_false_iff_not]
          have := all w hw
          omega
        rw [e] at hT
        rw [awu 123 7]
        try simp only [awu 123 11, pe123, xs, i_load, i_loadR, i_inc, lg, lp, true_and, and_true, List.length_cons, List.length_nil, Nat.reduceAdd, Nat.reduceLeDiff, Nat.zero_le, Int.toNat_natCast, natLit, k0, e46, ok01_1]
        refine ⟨fun _ => h1 s3 _ hT (by rw [o3 99 42 (by omega)]; exact e42) ⟨by rw [← hs3, up2_self, upf_s], by show n ≤ 200; omega, fun s hs => by rw [o3 120 _ (by omega)]; exact r2 s hs, fun i hi => by rw [o3 121 _ (by omega)]; exact r3 i hi⟩ f3, fun h => absurd (by omega) h⟩
      | succ mm ih =>
        intro k x1 x2
        obtain ⟨w, w1, w2, w3⟩ := cn_ix (p := asn ar) (n := 4 * n) (t := k) (by omega)
        obtain ⟨t1, t2⟩ := r4.2 w w1 w2
        rw [w3] at t1 t2
        have e29 : s3 129 k = ar w := by rw [o3 129 k (by omega)]; exact t1
        have e30 : s3 130 k = (dg w : Nat) := by rw [o3 130 k (by omega)]; exact t2
        have wk : Unit → wr ((k : Int) + 1) = ((k + 1 : Nat) : Int) := fun _ => by rw [wr_id (by omega) (by omega)]; omega
        by_cases z : (n : Int) ≤ ar w
        · have e : lsD n ar = some w := by
            unfold lsD
            rw [fs_some]
            refine ⟨w1, decide_eq_true z, fun w' hw' => ?_⟩
            rw [decide_eq_false_iff_not]
            by_cases zz : asn ar w' = true
            · have hlt := cn_lt hw' zz
              have := x2 w' (by omega) zz (by omega)
              omega
            · rw [asn_d] at zz
              have := Classical.not_not.mp zz
              omega
          rw [e] at hT
          rw [awu 123 7]
          try simp only [awu 123 8, awu 123 9, pe123, xs, i_load, i_loadR, i_inc, lg, lp, true_and, and_true, List.length_cons, List.length_nil, Nat.reduceAdd, Nat.reduceLeDiff, Nat.zero_le, Int.toNat_natCast, natLit, k0, e46, k29, l29, e29, k30, l30, e30]
          refine ⟨fun h => by omega, fun _ => ⟨by omega, fun h => by omega, fun _ => ⟨by omega, ?_⟩⟩⟩
          refine sp_fails ?_
          dsimp only
          try simp only [awu 123 9, pe123, xs, i_load, i_loadR, i_inc, lg, lp, true_and, and_true, List.length_cons, List.length_nil, Nat.reduceAdd, Nat.reduceLeDiff, Nat.zero_le, Int.toNat_natCast, natLit, k0, ok01_0]
          refine h0 _ _ hT (by rw [up2_self, upf_s]) (fun y i a1 a2 a3 a4 a5 a6 => ?_)
          rw [up2_at]
          by_cases zy : y = 99
          · subst zy
            rw [if_pos rfl, if_neg (by omega)]
            exact f3 99 i a1 a2 a3 a4 a5 a6
          · rw [if_neg zy]
            exact f3 y i a1 a2 a3 a4 a5 a6
        · rw [awu 123 7]
          try simp only [awu 123 8, awu 123 10, pe123, xs, i_load, i_loadR, i_inc, lg, lp, true_and, and_true, List.length_cons, List.length_nil, Nat.reduceAdd, Nat.reduceLeDiff, Nat.zero_le, Int.toNat_natCast, natLit, k0, e46, k29, l29, e29, wk ()]
          refine ⟨fun h => by omega, fun _ => ⟨by omega, fun _ => ih (k + 1) (by omega) (fun w' hw' ha' hlt => ?_), fun h => absurd (by omega) h⟩⟩
          by_cases zz : cn (asn ar) w' < k
          · exact x2 w' hw' ha' zz
          · have : w' = w := cn_inj ha' w2 (by omega)
            rw [this]
            omega
    rw [awu 123 6]
    try simp only [awu 123 6, pe123, xs, i_load, i_loadR, i_inc, lg, lp, true_and, and_true, List.length_cons, List.length_nil, Nat.reduceAdd, Nat.reduceLeDiff, Nat.zero_le, Int.toNat_natCast, natLit, k0, k19, l19, z4]
    refine ⟨by omega, ?_⟩
    rw [hs3]
    exact key _ 0 (Nat.zero_add _) (fun w _ _ h => by omega)
  have key : ∀ r s : Nat, ∀ (s2 : St) (X : PS) (u2 : V), s + r = 40 → rdM b c a r s X = G → RVI a c s X → RDm s2 s X.1 (4 * s) X.2.1 X.2.2.1 X.2.2.2 → s2 99 42 = -1 → FrTm st s2 → AW (P 123) Q (MS (d + 3)) 0 (fun _ => 0) 1 [vr 99, vi s, u2] [] s2 := by
    intro r
    induction r with
    | zero =>
      intro s s2 X u2 g1 g2 g3 g4 g4' g5
      have : s = 40 := by omega
      subst this
      have e41 := g4.1
      have I2 := INm_fr hI g5
      have e43 := I2.1
      have g2 : (if X.1 < c then .inl X.1 else .inr (40, X)) = G := g2
      by_cases z : X.1 < c
      · rw [if_pos z] at g2
        rw [← g2] at hT
        rw [awu 123 1]
        try simp only [awu 123 2, awu 123 3, pe123, xs, i_load, i_loadR, i_inc, lg, lp, true_and, and_true, List.length_cons, List.length_nil, Nat.reduceAdd, Nat.reduceLeDiff, Nat.zero_le, Int.toNat_natCast, natLit, k0, e41, e43]
        refine ⟨fun h => absurd h (by decide), fun _ => ⟨fun h => by omega, fun _ => ?_⟩⟩
        refine sp_mreadState40 I2 e41 (fun s3 y1 y2 => ?_)
        dsimp only
        try simp only [awu 123 3, awu 123 4, pe123, xs, i_load, i_loadR, i_inc, lg, lp, true_and, and_true, List.length_cons, List.length_nil, Nat.reduceAdd, Nat.reduceLeDiff, Nat.zero_le, Int.toNat_natCast, natLit, k0, ok01_0]
        exact ⟨fun h => absurd (by trivial) h, fun _ => h0 s3 X.1 hT y1 (FrTm_t g5 y2)⟩
      · rw [if_neg z] at g2
        have := lost s2 40 X u2 (by decide) g2.symm g3 g4 g4' g5
        rw [awu 123 1]
        try simp only [awu 123 2, pe123, xs, i_load, i_loadR, i_inc, lg, lp, true_and, and_true, List.length_cons, List.length_nil, Nat.reduceAdd, Nat.reduceLeDiff, Nat.zero_le, Int.toNat_natCast, natLit, k0, e41, e43]
        exact ⟨fun h => absurd h (by decide), fun _ => ⟨fun _ => this, fun h => absurd (by omega) h⟩⟩
    | succ r ih =>
      intro s s2 X u2 g1 g2 g3 g4 g4' g5
      rw [rdM_s] at g2
      have e41 := g4.1
      have I2 := INm_fr hI g5
      have e43 := I2.1
      have ws : Unit → wr ((s : Int) + 1) = ((s + 1 : Nat) : Int) := fun _ => by rw [wr_id (by omega) (by omega)]; omega
      by_cases z : s ≠ 0 ∧ c ≤ X.1
      · rw [if_pos z] at g2
        have := lost s2 s X u2 (by omega) g2.symm g3 g4 g4' g5
        rw [awu 123 1]
        try simp only [awu 123 2, pe123, xs, i_load, i_loadR, i_inc, lg, lp, true_and, and_true, List.length_cons, List.length_nil, Nat.reduceAdd, Nat.reduceLeDiff, Nat.zero_le, Int.toNat_natCast, natLit, k0, e41, e43]
        exact ⟨fun h => absurd (by omega) z.1, fun _ => ⟨fun _ => this, fun h => absurd (by omega) h⟩⟩
      · rw [if_neg z] at g2
        have go : AW (P 123) Q (MS (d + 3)) 0 (fun _ => 0) 3 [vr 99, vi s, u2] [] s2 := by
          rw [awu 123 3]
          try simp only [awu 123 3, pe123, xs, i_load, i_loadR, i_inc, lg, lp, true_and, and_true, List.length_cons, List.length_nil, Nat.reduceAdd, Nat.reduceLeDiff, Nat.zero_le, Int.toNat_natCast, natLit, k0]
          refine sp_mreadState I2 ha0 ha (frL s2 g5) (by omega) g3 g4 (fun s3 q y1 y2 y3 => ?_) (fun s3 Y y1 y2 y2' y3 => ?_)
          · dsimp only
            rw [y1] at g2
            have g2 : (Sum.inl q : Nat ⊕ (Nat × PS)) = G := g2
            rw [← g2] at hT
            try simp only [awu 123 3, awu 123 4, pe123, xs, i_load, i_loadR, i_inc, lg, lp, true_and, and_true, List.length_cons, List.length_nil, Nat.reduceAdd, Nat.reduceLeDiff, Nat.zero_le, Int.toNat_natCast, natLit, k0, ok01_0]
            exact ⟨fun h => absurd (by trivial) h, fun _ => h0 s3 q hT y2 (FrTm_t g5 y3)⟩
          · dsimp only
            rw [y1] at g2
            try simp only [awu 123 3, awu 123 5, pe123, xs, i_load, i_loadR, i_inc, lg, lp, true_and, and_true, List.length_cons, List.length_nil, Nat.reduceAdd, Nat.reduceLeDiff, Nat.zero_le, Int.toNat_natCast, natLit, k0, ws ()]
            exact ⟨fun _ => ih (s + 1) s3 Y _ (by omega) g2 (rdS_inv ha g3 y1) y2 (by rw [y2']; exact g4') (FrTm_t g5 y3), fun h => absurd (by decide) h⟩
        rw [awu 123 1]
        try simp only [awu 123 2, pe123, xs, i_load, i_loadR, i_inc, lg, lp, true_and, and_true, List.length_cons, List.length_nil, Nat.reduceAdd, Nat.reduceLeDiff, Nat.zero_le, Int.toNat_natCast, natLit, k0, e41, e43]
        exact ⟨fun _ => go, fun _ => ⟨fun h => by omega, fun _ => go⟩⟩
  refine MS_v [vr 99, none, none] rfl rfl rfl rfl ?_
  try simp only [awu 123 0, pe123, xs, i_load, i_loadR, i_inc, lg, lp, true_and, and_true, List.length_cons, List.length_nil, Nat.reduceAdd, Nat.reduceLeDiff, Nat.zero_le, Int.toNat_natCast, natLit, k0]
  refine key 40 0 _ X0 none (by omega) hG ⟨Nat.zero_le _, fun s hs => by omega, fun w hw => by omega, fun s l hs => by omega⟩ ⟨?_, fun s hs => by omega, fun w hw => by omega, ?_, fun w hw => by omega⟩ ?_ (fun y i a1 a2 a3 a4 a5 a6 => ?_)
  · rw [up2_self, upf_n (by decide), up2_self, upf_n (by decide), up2_self, upf_s]
    rfl
  · rw [up2_self, upf_s]
    rfl
  · rw [up2_self, upf_n (by decide), up2_self, upf_s]
  · by_cases zy : y = 99
    · subst zy
      rw [up2_self, upf_n (by omega), up2_self, upf_n (by omega), up2_self, upf_n (by omega)]
    · rw [up2_ne zy, up2_ne zy, up2_ne zy]
theorem sp_mtarget {d c a : Nat} {st : St} {b : Nat → Int} {Q : Rn} (hc : st 99 1 = (c : Nat)) (hc8 : c ≤ 800) (hb : ∀ i, i < c → st 100 i = w8 (b i) ∧ 0 ≤ b i ∧ b i ≤ 255) (ha0 : 0 < a) (ha : a ≤ 4) (hl : st 99 2 = (a : Nat))
    (h0 : ∀ (st' : St) (q : Nat), rdT b c a = .inl q → st' 99 42 = (q : Nat) → st' 99 1 = 0 → (∀ q i, ¬ (q = 99 ∧ (i = 1 ∨ i = 41 ∨ i = 42 ∨ i = 43 ∨ i = 46)) → ¬ (q = 119 ∧ i = 4) → ¬ (q = 120 ∧ 800 ≤ i) → ¬ (q = 121 ∧ 3200 ≤ i) → q ≠ 129 → q ≠ 130 → st' q i = st q i) → Q (vi (-1)) st')
    (h1 : ∀ (st' : St) (M : MC), rdT b c a = .inr M → st' 99 42 = -1 → st' 99 1 = 0 → MCm st' 2 M → (∀ q i, ¬ (q = 99 ∧ (i = 1 ∨ i = 41 ∨ i = 42 ∨ i = 43 ∨ i = 46)) → ¬ (q = 119 ∧ (i = 4 ∨ i = 2)) → ¬ (q = 120 ∧ (800 ≤ i ∨ (400 ≤ i ∧ i < 600))) → ¬ (q = 121 ∧ (3200 ≤ i ∨ (1600 ≤ i ∧ i < 2400))) → q ≠ 129 → q ≠ 130 → st' q i = st q i) → Q (vi (M.1 : Nat)) st') : MS (d + 5) 124 [vr 99] st Q := by
  have k0 : kl 99 = 12 := rfl
  have k19 : kl 119 = 50 := rfl
  have l19 : len 119 = 5 := rfl
  have z2 : ((2 : Int)).toNat = 2 := rfl
  refine MS_v [vr 99, none] rfl rfl rfl rfl ?_
  try simp only [awu 124 0, pe124, xs, i_load, i_loadR, i_inc, lg, lp, true_and, and_true, List.length_cons, List.length_nil, Nat.reduceAdd, Nat.reduceLeDiff, Nat.zero_le, Int.toNat_natCast, natLit, k0, hc]
  have o1 : ∀ q i, ¬ (q = 99 ∧ i = 43) → up2 st 99 43 (c : Int) q i = st q i := fun q i h => by
    rw [up2_at]
    by_cases z : q = 99
    · subst z
      rw [if_pos rfl, if_neg (by omega)]
    · rw [if_neg z]
  have o2 : ∀ (s : St) q i, ¬ (q = 99 ∧ i = 1) → up2 s 99 1 0 q i = s q i := fun s q i h => by
    rw [up2_at]
    by_cases z : q = 99
    · subst z
      rw [if_pos rfl, if_neg (by omega)]
    · rw [if_neg z]
  refine sp_readMachine (b := b) ⟨by rw [up2_self, upf_s], hc8, fun i hi => by rw [o1 100 i (by omega)]; exact hb i hi⟩ ha0 ha (by rw [o1 99 2 (by omega)]; exact hl) (fun s2 q y1 y2 y3 => ?_) (fun s2 M y1 y2 y3 y4 => ?_)
  · dsimp only
    try simp only [awu 124 0, awu 124 1, pe124, xs, i_load, i_loadR, i_inc, lg, lp, true_and, and_true, List.length_cons, List.length_nil, Nat.reduceAdd, Nat.reduceLeDiff, Nat.zero_le, Int.toNat_natCast, natLit, k0]
    refine ⟨fun h => absurd (by trivial) h, fun _ => h0 _ q y1 (by rw [o2 _ 99 42 (by omega)]; exact y2) (by rw [up2_self, upf_s]) (fun y i a1 a2 a3 a4 a5 a6 => ?_)⟩
    rw [o2 _ y i (by omega), y3 y i (by omega) a2 a3 a4 a5 a6, o1 y i (by omega)]
  · dsimp only
    try simp only [awu 124 0, awu 124 2, pe124, xs, i_load, i_loadR, i_inc, lg, lp, true_and, and_true, List.length_cons, List.length_nil, Nat.reduceAdd, Nat.reduceLeDiff, Nat.zero_le, Int.toNat_natCast, natLit, k0]
    refine ⟨fun _ => ?_, fun h => absurd (by decide) h⟩
    refine sp_mcopy (f := 4) (t := 2) (M := M) (MCm_congr y3 (o2 _ 119 4 (by omega)) (fun i _ _ => o2 _ 120 i (by omega)) (fun i _ _ => o2 _ 121 i (by omega))) (by decide) (by decide) (by decide) (fun s3 w1 w2 => ?_)
    dsimp only
    have e19 : s3 119 2 = (M.1 : Nat) := w1.1
    try simp only [awu 124 2, pe124, xs, i_load, i_loadR, i_inc, lg, lp, true_and, and_true, List.length_cons, List.length_nil, Nat.reduceAdd, Nat.reduceLeDiff, Nat.zero_le, Int.toNat_natCast, natLit, k0, k19, l19, z2, e19]
    refine ⟨by omega, h1 s3 M y1 ?_ ?_ w1 (fun y i a1 a2 a3 a4 a5 a6 => ?_)⟩
    · rw [w2 99 42 (by omega) (by omega) (by omega), o2 _ 99 42 (by omega)]
      exact y2
    · rw [w2 99 1 (by omega) (by omega) (by omega), up2_self, upf_s]
    · rw [w2 y i (by omega) (by omega) (by omega), o2 _ y i (by omega), y4 y i (by omega) (by omega) (by omega) (by omega) a5 a6, o1 y i (by omega)]
