/-! red and blue: the reference -/
theorem fl_q {n q r l : Nat} {F : FS} (hL : LA n q F) (hr : r < n) (h1 : q ≤ l) (h2 : l < 4) : fl F n (r : Int) l = -1 := by
  unfold fl
  rw [if_neg]
  rw [Int.toNat_natCast, hL r l hr h1 h2]
  exact fun h => h.2.2.2 rfl
theorem bhl_q {n q r k : Nat} {F : FS} (hL : LA n q F) (hr : r < n) : ∀ l, q ≤ l → l ≤ 4 → bhl F n r k l = bhl F n r k q
  | 0, h1, _ => by
    have : q = 0 := by omega
    subst this
    rfl
  | l + 1, h1, h2 => by
    rcases Nat.lt_or_ge q (l + 1) with z | z
    · rw [bhl_s, fl_q hL hr (by omega) (by omega), bhl_q hL hr l (by omega) (by omega)]
      have : ((-1 : Int) == (k : Int)) = false := beq_eq_false_iff_ne.mpr (by omega)
      rw [this, Bool.or_false]
    · have : q = l + 1 := by omega
      subst this
      rfl
theorem bhl_up {n r k l : Nat} {F : FS} (h : bhl F n r k l = true) : ∀ m, l ≤ m → bhl F n r k m = true
  | 0, h1 => by
    have : l = 0 := by omega
    subst this
    exact h
  | m + 1, h1 => by
    rcases Nat.lt_or_ge l (m + 1) with z | z
    · rw [bhl_s, bhl_up h m (by omega), Bool.true_or]
    · have : l = m + 1 := by omega
      subst this
      exact h
theorem bh_up {n k r : Nat} {F : FS} (h : bh F n k r = true) : ∀ m, r ≤ m → bh F n k m = true
  | 0, h1 => by
    have : r = 0 := by omega
    subst this
    exact h
  | m + 1, h1 => by
    rcases Nat.lt_or_ge r (m + 1) with z | z
    · rw [bh_s, bh_up h m (by omega), Bool.true_or]
    · have : r = m + 1 := by omega
      subst this
      exact h
theorem sp_mblue {d n q k : Nat} {st : St} {F : FS} {Q : Rn} (hn : n ≤ 120) (hq4 : q ≤ 4) (hC : MR st n q F) (hF : FI n F) (hL : LA n q F) (hk : k < n) (hq : Q (vi (if blB F n k then 1 else 0)) st) : MS (d + 3) 68 [vr 99, vi k] st Q := by
  have k0 : kl 99 = 12 := rfl
  have k11 : kl 111 = 52 := rfl
  have l11 : len 111 = 161 := rfl
  have k12 : kl 112 = 50 := rfl
  have l12 : len 112 = 644 := rfl
  have h14 := hC.1
  have h2 := hC.2.1
  have e11 : ∀ r, r < n → st 111 r = F.2.2.1 r := fun r hr => (hC.2.2.1 r hr).2.2
  refine MS_v [vr 99, vi k, none, none] rfl rfl rfl rfl ?_
  try simp only [awu 68 0, pe68, xs, i_load, i_loadR, i_inc, lg, lp, true_and, and_true, List.length_cons, List.length_nil, Nat.reduceAdd, Nat.reduceLeDiff, Nat.zero_le, Int.toNat_natCast, natLit, k0]
  refine sp_mname hn hC (fun h => ?_) (fun h => ?_)
  · rw [isN_nat hk] at h
    dsimp only
    try simp only [awu 68 1, awu 68 2, awu 68 3, pe68, xs, i_load, i_loadR, i_inc, lg, lp, true_and, and_true, List.length_cons, List.length_nil, Nat.reduceAdd, Nat.reduceLeDiff, Nat.zero_le, Int.toNat_natCast, natLit, k0, k11, l11, e11 k hk]
    refine ⟨fun h => absurd h (by decide), fun _ => ⟨by omega, ?_⟩⟩
    have hr01 := hF.2.2.1 k hk
    by_cases hr : F.2.2.1 k = 1
    · have hb : blB F n k = false := by unfold blB; simp [hr]
      rw [hb] at hq
      rw [hr]
      exact ⟨fun h => absurd h (by decide), fun _ => ⟨ok01_0, hq⟩⟩
    · have hr0 : F.2.2.1 k = 0 := by rcases hr01 with e | e <;> omega
      have hb : blB F n k = bh F n k n := by unfold blB; simp [hr, h]
      rw [hb] at hq
      rw [hr0]
      refine ⟨fun _ => ?_, fun h => absurd rfl h⟩
      clear hr01 hr0 hr
      have keyl : ∀ r, r < n → rdB F r = true → (bhl F n r k 4 = false → ∀ u : V, AW (P 68) Q (MS (d + 2)) 0 (fun _ => 0) 14 [vr 99, vi k, vi r, u] [] st) → ∀ m l : Nat, l + m = q → bhl F n r k l = false → AW (P 68) Q (MS (d + 2)) 0 (fun _ => 0) 9 [vr 99, vi k, vi r, vi l] [] st := by
        intro r hr hrd hcont m
        have hrn := ((rdB_d (n := n)).mp hrd).1
        induction m with
        | zero =>
          intro l g1 g2
          have : l = q := by omega
          subst this
          rw [awu 68 9]
          try simp only [awu 68 9, pe68, xs, i_load, i_loadR, i_inc, lg, lp, true_and, and_true, List.length_cons, List.length_nil, Nat.reduceAdd, Nat.reduceLeDiff, Nat.zero_le, Int.toNat_natCast, natLit, k0, h2]
          exact ⟨fun _ => hcont (by rw [bhl_q hL hr 4 hq4 (Nat.le_refl _)]; exact g2) _, fun h => absurd (Int.le_refl _) h⟩
        | succ m ih =>
          intro l g1 g2
          have ew : Unit → wr ((l : Int) + 1) = ((l + 1 : Nat) : Int) := fun _ => by rw [wr_id (by omega) (by omega)]; omega
          have e1 : Unit → wr (4 * (r : Int)) = ((4 * r : Nat) : Int) := fun _ => by rw [wr_id (by omega) (by omega)]; omega
          have e2 : Unit → wr (((4 * r : Nat) : Int) + (l : Int)) = ((4 * r + l : Nat) : Int) := fun _ => by rw [wr_id (by omega) (by omega)]; omega
          have e4 := hC.2.2.2.1 (4 * r + l) (by omega)
          have hbd := hF.2.2.2 (4 * r + l) (by omega)
          have hfl : fl F n (r : Int) l = if F.2.2.2 (4 * r + l) ≠ -1 then (rt F.1 (F.2.2.2 (4 * r + l)).toNat : Int) else -1 := by
            unfold fl
            rw [Int.toNat_natCast]
            by_cases z : F.2.2.2 (4 * r + l) ≠ -1
            · rw [if_pos ⟨by omega, by omega, hrn, z⟩, if_pos z]
            · rw [if_neg (fun y => z y.2.2.2), if_neg z]
          rw [awu 68 9]
          try simp only [awu 68 10, awu 68 13, pe68, xs, i_load, i_loadR, i_inc, lg, lp, true_and, and_true, List.length_cons, List.length_nil, Nat.reduceAdd, Nat.reduceLeDiff, Nat.zero_le, Int.toNat_natCast, natLit, k0, h2, k12, l12, e1 (), e2 (), e4, ew ()]
          refine ⟨fun h => by omega, fun _ => ⟨by omega, fun h => ?_, fun h => ?_⟩⟩
          · rw [if_neg (fun z => z h)] at hfl
            refine ih (l + 1) (by omega) ?_
            rw [bhl_s, g2, hfl, Bool.false_or]
            exact beq_eq_false_iff_ne.mpr (by omega)
          · rw [if_pos h] at hfl
            have e5 : F.2.2.2 (4 * r + l) = (((F.2.2.2 (4 * r + l)).toNat : Nat) : Int) := by omega
            try simp only [awu 68 11, pe68, xs, i_load, i_loadR, i_inc, lg, lp, true_and, and_true, List.length_cons, List.length_nil, Nat.reduceAdd, Nat.reduceLeDiff, Nat.zero_le, Int.toNat_natCast, natLit, k0, k12, l12, e1 (), e2 (), e4]
            refine ⟨by omega, ?_⟩
            rw [e5]
            refine sp_mnof hn hC hF (by omega) ?_
            dsimp only
            try simp only [awu 68 12, awu 68 13, pe68, xs, i_load, i_loadR, i_inc, lg, lp, true_and, and_true, List.length_cons, List.length_nil, Nat.reduceAdd, Nat.reduceLeDiff, Nat.zero_le, Int.toNat_natCast, natLit, k0, ew ()]
            refine ⟨fun h3 => ?_, fun h3 => ?_⟩
            · refine ih (l + 1) (by omega) ?_
              rw [bhl_s, g2, hfl, Bool.false_or]
              exact beq_eq_false_iff_ne.mpr h3
            · have hb1 : bhl F n r k (l + 1) = true := by
                rw [bhl_s, g2, hfl, Bool.false_or]
                exact beq_iff_eq.mpr (by omega)
              have hb2 : bh F n k (r + 1) = true := by
                rw [bh_s, hrd, bhl_up hb1 4 (by omega)]
                simp
              rw [bh_up hb2 n (by omega)] at hq
              exact ⟨ok01_1, hq⟩
      have key : ∀ m r : Nat, ∀ u : V, r + m = n → bh F n k r = false → AW (P 68) Q (MS (d + 2)) 0 (fun _ => 0) 4 [vr 99, vi k, vi r, u] [] st := by
        intro m
        induction m with
        | zero =>
          intro r u g1 g2
          have : r = n := by omega
          subst this
          rw [g2] at hq
          rw [awu 68 4]
          try simp only [awu 68 15, pe68, xs, i_load, i_loadR, i_inc, lg, lp, true_and, and_true, List.length_cons, List.length_nil, Nat.reduceAdd, Nat.reduceLeDiff, Nat.zero_le, Int.toNat_natCast, natLit, k0, h14]
          exact ⟨fun _ => ⟨ok01_0, hq⟩, fun h => by omega⟩
        | succ m ih =>
          intro r u g1 g2
          have ew : Unit → wr ((r : Int) + 1) = ((r + 1 : Nat) : Int) := fun _ => by rw [wr_id (by omega) (by omega)]; omega
          have nxt : bh F n k (r + 1) = false → ∀ u : V, AW (P 68) Q (MS (d + 2)) 0 (fun _ => 0) 14 [vr 99, vi k, vi r, u] [] st := by
            intro hb u
            rw [awu 68 14]
            try simp only [awu 68 14, pe68, xs, i_load, i_loadR, i_inc, lg, lp, true_and, and_true, List.length_cons, List.length_nil, Nat.reduceAdd, Nat.reduceLeDiff, Nat.zero_le, Int.toNat_natCast, natLit, k0, ew ()]
            exact ih (r + 1) u (by omega) hb
          rw [awu 68 4]
          try simp only [awu 68 5, pe68, xs, i_load, i_loadR, i_inc, lg, lp, true_and, and_true, List.length_cons, List.length_nil, Nat.reduceAdd, Nat.reduceLeDiff, Nat.zero_le, Int.toNat_natCast, natLit, k0, h14]
          refine ⟨fun h => by omega, fun _ => ?_⟩
          refine sp_mname hn hC (fun h => ?_) (fun h => ?_)
          · rw [isN_nat (by omega)] at h
            dsimp only
            try simp only [awu 68 6, awu 68 7, awu 68 8, pe68, xs, i_load, i_loadR, i_inc, lg, lp, true_and, and_true, List.length_cons, List.length_nil, Nat.reduceAdd, Nat.reduceLeDiff, Nat.zero_le, Int.toNat_natCast, natLit, k0, k11, l11, e11 r (by omega)]
            refine ⟨fun h => absurd h (by decide), fun _ => ⟨by omega, fun h3 => ?_, fun h3 => ?_⟩⟩
            · have hrd : rdB F r = true := (rdB_d (n := n)).mpr ⟨h, by rcases hF.2.2.1 r (by omega) with e | e <;> omega⟩
              exact keyl r (by omega) hrd (fun hb u => nxt (by rw [bh_s, g2, hb]; simp) u) q 0 (by omega) rfl
            · have hrd : rdB F r = false := by
                unfold rdB
                rw [show F.2.2.1 r = 0 by omega]
                simp
              exact nxt (by rw [bh_s, g2, hrd]; simp) u
          · rw [isN_nat (by omega)] at h
            dsimp only
            try simp only [awu 68 6, pe68, xs, i_load, i_loadR, i_inc, lg, lp, true_and, and_true, List.length_cons, List.length_nil, Nat.reduceAdd, Nat.reduceLeDiff, Nat.zero_le, Int.toNat_natCast, natLit, k0]
            refine ⟨fun _ => ?_, fun h => absurd trivial h⟩
            have hrd : rdB F r = false := by
              unfold rdB
              simp [h]
            exact nxt (by rw [bh_s, g2, hrd]; simp) u
      exact key n 0 none (by omega) rfl
  · rw [isN_nat hk] at h
    have hb : blB F n k = false := by unfold blB; simp [h]
    rw [hb] at hq
    dsimp only
    try simp only [awu 68 2, pe68, xs, i_load, i_loadR, i_inc, lg, lp, true_and, and_true, List.length_cons, List.length_nil, Nat.reduceAdd, Nat.reduceLeDiff, Nat.zero_le, Int.toNat_natCast, natLit, k0]
    exact ⟨fun _ => ⟨ok01_0, hq⟩, fun h => absurd trivial h⟩
def LB (p : Nat → Bool) (n fr : Nat) (r : Int) : Prop := (r = -1 ∧ ∀ k, fr ≤ k → k < n → p k = false) ∨ ∃ k : Nat, r = k ∧ fr ≤ k ∧ k < n ∧ p k = true ∧ ∀ j, fr ≤ j → j < k → p j = false
theorem sp_lblue {d n q fr : Nat} {st : St} {F : FS} {Q : Rn} (hn : n ≤ 120) (hq4 : q ≤ 4) (hC : MR st n q F) (hF : FI n F) (hL : LA n q F) (hfr : fr ≤ n) (hq : ∀ r, LB (blB F n) n fr r → Q (vi r) st) : MS (d + 4) 69 [vr 99, vi fr] st Q := by
  have k0 : kl 99 = 12 := rfl
  have h14 := hC.1
  have key : ∀ m k : Nat, k + m = n → fr ≤ k → (∀ j, fr ≤ j → j < k → blB F n j = false) → AW (P 69) Q (MS (d + 3)) 0 (fun _ => 0) 1 [vr 99, vi fr, vi k] [] st := by
    intro m
    induction m with
    | zero =>
      intro k g1 g2 g3
      have : k = n := by omega
      subst this
      rw [awu 69 1]
      try simp only [awu 69 5, pe69, xs, i_load, i_loadR, i_inc, lg, lp, true_and, and_true, List.length_cons, List.length_nil, Nat.reduceAdd, Nat.reduceLeDiff, Nat.zero_le, Int.toNat_natCast, natLit, k0, h14]
      exact ⟨fun _ => hq (-1) (Or.inl ⟨rfl, g3⟩), fun h => by omega⟩
    | succ m ih =>
      intro k g1 g2 g3
      have ew : Unit → wr ((k : Int) + 1) = ((k + 1 : Nat) : Int) := fun _ => by rw [wr_id (by omega) (by omega)]; omega
      rw [awu 69 1]
      try simp only [awu 69 2, pe69, xs, i_load, i_loadR, i_inc, lg, lp, true_and, and_true, List.length_cons, List.length_nil, Nat.reduceAdd, Nat.reduceLeDiff, Nat.zero_le, Int.toNat_natCast, natLit, k0, h14]
      refine ⟨fun h => by omega, fun _ => ?_⟩
      refine sp_mblue hn hq4 hC hF hL (show k < n by omega) ?_
      dsimp only
      try simp only [awu 69 3, awu 69 4, pe69, xs, i_load, i_loadR, i_inc, lg, lp, true_and, and_true, List.length_cons, List.length_nil, Nat.reduceAdd, Nat.reduceLeDiff, Nat.zero_le, Int.toNat_natCast, natLit, k0, ew ()]
      by_cases hb : blB F n k = true
      · rw [if_pos hb]
        exact ⟨fun h => absurd h (by decide), fun _ => hq k (Or.inr ⟨k, rfl, g2, by omega, hb, g3⟩)⟩
      · rw [if_neg hb]
        refine ⟨fun _ => ih (k + 1) (by omega) (by omega) (fun j h1 h2 => ?_), fun h => absurd rfl h⟩
        rcases Nat.lt_or_ge j k with z | z
        · exact g3 j h1 z
        · have : j = k := by omega
          subst this
          simpa using hb
  refine MS_v [vr 99, vi fr, none] rfl rfl rfl rfl ?_
  try simp only [awu 69 0, pe69, xs, i_load, i_loadR, i_inc, lg, lp, true_and, and_true, List.length_cons, List.length_nil, Nat.reduceAdd, Nat.reduceLeDiff, Nat.zero_le, Int.toNat_natCast, natLit, k0]
  exact key (n - fr) fr (by omega) (Nat.le_refl _) (fun j h1 h2 => by omega)
theorem sp_mred {d n q k : Nat} {st : St} {F : FS} {kk b1 b2 b3 : Nat} (hn : n ≤ 120) (hC : MR st n q F) (hF : FI n F) (hk : k < n) : (F.1 k = k → st 111 k = (if rdB F k then 1 else 0)) ∧ (¬ F.1 k = k → rdB F k = false) := by
  refine ⟨fun h => ?_, fun h => ?_⟩
  · rw [(hC.2.2.1 k hk).2.2]
    unfold rdB
    rcases hF.2.2.1 k hk with e | e
    · rw [e]; simp
    · rw [e]; simp [h]
  · unfold rdB
    simp [h]
theorem sp_redMany {d n q : Nat} {st : St} {F : FS} {Q : Rn} (hn : n ≤ 120) (hC : MR st n q F) (hF : FI n F) (hq : Q (vi (cn (rdB F) n : Nat)) st) : MS (d + 3) 86 [vr 99] st Q := by
  have k0 : kl 99 = 12 := rfl
  have k11 : kl 111 = 52 := rfl
  have l11 : len 111 = 161 := rfl
  have h14 := hC.1
  have key : ∀ m k : Nat, k + m = n → AW (P 86) Q (MS (d + 2)) 0 (fun _ => 0) 1 [vr 99, vi (cn (rdB F) k : Nat), vi k] [] st := by
    intro m
    induction m with
    | zero =>
      intro k g1
      have : k = n := by omega
      subst this
      rw [awu 86 1]
      try simp only [awu 86 7, pe86, xs, i_load, i_loadR, i_inc, lg, lp, true_and, and_true, List.length_cons, List.length_nil, Nat.reduceAdd, Nat.reduceLeDiff, Nat.zero_le, Int.toNat_natCast, natLit, k0, h14]
      exact ⟨fun _ => hq, fun h => by omega⟩
    | succ m ih =>
      intro k g1
      have hc : cn (rdB F) k ≤ k := cn_le k
      have ew : Unit → wr ((k : Int) + 1) = ((k + 1 : Nat) : Int) := fun _ => by rw [wr_id (by omega) (by omega)]; omega
      have w0 : Unit → wr (((cn (rdB F) k : Nat) : Int) + 0) = ((cn (rdB F) k : Nat) : Int) := fun _ => by rw [wr_id (by omega) (by omega)]; omega
      have w1 : Unit → wr (((cn (rdB F) k : Nat) : Int) + 1) = ((cn (rdB F) k + 1 : Nat) : Int) := fun _ => by rw [wr_id (by omega) (by omega)]; omega
      obtain ⟨m1, m2⟩ := sp_mred (d := d) (kk := 0) (b1 := 0) (b2 := 0) (b3 := 0) hn hC hF (show k < n by omega)
      have ih := ih (k + 1) (by omega)
      rw [awu 86 1]
      try simp only [awu 86 2, pe86, xs, i_load, i_loadR, i_inc, lg, lp, true_and, and_true, List.length_cons, List.length_nil, Nat.reduceAdd, Nat.reduceLeDiff, Nat.zero_le, Int.toNat_natCast, natLit, k0, h14]
      refine ⟨fun h => by omega, fun _ => ?_⟩
      refine sp_mname hn hC (fun h => ?_) (fun h => ?_)
      · rw [isN_nat (by omega)] at h
        dsimp only
        try simp only [awu 86 3, awu 86 4, awu 86 5, awu 86 6, pe86, xs, i_load, i_loadR, i_inc, lg, lp, true_and, and_true, List.length_cons, List.length_nil, Nat.reduceAdd, Nat.reduceLeDiff, Nat.zero_le, Int.toNat_natCast, natLit, k0, k11, l11, m1 h, ew (), w0 (), w1 ()]
        refine ⟨fun h => absurd h (by decide), fun _ => ⟨by omega, ?_⟩⟩
        by_cases hr : rdB F k = true
        · rw [if_pos hr]
          rw [cn_s, if_pos hr] at ih
          exact ⟨fun h => absurd h (by decide), fun _ => ih⟩
        · rw [if_neg hr]
          rw [cn_s, if_neg hr] at ih
          exact ⟨fun _ => ih, fun h => absurd rfl h⟩
      · rw [isN_nat (by omega)] at h
        rw [cn_s, m2 h] at ih
        dsimp only
        try simp only [awu 86 5, awu 86 6, pe86, xs, i_load, i_loadR, i_inc, lg, lp, true_and, and_true, List.length_cons, List.length_nil, Nat.reduceAdd, Nat.reduceLeDiff, Nat.zero_le, Int.toNat_natCast, natLit, k0, ew (), w0 ()]
        exact ⟨fun _ => ih, fun h => absurd trivial h⟩
  refine MS_v [vr 99, none, none] rfl rfl rfl rfl ?_
  try simp only [awu 86 0, pe86, xs, i_load, i_loadR, i_inc, lg, lp, true_and, and_true, List.length_cons, List.length_nil, Nat.reduceAdd, Nat.reduceLeDiff, Nat.zero_le, Int.toNat_natCast, natLit, k0]
  exact key n 0 (by omega)
theorem sp_blueMany {d n q : Nat} {st : St} {F : FS} {Q : Rn} (hn : n ≤ 120) (hq4 : q ≤ 4) (hC : MR st n q F) (hF : FI n F) (hL : LA n q F) (hq : Q (vi (cn (blB F n) n : Nat)) st) : MS (d + 4) 87 [vr 99] st Q := by
  have k0 : kl 99 = 12 := rfl
  have h14 := hC.1
  have key : ∀ m k : Nat, k + m = n → AW (P 87) Q (MS (d + 3)) 0 (fun _ => 0) 1 [vr 99, vi (cn (blB F n) k : Nat), vi k] [] st := by
    intro m
    induction m with
    | zero =>
      intro k g1
      have : k = n := by omega
      subst this
      rw [awu 87 1]
      try simp only [awu 87 6, pe87, xs, i_load, i_loadR, i_inc, lg, lp, true_and, and_true, List.length_cons, List.length_nil, Nat.reduceAdd, Nat.reduceLeDiff, Nat.zero_le, Int.toNat_natCast, natLit, k0, h14]
      exact ⟨fun _ => hq, fun h => by omega⟩
    | succ m ih =>
      intro k g1
      have hc : cn (blB F n) k ≤ k := cn_le k
      have ew : Unit → wr ((k : Int) + 1) = ((k + 1 : Nat) : Int) := fun _ => by rw [wr_id (by omega) (by omega)]; omega
      have w0 : Unit → wr (((cn (blB F n) k : Nat) : Int) + 0) = ((cn (blB F n) k : Nat) : Int) := fun _ => by rw [wr_id (by omega) (by omega)]; omega
      have w1 : Unit → wr (((cn (blB F n) k : Nat) : Int) + 1) = ((cn (blB F n) k + 1 : Nat) : Int) := fun _ => by rw [wr_id (by omega) (by omega)]; omega
      have ih := ih (k + 1) (by omega)
      rw [awu 87 1]
      try simp only [awu 87 2, pe87, xs, i_load, i_loadR, i_inc, lg, lp, true_and, and_true, List.length_cons, List.length_nil, Nat.reduceAdd, Nat.reduceLeDiff, Nat.zero_le, Int.toNat_natCast, natLit, k0, h14]
      refine ⟨fun h => by omega, fun _ => ?_⟩
      refine sp_mblue hn hq4 hC hF hL (show k < n by omega) ?_
      dsimp only
      try simp only [awu 87 3, awu 87 4, awu 87 5, pe87, xs, i_load, i_loadR, i_inc, lg, lp, true_and, and_true, List.length_cons, List.length_nil, Nat.reduceAdd, Nat.reduceLeDiff, Nat.zero_le, Int.toNat_natCast, natLit, k0, ew (), w0 (), w1 ()]
      by_cases hr : blB F n k = true
      · rw [if_pos hr]
        rw [cn_s, if_pos hr] at ih
        exact ⟨fun h => absurd h (by decide), fun _ => ih⟩
      · rw [if_neg hr]
        rw [cn_s, if_neg hr] at ih
        exact ⟨fun _ => ih, fun h => absurd rfl h⟩
  refine MS_v [vr 99, none, none] rfl rfl rfl rfl ?_
  try simp only [awu 87 0, pe87, xs, i_load, i_loadR, i_inc, lg, lp, true_and, and_true, List.length_cons, List.length_nil, Nat.reduceAdd, Nat.reduceLeDiff, Nat.zero_le, Int.toNat_natCast, natLit, k0]
  exact key n 0 (by omega)
