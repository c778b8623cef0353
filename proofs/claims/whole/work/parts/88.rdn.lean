/-! a whole text is read: the reference -/
set_option maxHeartbeats 2000000 in
theorem sp_mreadState {d c a n : Nat} {st : St} {b : Nat → Int} {X : PS} {Q : Rn} (hI : INm st b c) (ha0 : 0 < a) (ha : a ≤ 4) (hl : st 99 2 = (a : Nat)) (hn : n < 40) (hV : RVI a c n X) (hR : RDm st n X.1 (4 * n) X.2.1 X.2.2.1 X.2.2.2)
    (h0 : ∀ (st' : St) (q : Nat), rdS b c a n X = .inl q → st' 99 42 = (q : Nat) → FrTm st st' → Q (vi 0) st')
    (h1 : ∀ (st' : St) (Y : PS), rdS b c a n X = .inr Y → RDm st' (n + 1) Y.1 (4 * (n + 1)) Y.2.1 Y.2.2.1 Y.2.2.2 → st' 99 42 = st 99 42 → FrTm st st' → Q (vi 1) st') : MS (d + 3) 122 [vr 99, vi n] st Q := by
  have k0 : kl 99 = 12 := rfl
  have k20 : kl 120 = 50 := rfl
  have l20 : len 120 = 1000 := rfl
  obtain ⟨p, mk, ar, dg⟩ := X
  obtain ⟨v1, v2, v3, v4⟩ := id hV
  obtain ⟨r1, r2, r3, r4⟩ := id hR
  dsimp only at v1 v2 v3 v4 r1 r2 r3 r4
  have hc := hI.2.1
  have w1 : ∀ p : Nat, p ≤ c → Unit → wr ((p : Int) + 1) = ((p + 1 : Nat) : Int) := fun p hp _ => by rw [wr_id (by omega) (by omega)]; omega
  have bb : ∀ p, -1 ≤ bA b c p ∧ bA b c p ≤ 255 := fun p => by
    unfold bA
    split
    · have := hI.2.2 p (by assumption)
      omega
    · omega
  have frL : ∀ s2, FrTm st s2 → s2 99 2 = (a : Nat) := fun s2 h => by rw [h 99 2 (by omega) (by omega) (by omega) (by omega) (by omega) (by omega)]; exact hl
  have eU : rdS b c a n (p, mk, ar, dg) = if mkO (bA b c p) = -1 then .inl p else match rdL b c n a 0 (p + 1) (clA ar n) dg with
    | .inl p => .inl p
    | .inr (q, ar, dg) => if bA b c q = 59 then .inr (q + 1, upf mk n (mkO (bA b c p)), ar, dg) else .inl q := rfl
  have fail : ∀ (s2 : St) (q : Nat) (k : Nat) (u2 u3 u4 : V), rdS b c a n (p, mk, ar, dg) = .inl q → s2 99 41 = (q : Nat) → FrTm st s2 → MS (d + 2) 119 [vr 99, vi (q : Nat)] s2 (fun v st' => match v with | some x => ok01 (match x with | .inl y => y | .inr _ => 0) ∧ Q (some x) st' | none => False) := by
    intro s2 q k u2 u3 u4 e x1 x2
    refine sp_fails ?_
    refine ⟨ok01_0, h0 _ q e (by rw [up2_self, upf_s]) (fun y i a b' c' d' e' f => ?_)⟩
    rw [up2_at]
    by_cases zy : y = 99
    · subst zy
      rw [if_pos rfl, if_neg (by omega)]
      exact x2 99 i a b' c' d' e' f
    · rw [if_neg zy]
      exact x2 y i a b' c' d' e' f
  refine MS_v [vr 99, vi n, none, none, none] rfl rfl rfl rfl ?_
  try simp only [awu 122 0, pe122, xs, i_load, i_loadR, i_inc, lg, lp, true_and, and_true, List.length_cons, List.length_nil, Nat.reduceAdd, Nat.reduceLeDiff, Nat.zero_le, Int.toNat_natCast, natLit, k0]
  refine sp_here hI r1 ?_
  dsimp only
  try simp only [awu 122 0, pe122, xs, i_load, i_loadR, i_inc, lg, lp, true_and, and_true, List.length_cons, List.length_nil, Nat.reduceAdd, Nat.reduceLeDiff, Nat.zero_le, Int.toNat_natCast, natLit, k0]
  refine sp_sign' ?_
  dsimp only
  by_cases z : mkO (bA b c p) = -1
  · rw [if_pos z] at eU
    rw [z]
    try simp only [awu 122 0, awu 122 2, pe122, xs, i_load, i_loadR, i_inc, lg, lp, true_and, and_true, List.length_cons, List.length_nil, Nat.reduceAdd, Nat.reduceLeDiff, Nat.zero_le, Int.toNat_natCast, natLit, k0, r1]
    refine ⟨fun _ => ?_, fun h => absurd (by trivial) h⟩
    refine sp_fails ?_
    dsimp only
    try simp only [awu 122 2, pe122, xs, i_load, i_loadR, i_inc, lg, lp, true_and, and_true, List.length_cons, List.length_nil, Nat.reduceAdd, Nat.reduceLeDiff, Nat.zero_le, Int.toNat_natCast, natLit, k0, ok01_0]
    refine h0 _ p eU (by rw [up2_self, upf_s]) (fun y i a b' c' d' e' f => ?_)
    rw [up2_at]
    by_cases zy : y = 99
    · subst zy
      rw [if_pos rfl, if_neg (by omega)]
    · rw [if_neg zy]
  · rw [if_neg z] at eU
    have hlt : p < c := bA_n (b := b) (fun e => z (by rw [e]; rfl))
    have wp := w1 p v1
    generalize hL : rdL b c n a 0 (p + 1) (clA ar n) dg = L at eU
    -- the letters
    have keyl : ∀ f : Nat, ∀ (m l : Nat) (s2 : St) (p' : Nat) (ar' : Nat → Int) (dg' : Nat → Nat) (u4 : V), m ≤ f → l + m = a → p' ≤ c → rdL b c n m l p' ar' dg' = L → RDm s2 (n + 1) p' (4 * n + l) (upf mk n (mkO (bA b c p))) ar' dg' → (∀ w, 4 * n + l ≤ w → w < 4 * n + 4 → ar' w = -1) → s2 99 42 = st 99 42 → FrTm st s2 → AW (P 122) Q (MS (d + 2)) 0 (fun _ => 0) 7 [vr 99, vi n, vi (mkO (bA b c p)), vi l, u4] [] s2 := by
      intro f
      induction f with
      | zero =>
        intro m l s2 p' ar' dg' u4 x0 x1 x2 x3 x4 x5 x5' x6
        have hm : m = 0 := by omega
        subst hm
        have hla : l = a := by omega
        subst hla
        have I2 := INm_fr hI x6
        have e41 := x4.1
        have e2 := frL s2 x6
        have x3 : (Sum.inr (p', ar', dg') : Nat ⊕ (Nat × (Nat → Int) × (Nat → Nat))) = L := x3
        rw [← x3] at eU
        dsimp only at eU
        have wp' := w1 p' x2
        have bb' := bb p'
        have w97 : Unit → wr (bA b c p' - 97) = bA b c p' - 97 := fun _ => by rw [wr_id (by omega) (by omega)]
        have wa : Unit → wr ((l : Int) - 1) = (l : Int) - 1 := fun _ => by rw [wr_id (by omega) (by omega)]
        rw [awu 122 7]
        try simp only [awu 122 7, pe122, xs, i_load, i_loadR, i_inc, lg, lp, true_and, and_true, List.length_cons, List.length_nil, Nat.reduceAdd, Nat.reduceLeDiff, Nat.zero_le, Int.toNat_natCast, natLit, k0]
        refine sp_here I2 e41 ?_
        dsimp only
        try simp only [awu 122 7, pe122, xs, i_load, i_loadR, i_inc, lg, lp, true_and, and_true, List.length_cons, List.length_nil, Nat.reduceAdd, Nat.reduceLeDiff, Nat.zero_le, Int.toNat_natCast, natLit, k0, w97 (), e2, wa ()]
        refine sp_isIn ?_
        dsimp only
        rw [if_neg (by omega)]
        try simp only [awu 122 7, awu 122 11, pe122, xs, i_load, i_loadR, i_inc, lg, lp, true_and, and_true, List.length_cons, List.length_nil, Nat.reduceAdd, Nat.reduceLeDiff, Nat.zero_le, Int.toNat_natCast, natLit, k0]
        refine ⟨fun _ => ?_, fun h => absurd (by trivial) h⟩
        refine sp_here I2 e41 ?_
        dsimp only
        by_cases z2 : bA b c p' = 59
        · rw [if_pos z2] at eU
          rw [z2]
          try simp only [awu 122 11, awu 122 13, pe122, xs, i_load, i_loadR, i_inc, lg, lp, true_and, and_true, List.length_cons, List.length_nil, Nat.reduceAdd, Nat.reduceLeDiff, Nat.zero_le, Int.toNat_natCast, natLit, k0, e41, wp' (), ok01_1]
          refine ⟨fun _ => h1 _ _ eU ⟨by rw [up2_self, upf_s], fun s hs => by rw [up2_ne (by decide)]; exact x4.2.1 s hs, fun w hw => by rw [up2_ne (by decide)]; exact x4.2.2.1 w hw, TLs_congr (TLs_up x4.2.2.2 (W' := 4 * (n + 1)) (by omega) (fun w h1 h2 => x5 w h1 (by omega))) (fun _ _ => ⟨rfl, rfl⟩) (by rw [up2_self, upf_n (by decide)]) (fun i _ => by rw [up2_ne (by decide), up2_ne (by decide)]; exact ⟨rfl, rfl⟩)⟩ (by rw [up2_self, upf_n (by decide)]; exact x5') (fun y i a b' c' d' e' f => ?_), fun h => absurd (by trivial) h⟩
          rw [up2_at]
          by_cases zy : y = 99
          · subst zy
            rw [if_pos rfl, if_neg (by omega)]
            exact x6 99 i a b' c' d' e' f
          · rw [if_neg zy]
            exact x6 y i a b' c' d' e' f
        · rw [if_neg z2] at eU
          try simp only [awu 122 11, awu 122 12, pe122, xs, i_load, i_loadR, i_inc, lg, lp, true_and, and_true, List.length_cons, List.length_nil, Nat.reduceAdd, Nat.reduceLeDiff, Nat.zero_le, Int.toNat_natCast, natLit, k0, e41]
          refine ⟨fun h => absurd h z2, fun _ => ?_⟩
          refine sp_fails ?_
          dsimp only
          try simp only [awu 122 12, pe122, xs, i_load, i_loadR, i_inc, lg, lp, true_and, and_true, List.length_cons, List.length_nil, Nat.reduceAdd, Nat.reduceLeDiff, Nat.zero_le, Int.toNat_natCast, natLit, k0, ok01_0]
          refine h0 _ p' eU (by rw [up2_self, upf_s]) (fun y i a b' c' d' e' f => ?_)
          rw [up2_at]
          by_cases zy : y = 99
          · subst zy
            rw [if_pos rfl, if_neg (by omega)]
            exact x6 99 i a b' c' d' e' f
          · rw [if_neg zy]
            exact x6 y i a b' c' d' e' f
      | succ f ih =>
        intro m l s2 p' ar' dg' u4 x0 x1 x2 x3 x4 x5 x5' x6
        have I2 := INm_fr hI x6
        have e41 := x4.1
        have e2 := frL s2 x6
        have wp' := w1 p' x2
        have bb' := bb p'
        have w97 : Unit → wr (bA b c p' - 97) = bA b c p' - 97 := fun _ => by rw [wr_id (by omega) (by omega)]
        have wa : Unit → wr ((a : Int) - 1) = (a : Int) - 1 := fun _ => by rw [wr_id (by omega) (by omega)]
        by_cases zr : (l : Int) ≤ bA b c p' - 97 ∧ bA b c p' - 97 ≤ (a : Int) - 1
        · obtain ⟨l', hl'⟩ : ∃ l' : Nat, bA b c p' = 97 + (l' : Int) := ⟨(bA b c p' - 97).toNat, by omega⟩
          obtain ⟨m', hm'⟩ : ∃ m', m = (m' + 1) + (l' - l) := ⟨a - l' - 1, by omega⟩
          rw [hm', rdL_skip hl' (l' - l) (m' + 1) l (by omega), rdL_s, if_pos hl'] at x3
          have hp' : p' < c := bA_n (b := b) (fun e => by rw [e] at hl'; omega)
          have w97' : Unit → wr (97 + (l' : Int) - 97) = (l' : Int) := fun _ => by rw [wr_id (by omega) (by omega)]; omega
          have wl1 : Unit → wr ((l' : Int) + 1) = ((l' + 1 : Nat) : Int) := fun _ => by rw [wr_id (by omega) (by omega)]; omega
          have R3 : RDm s2 (n + 1) p' (4 * n + l') (upf mk n (mkO (bA b c p))) ar' dg' := ⟨e41, x4.2.1, x4.2.2.1, TLs_up x4.2.2.2 (by omega) (fun w h1 h2 => x5 w h1 (by omega))⟩
          rw [awu 122 7]
          try simp only [awu 122 7, pe122, xs, i_load, i_loadR, i_inc, lg, lp, true_and, and_true, List.length_cons, List.length_nil, Nat.reduceAdd, Nat.reduceLeDiff, Nat.zero_le, Int.toNat_natCast, natLit, k0]
          refine sp_here I2 e41 ?_
          dsimp only
          try simp only [awu 122 7, pe122, xs, i_load, i_loadR, i_inc, lg, lp, true_and, and_true, List.length_cons, List.length_nil, Nat.reduceAdd, Nat.reduceLeDiff, Nat.zero_le, Int.toNat_natCast, natLit, k0, w97 (), e2, wa ()]
          refine sp_isIn ?_
          dsimp only
          rw [if_pos (by omega)]
          try simp only [awu 122 7, awu 122 8, pe122, xs, i_load, i_loadR, i_inc, lg, lp, true_and, and_true, List.length_cons, List.length_nil, Nat.reduceAdd, Nat.reduceLeDiff, Nat.zero_le, Int.toNat_natCast, natLit, k0]
          refine ⟨fun h => absurd h (by decide), fun _ => ?_⟩
          refine sp_here I2 e41 ?_
          dsimp only
          rw [hl']
          try simp only [awu 122 8, pe122, xs, i_load, i_loadR, i_inc, lg, lp, true_and, and_true, List.length_cons, List.length_nil, Nat.reduceAdd, Nat.reduceLeDiff, Nat.zero_le, Int.toNat_natCast, natLit, k0, w97' ()]
          refine sp_readArrow I2 hp' hn (show l' < 4 by omega) R3 (fun s4 y1 y2 y3 => ?_) (fun s4 v q y1 y2 y2' y3 => ?_)
          · dsimp only
            rw [y1] at x3
            have x3 : (Sum.inl (p' + 1) : Nat ⊕ (Nat × (Nat → Int) × (Nat → Nat))) = L := x3
            rw [← x3] at eU
            try simp only [awu 122 8, awu 122 9, pe122, xs, i_load, i_loadR, i_inc, lg, lp, true_and, and_true, List.length_cons, List.length_nil, Nat.reduceAdd, Nat.reduceLeDiff, Nat.zero_le, Int.toNat_natCast, natLit, k0, ok01_0]
            exact ⟨fun h => absurd (by trivial) h, fun _ => h0 s4 (p' + 1) eU y2 (FrTm_t x6 y3)⟩
          · dsimp only
            rw [y1] at x3
            have b1 := nuR_b y1
            try simp only [awu 122 8, awu 122 10, pe122, xs, i_load, i_loadR, i_inc, lg, lp, true_and, and_true, List.length_cons, List.length_nil, Nat.reduceAdd, Nat.reduceLeDiff, Nat.zero_le, Int.toNat_natCast, natLit, k0, wl1 ()]
            refine ⟨fun _ => ih m' (l' + 1) s4 q _ _ _ (by omega) (by omega) (by omega) x3 y2 (fun w h1 h2 => ?_) (by rw [y2']; exact x5') (FrTm_t x6 y3), fun h => absurd (by decide) h⟩
            rw [upf_n (by omega)]
            exact x5 w (by omega) h2
        · rw [rdL_end (a := a) m l x1 (fun j j1 j2 e => zr (by rw [e]; omega))] at x3
          rw [← x3] at eU
          dsimp only at eU
          rw [awu 122 7]
          try simp only [awu 122 7, pe122, xs, i_load, i_loadR, i_inc, lg, lp, true_and, and_true, List.length_cons, List.length_nil, Nat.reduceAdd, Nat.reduceLeDiff, Nat.zero_le, Int.toNat_natCast, natLit, k0]
          refine sp_here I2 e41 ?_
          dsimp only
          try simp only [awu 122 7, pe122, xs, i_load, i_loadR, i_inc, lg, lp, true_and, and_true, List.length_cons, List.length_nil, Nat.reduceAdd, Nat.reduceLeDiff, Nat.zero_le, Int.toNat_natCast, natLit, k0, w97 (), e2, wa ()]
          refine sp_isIn ?_
          dsimp only
          rw [if_neg zr]
          try simp only [awu 122 7, awu 122 11, pe122, xs, i_load, i_loadR, i_inc, lg, lp, true_and, and_true, List.length_cons, List.length_nil, Nat.reduceAdd, Nat.reduceLeDiff, Nat.zero_le, Int.toNat_natCast, natLit, k0]
          refine ⟨fun _ => ?_, fun h => absurd (by trivial) h⟩
          refine sp_here I2 e41 ?_
          dsimp only
          by_cases z2 : bA b c p' = 59
          · rw [if_pos z2] at eU
            rw [z2]
            try simp only [awu 122 11, awu 122 13, pe122, xs, i_load, i_loadR, i_inc, lg, lp, true_and, and_true, List.length_cons, List.length_nil, Nat.reduceAdd, Nat.reduceLeDiff, Nat.zero_le, Int.toNat_natCast, natLit, k0, e41, wp' (), ok01_1]
            refine ⟨fun _ => h1 _ _ eU ⟨by rw [up2_self, upf_s], fun s hs => by rw [up2_ne (by decide)]; exact x4.2.1 s hs, fun w hw => by rw [up2_ne (by decide)]; exact x4.2.2.1 w hw, TLs_congr (TLs_up x4.2.2.2 (W' := 4 * (n + 1)) (by omega) (fun w h1 h2 => x5 w h1 (by omega))) (fun _ _ => ⟨rfl, rfl⟩) (by rw [up2_self, upf_n (by decide)]) (fun i _ => by rw [up2_ne (by decide), up2_ne (by decide)]; exact ⟨rfl, rfl⟩)⟩ (by rw [up2_self, upf_n (by decide)]; exact x5') (fun y i a b' c' d' e' f => ?_), fun h => absurd (by trivial) h⟩
            rw [up2_at]
            by_cases zy : y = 99
            · subst zy
              rw [if_pos rfl, if_neg (by omega)]
              exact x6 99 i a b' c' d' e' f
            · rw [if_neg zy]
              exact x6 y i a b' c' d' e' f
          · rw [if_neg z2] at eU
            try simp only [awu 122 11, awu 122 12, pe122, xs, i_load, i_loadR, i_inc, lg, lp, true_and, and_true, List.length_cons, List.length_nil, Nat.reduceAdd, Nat.reduceLeDiff, Nat.zero_le, Int.toNat_natCast, natLit, k0, e41]
            refine ⟨fun h => absurd h z2, fun _ => ?_⟩
            refine sp_fails ?_
            dsimp only
            try simp only [awu 122 12, pe122, xs, i_load, i_loadR, i_inc, lg, lp, true_and, and_true, List.length_cons, List.length_nil, Nat.reduceAdd, Nat.reduceLeDiff, Nat.zero_le, Int.toNat_natCast, natLit, k0, ok01_0]
            refine h0 _ p' eU (by rw [up2_self, upf_s]) (fun y i a b' c' d' e' f => ?_)
            rw [up2_at]
            by_cases zy : y = 99
            · subst zy
              rw [if_pos rfl, if_neg (by omega)]
              exact x6 99 i a b' c' d' e' f
            · rw [if_neg zy]
              exact x6 y i a b' c' d' e' f
    -- the arrows are cleared
    have clr : ∀ mm l : Nat, ∀ (s2 : St), l + mm = 4 → s2 99 41 = (p : Nat) → (∀ s, s < n + 1 → s2 120 (800 + s) = upf mk n (mkO (bA b c p)) s) → (∀ w, w < 4 * n → s2 121 (3200 + w) = ar w) → (∀ j, j < l → s2 121 (3200 + (4 * n + j)) = -1) → s2 99 46 = st 99 46 → s2 129 = st 129 → s2 130 = st 130 → s2 99 42 = st 99 42 → FrTm st s2 → AW (P 122) Q (MS (d + 2)) 0 (fun _ => 0) 4 [vr 99, vi n, vi (mkO (bA b c p)), vi l, none] [] s2 := by
      intro mm
      induction mm with
      | zero =>
        intro l s2 x1 x2 x3 x4 x5 x6 x7 x8 x8' x9
        have : l = 4 := by omega
        subst this
        rw [awu 122 4]
        try simp only [awu 122 6, pe122, xs, i_load, i_loadR, i_inc, lg, lp, true_and, and_true, List.length_cons, List.length_nil, Nat.reduceAdd, Nat.reduceLeDiff, Nat.zero_le, Int.toNat_natCast, natLit, k0, x2, wp ()]
        refine ⟨fun _ => ?_, fun h => absurd (by decide) h⟩
        have cl : ∀ w, clA ar n w = if 4 * n ≤ w ∧ w < 4 * n + 4 then -1 else ar w := fun w => rfl
        refine keyl a a 0 _ (p + 1) (clA ar n) dg _ (Nat.le_refl _) (by omega) (by omega) hL ⟨by rw [up2_self, upf_s], fun s hs => by rw [up2_ne (by decide)]; exact x3 s hs, fun w hw => ?_, TLs_congr r4 (fun w hw => ⟨by rw [cl, if_neg (by omega)], rfl⟩) (by rw [up2_self, upf_n (by decide)]; exact x6) (fun i _ => by rw [up2_ne (by decide), up2_ne (by decide), x7, x8]; exact ⟨rfl, rfl⟩)⟩ (fun w h1 h2 => by rw [cl, if_pos (by omega)]) (by rw [up2_self, upf_n (by decide)]; exact x8') (fun y i a b' c' d' e' f => ?_)
        · rw [up2_ne (by decide), cl]
          by_cases zw : 4 * n ≤ w
          · rw [if_pos (by omega)]
            have := x5 (w - 4 * n) (by omega)
            rw [show 4 * n + (w - 4 * n) = w by omega] at this
            exact this
          · rw [if_neg (by omega)]
            exact x4 w (by omega)
        · rw [up2_at]
          by_cases zy : y = 99
          · subst zy
            rw [if_pos rfl, if_neg (by omega)]
            exact x9 99 i a b' c' d' e' f
          · rw [if_neg zy]
            exact x9 y i a b' c' d' e' f
      | succ mm ihc =>
        intro l s2 x1 x2 x3 x4 x5 x6 x7 x8 x8' x9
        have wl' : Unit → wr ((l : Int) + 1) = ((l + 1 : Nat) : Int) := fun _ => by rw [wr_id (by omega) (by omega)]; omega
        rw [awu 122 4]
        try simp only [awu 122 5, pe122, xs, i_load, i_loadR, i_inc, lg, lp, true_and, and_true, List.length_cons, List.length_nil, Nat.reduceAdd, Nat.reduceLeDiff, Nat.zero_le, Int.toNat_natCast, natLit, k0]
        refine ⟨fun h => by omega, fun _ => ?_⟩
        refine sp_putArrow (m := 4) (by decide) (show n < 200 by omega) (show l < 4 by omega) ?_
        dsimp only
        try simp only [awu 122 5, pe122, xs, i_load, i_loadR, i_inc, lg, lp, true_and, and_true, List.length_cons, List.length_nil, Nat.reduceAdd, Nat.reduceLeDiff, Nat.zero_le, Int.toNat_natCast, natLit, k0, wl' ()]
        refine ihc (l + 1) _ (by omega) (by rw [up2_ne (by decide)]; exact x2) (fun s hs => by rw [up2_ne (by decide)]; exact x3 s hs) (fun w hw => by rw [up2_self, upf_n (by omega)]; exact x4 w hw) (fun j hj => ?_) (by rw [up2_ne (by decide)]; exact x6) (by rw [up2_ne (by decide)]; exact x7) (by rw [up2_ne (by decide)]; exact x8) (by rw [up2_ne (by decide)]; exact x8') (fun y i a b' c' d' e' f => ?_)
        · rw [up2_self]
          by_cases zj : j = l
          · rw [zj, show 3200 + (4 * n + l) = 800 * 4 + (4 * n + l) from rfl, upf_s]
          · rw [upf_n (by omega)]
            exact x5 j (by omega)
        · rw [up2_at]
          by_cases zy : y = 121
          · subst zy
            rw [if_pos rfl, if_neg (by omega)]
            exact x9 121 i a b' c' d' e' f
          · rw [if_neg zy]
            exact x9 y i a b' c' d' e' f
    have w8 : Unit → wr (800 + (n : Int)) = ((800 + n : Nat) : Int) := fun _ => by rw [wr_id (by omega) (by omega)]; omega
    try simp only [awu 122 0, awu 122 1, awu 122 3, pe122, xs, i_load, i_loadR, i_inc, lg, lp, true_and, and_true, List.length_cons, List.length_nil, Nat.reduceAdd, Nat.reduceLeDiff, Nat.zero_le, Int.toNat_natCast, natLit, k0, k20, l20, w8 ()]
    refine ⟨fun h => absurd h z, fun _ => ⟨fun _ => ⟨by omega, ?_⟩, fun h => absurd (by omega) h⟩⟩
    refine clr 4 0 _ (by omega) (by rw [up2_ne (by decide)]; exact r1) (fun s hs => ?_) (fun w hw => by rw [up2_ne (by decide)]; exact r3 w hw) (fun j hj => by omega) (by rw [up2_ne (by decide)]) (by rw [up2_ne (by decide)]) (by rw [up2_ne (by decide)]) (by rw [up2_ne (by decide)]) (fun y i a b' c' d' e' f => ?_)
    · rw [up2_self]
      by_cases zs : s = n
      · rw [zs, upf_s, upf_s]
      · rw [upf_n (by omega), upf_n zs]
        exact r2 s (by omega)
    · rw [up2_at]
      by_cases zy : y = 120
      · subst zy
        rw [if_pos rfl, if_neg (by omega)]
      · rw [if_neg zy]
