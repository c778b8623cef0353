/-! texts are read: the class -/
def RVI (a c n : Nat) (X : PS) : Prop := X.1 ≤ c ∧ (∀ s, s < n → X.2.1 s = 0 ∨ X.2.1 s = 1 ∨ X.2.1 s = 2) ∧ (∀ w, w < 4 * n → -1 ≤ X.2.2.1 w ∧ X.2.2.1 w < 100) ∧ ∀ s l, s < n → a ≤ l → l < 4 → X.2.2.1 (4 * s + l) = -1
theorem rdL_inv {b : Nat → Int} {c s a : Nat} : ∀ (m l p : Nat) (ar : Nat → Int) (dg : Nat → Nat) {q : Nat} {ar' : Nat → Int} {dg' : Nat → Nat}, l + m = a → p ≤ c → rdL b c s m l p ar dg = .inr (q, ar', dg') → q ≤ c ∧ (∀ w, (w < 4 * s + l ∨ 4 * s + a ≤ w) → ar' w = ar w ∧ dg' w = dg w) ∧ ∀ w, 4 * s + l ≤ w → w < 4 * s + a → ar' w = ar w ∨ (0 ≤ ar' w ∧ ar' w < 100)
  | 0, l, p, ar, dg, q, ar', dg', hl, hp, h => by
    cases h
    exact ⟨hp, fun w _ => ⟨rfl, rfl⟩, fun w _ _ => Or.inl rfl⟩
  | m + 1, l, p, ar, dg, q, ar', dg', hl, hp, h => by
    rw [rdL_s] at h
    by_cases z : bA b c p = 97 + (l : Int)
    · rw [if_pos z] at h
      cases e : nuR b c (p + 1) with
      | none =>
        rw [e] at h
        cases h
      | some vq =>
        obtain ⟨v, q'⟩ := vq
        rw [e] at h
        obtain ⟨b1, b2, b3⟩ := nuR_b e
        obtain ⟨i1, i2, i3⟩ := rdL_inv (a := a) m (l + 1) q' _ _ (by omega) b3 h
        refine ⟨i1, fun w hw => ?_, fun w h1 h2 => ?_⟩
        · obtain ⟨j1, j2⟩ := i2 w (by omega)
          rw [j1, j2, upf_n (by omega), updN_at, if_neg (by omega)]
          exact ⟨rfl, rfl⟩
        · by_cases zw : w = 4 * s + l
          · obtain ⟨j1, j2⟩ := i2 w (by omega)
            rw [j1, zw, upf_s]
            omega
          · have := i3 w (by omega) h2
            rw [upf_n zw] at this
            exact this
    · rw [if_neg z] at h
      obtain ⟨i1, i2, i3⟩ := rdL_inv (a := a) m (l + 1) p _ _ (by omega) hp h
      refine ⟨i1, fun w hw => i2 w (by omega), fun w h1 h2 => ?_⟩
      by_cases zw : w = 4 * s + l
      · exact Or.inl (i2 w (by omega)).1
      · exact i3 w (by omega) h2
theorem mkO_b (x : Int) : mkO x = -1 ∨ mkO x = 0 ∨ mkO x = 1 ∨ mkO x = 2 := by
  unfold mkO
  split
  · omega
  · split
    · omega
    · split <;> omega
theorem rdS_inv {b : Nat → Int} {c a s : Nat} {X Y : PS} (ha : a ≤ 4) (hX : RVI a c s X) (h : rdS b c a s X = .inr Y) : RVI a c (s + 1) Y := by
  unfold rdS at h
  by_cases z : mkO (bA b c X.1) = -1
  · rw [if_pos z] at h
    cases h
  · rw [if_neg z] at h
    have hlt : X.1 < c := bA_n (b := b) (fun e => z (by rw [e]; rfl))
    cases e : rdL b c s a 0 (X.1 + 1) (clA X.2.2.1 s) X.2.2.2 with
    | inl p =>
      rw [e] at h
      cases h
    | inr W =>
      obtain ⟨p, ar, dg⟩ := W
      rw [e] at h
      dsimp only at h
      by_cases z2 : bA b c p = 59
      · rw [if_pos z2] at h
        obtain ⟨i1, i2, i3⟩ := rdL_inv (a := a) a 0 (X.1 + 1) _ _ (by omega) (by omega) e
        have hp : p < c := bA_n (b := b) (fun e => by rw [e] at z2; cases z2)
        cases h
        obtain ⟨x1, x2, x3, x4⟩ := hX
        have cl : ∀ w, clA X.2.2.1 s w = if 4 * s ≤ w ∧ w < 4 * s + 4 then -1 else X.2.2.1 w := fun w => rfl
        refine ⟨by show p + 1 ≤ c; omega, fun t ht => ?_, fun w hw => ?_, fun t l ht hl hl4 => ?_⟩
        · show upf X.2.1 s (mkO (bA b c X.1)) t = 0 ∨ upf X.2.1 s (mkO (bA b c X.1)) t = 1 ∨ upf X.2.1 s (mkO (bA b c X.1)) t = 2
          by_cases zt : t = s
          · rw [zt, upf_s]
            have := mkO_b (bA b c X.1)
            omega
          · rw [upf_n zt]
            exact x2 t (by omega)
        · show -1 ≤ ar w ∧ ar w < 100
          by_cases zw : 4 * s ≤ w ∧ w < 4 * s + a
          · rcases i3 w (by omega) (by omega) with j | j
            · rw [j, cl, if_pos (by omega)]
              omega
            · omega
          · rw [(i2 w (by omega)).1, cl]
            split
            · omega
            · exact x3 w (by omega)
        · show ar (4 * t + l) = -1
          by_cases zt : t = s
          · rw [zt, (i2 _ (by omega)).1, cl, if_pos (by omega)]
          · rw [(i2 _ (by omega)).1, cl, if_neg (by omega)]
            exact x4 t l (by omega) hl hl4
      · rw [if_neg z2] at h
        cases h
set_option maxHeartbeats 1000000 in
theorem sp_readState {d c a n : Nat} {st : St} {b : Nat → Int} {X : PS} {Q : Rn} (hI : IN st b c) (ha : a ≤ 4) (hn : n < 40) (hV : RVI a c n X) (hR : RDc st n X.1 X.2.1 X.2.2.1 X.2.2.2)
    (h0 : ∀ (st' : St) (q : Nat), rdS b c a n X = .inl q → st' 75 2 = (q : Nat) → FrRd st st' → Q (vi 0) st')
    (h1 : ∀ (st' : St) (Y : PS), rdS b c a n X = .inr Y → RDc st' (n + 1) Y.1 Y.2.1 Y.2.2.1 Y.2.2.2 → FrRd st st' → Q (vi 1) st') : MS (d + 4) 229 [vr 75, vr 1, vi a] st Q := by
  have k0 : kl 75 = 6 := rfl
  have k76 : kl 76 = 2 := rfl
  obtain ⟨p, mk, ar, dg⟩ := X
  obtain ⟨v1, v2, v3, v4⟩ := id hV
  obtain ⟨r1, r2, r3, r4, r5⟩ := id hR
  dsimp only at v1 v2 v3 v4 r1 r2 r3 r4 r5
  have hc := hI.2.1
  have w1 : ∀ p : Nat, p ≤ c → Unit → wr ((p : Int) + 1) = ((p + 1 : Nat) : Int) := fun p hp _ => by rw [wr_id (by omega) (by omega)]; omega
  have eU : rdS b c a n (p, mk, ar, dg) = if mkO (bA b c p) = -1 then .inl p else match rdL b c n a 0 (p + 1) (clA ar n) dg with
    | .inl p => .inl p
    | .inr (q, ar, dg) => if bA b c q = 59 then .inr (q + 1, upf mk n (mkO (bA b c p)), ar, dg) else .inl q := rfl
  refine MS_v [vr 75, vr 1, vi a, none, none] rfl rfl rfl rfl ?_
  try simp only [awu 229 0, pe229, xs, i_load, i_loadR, i_inc, lg, lp, true_and, and_true, List.length_cons, List.length_nil, Nat.reduceAdd, Nat.reduceLeDiff, Nat.zero_le, Int.toNat_natCast, natLit, k0, r1]
  refine sp_rat hI ?_
  dsimp only
  try simp only [awu 229 0, pe229, xs, i_load, i_loadR, i_inc, lg, lp, true_and, and_true, List.length_cons, List.length_nil, Nat.reduceAdd, Nat.reduceLeDiff, Nat.zero_le, Int.toNat_natCast, natLit, k0]
  refine sp_mkO ?_
  dsimp only
  by_cases z : mkO (bA b c p) = -1
  · rw [if_pos z] at eU
    rw [z]
    try simp only [awu 229 0, awu 229 1, pe229, xs, i_load, i_loadR, i_inc, lg, lp, true_and, and_true, List.length_cons, List.length_nil, Nat.reduceAdd, Nat.reduceLeDiff, Nat.zero_le, Int.toNat_natCast, natLit, k0, ok01_0]
    exact ⟨fun h => absurd (by trivial) h, fun _ => h0 st p eU r1 FrRd_r⟩
  · rw [if_neg z] at eU
    have hlt : p < c := bA_n (b := b) (fun e => z (by rw [e]; rfl))
    have wp := w1 p v1
    generalize hL : rdL b c n a 0 (p + 1) (clA ar n) dg = L at eU
    have keyl : ∀ m l : Nat, ∀ (s2 : St) (p' : Nat) (ar' : Nat → Int) (dg' : Nat → Nat), l + m = a → p' ≤ c → rdL b c n m l p' ar' dg' = L → RDc s2 (n + 1) p' (upf mk n (mkO (bA b c p))) ar' dg' → FrRd st s2 → AW (P 229) Q (MS (d + 3)) 0 (fun _ => 0) 3 [vr 75, vr 1, vi a, vi (mkO (bA b c p)), vi l] [] s2 := by
      intro m
      induction m with
      | zero =>
        intro l s2 p' ar' dg' x1 x2 x3 x4 x5
        have : l = a := by omega
        subst this
        have e75 := x4.1
        have x3 : (Sum.inr (p', ar', dg') : Nat ⊕ (Nat × (Nat → Int) × (Nat → Nat))) = L := x3
        rw [← x3] at eU
        dsimp only at eU
        have wp' := w1 p' x2
        rw [awu 229 3]
        try simp only [awu 229 8, pe229, xs, i_load, i_loadR, i_inc, lg, lp, true_and, and_true, List.length_cons, List.length_nil, Nat.reduceAdd, Nat.reduceLeDiff, Nat.zero_le, Int.toNat_natCast, natLit, k0, e75]
        refine ⟨fun _ => ?_, fun h => absurd (Int.le_refl _) h⟩
        refine sp_rat (IN_fr hI x5) ?_
        dsimp only
        by_cases z2 : bA b c p' = 59
        · rw [if_pos z2] at eU
          rw [z2]
          try simp only [awu 229 8, awu 229 10, pe229, xs, i_load, i_loadR, i_inc, lg, lp, true_and, and_true, List.length_cons, List.length_nil, Nat.reduceAdd, Nat.reduceLeDiff, Nat.zero_le, Int.toNat_natCast, natLit, k0, e75, wp' (), ok01_1]
          refine ⟨fun _ => h1 _ _ eU ⟨by rw [up2_self, upf_s], by rw [up2_ne (by decide)]; exact x4.2.1, fun s hs => by rw [up2_ne (by decide)]; exact x4.2.2.1 s hs, fun w hw => by rw [up2_ne (by decide)]; exact x4.2.2.2.1 w hw, fun w hw hne => by rw [up2_ne (by decide)]; exact x4.2.2.2.2 w hw hne⟩ (fun q hq => by rw [up2_ne (by omega)]; exact x5 q hq), fun h => absurd (by trivial) h⟩
        · rw [if_neg z2] at eU
          try simp only [awu 229 8, awu 229 9, pe229, xs, i_load, i_loadR, i_inc, lg, lp, true_and, and_true, List.length_cons, List.length_nil, Nat.reduceAdd, Nat.reduceLeDiff, Nat.zero_le, Int.toNat_natCast, natLit, k0, ok01_0]
          exact ⟨fun h => absurd h z2, fun _ => h0 s2 p' eU e75 x5⟩
      | succ m ih =>
        intro l s2 p' ar' dg' x1 x2 x3 x4 x5
        have e75 := x4.1
        rw [rdL_s] at x3
        have I2 := IN_fr hI x5
        have wl' : Unit → wr ((l : Int) + 1) = ((l + 1 : Nat) : Int) := fun _ => by rw [wr_id (by omega) (by omega)]; omega
        have w97 : Unit → wr (97 + (l : Int)) = 97 + (l : Int) := fun _ => by rw [wr_id (by omega) (by omega)]
        have wp' := w1 p' x2
        rw [awu 229 3]
        try simp only [awu 229 4, pe229, xs, i_load, i_loadR, i_inc, lg, lp, true_and, and_true, List.length_cons, List.length_nil, Nat.reduceAdd, Nat.reduceLeDiff, Nat.zero_le, Int.toNat_natCast, natLit, k0, e75]
        refine ⟨fun h => by omega, fun _ => ?_⟩
        refine sp_rat I2 ?_
        dsimp only
        by_cases z2 : bA b c p' = 97 + (l : Int)
        · rw [if_pos z2] at x3
          have hlt' : p' < c := bA_n (b := b) (fun e => by rw [e] at z2; omega)
          rw [z2]
          have e76 : ∀ v, up2 s2 75 2 v 76 2 = (n + 1 : Nat) := fun v => by rw [up2_ne (by decide)]; exact x4.2.1
          have wn : Unit → wr (((n + 1 : Nat) : Int) - 1) = (n : Int) := fun _ => by rw [wr_id (by omega) (by omega)]; omega
          try simp only [awu 229 4, awu 229 5, pe229, xs, i_load, i_loadR, i_inc, lg, lp, true_and, and_true, List.length_cons, List.length_nil, Nat.reduceAdd, Nat.reduceLeDiff, Nat.zero_le, Int.toNat_natCast, natLit, k0, k76, w97 (), e75, wp' (), e76, wn ()]
          refine ⟨fun h => absurd (by trivial) h, fun _ => ?_⟩
          have R3 : RDc (up2 s2 75 2 ((p' + 1 : Nat) : Int)) (n + 1) (p' + 1) (upf mk n (mkO (bA b c p))) ar' dg' := ⟨by rw [up2_self, upf_s], by rw [up2_ne (by decide)]; exact x4.2.1, fun s hs => by rw [up2_ne (by decide)]; exact x4.2.2.1 s hs, fun w hw => by rw [up2_ne (by decide)]; exact x4.2.2.2.1 w hw, fun w hw hne => by rw [up2_ne (by decide)]; exact x4.2.2.2.2 w hw hne⟩
          have fr3 : FrRd st (up2 s2 75 2 ((p' + 1 : Nat) : Int)) := fun q hq => by rw [up2_ne (by omega)]; exact x5 q hq
          refine sp_readNumber (IN_fr hI fr3) (by omega) hn (by omega) R3 (fun y1 => ?_) (fun s4 v q y1 y2 y3 => ?_)
          · dsimp only
            rw [y1] at x3
            have x3 : (Sum.inl (p' + 1) : Nat ⊕ (Nat × (Nat → Int) × (Nat → Nat))) = L := x3
            rw [← x3] at eU
            try simp only [awu 229 5, awu 229 6, pe229, xs, i_load, i_loadR, i_inc, lg, lp, true_and, and_true, List.length_cons, List.length_nil, Nat.reduceAdd, Nat.reduceLeDiff, Nat.zero_le, Int.toNat_natCast, natLit, k0, ok01_0]
            exact ⟨fun h => absurd (by trivial) h, fun _ => h0 _ (p' + 1) eU R3.1 fr3⟩
          · dsimp only
            rw [y1] at x3
            have b1 := nuR_b y1
            try simp only [awu 229 5, awu 229 7, pe229, xs, i_load, i_loadR, i_inc, lg, lp, true_and, and_true, List.length_cons, List.length_nil, Nat.reduceAdd, Nat.reduceLeDiff, Nat.zero_le, Int.toNat_natCast, natLit, k0, wl' ()]
            exact ⟨fun _ => ih (l + 1) s4 q _ _ (by omega) (by omega) x3 y2 (FrRd_t fr3 y3), fun h => absurd (by decide) h⟩
        · rw [if_neg z2] at x3
          try simp only [awu 229 4, awu 229 7, pe229, xs, i_load, i_loadR, i_inc, lg, lp, true_and, and_true, List.length_cons, List.length_nil, Nat.reduceAdd, Nat.reduceLeDiff, Nat.zero_le, Int.toNat_natCast, natLit, k0, w97 (), wl' ()]
          exact ⟨fun _ => ih (l + 1) s2 p' ar' dg' (by omega) x2 x3 x4 x5, fun h => absurd z2 h⟩
    have e75' : ∀ s3 : St, s3 75 2 = st 75 2 → s3 75 2 = (p : Nat) := fun s3 h => by rw [h]; exact r1
    have e76 : ∀ v, up2 st 75 2 v 76 2 = (n : Nat) := fun v => by rw [up2_ne (by decide)]; exact r2
    try simp only [awu 229 0, awu 229 2, pe229, xs, i_load, i_loadR, i_inc, lg, lp, true_and, and_true, List.length_cons, List.length_nil, Nat.reduceAdd, Nat.reduceLeDiff, Nat.zero_le, Int.toNat_natCast, natLit, k0, r1, wp ()]
    refine ⟨fun _ => ?_, fun h => absurd z h⟩
    refine sp_mcadd (o := 76) isMc_76 (e76 _) (by omega) (fun s3 w1 w2 w3 w4 => ?_)
    dsimp only
    try simp only [awu 229 2, pe229, xs, i_load, i_loadR, i_inc, lg, lp, true_and, and_true, List.length_cons, List.length_nil, Nat.reduceAdd, Nat.reduceLeDiff, Nat.zero_le, Int.toNat_natCast, natLit, k0]
    refine keyl a 0 s3 (p + 1) (clA ar n) dg (by omega) (by omega) hL ⟨by rw [w4 75 2 (by omega) (by omega) (by omega), up2_self, upf_s], w1, fun s hs => ?_, fun w hw => ?_, fun w hw hne => ?_⟩ (fun q hq => ?_)
    · by_cases zs : s = n
      · rw [zs, upf_s]
        exact w2
      · rw [upf_n zs, w4 77 s (by omega) (by omega) (by omega), up2_ne (by decide)]
        exact r3 s (by omega)
    · show s3 78 w = if 4 * n ≤ w ∧ w < 4 * n + 4 then -1 else ar w
      by_cases zw : 4 * n ≤ w
      · rw [if_pos (by omega)]
        have := w3 (w - 4 * n) (by omega)
        rw [show 4 * n + (w - 4 * n) = w by omega] at this
        exact this
      · rw [if_neg (by omega), w4 78 w (by omega) (by omega) (by omega), up2_ne (by decide)]
        exact r4 w (by omega)
    · have hne : (if 4 * n ≤ w ∧ w < 4 * n + 4 then -1 else ar w) ≠ -1 := hne
      by_cases zw : 4 * n ≤ w
      · rw [if_pos (by omega)] at hne
        exact absurd rfl hne
      · rw [if_neg (by omega)] at hne
        rw [w4 79 w (by omega) (by omega) (by omega), up2_ne (by decide)]
        exact r5 w (by omega) hne
    · funext i
      rw [w4 q i (by omega) (by omega) (by omega), up2_ne (by omega)]
set_option maxHeartbeats 1000000 in
theorem sp_lostDigit {d a n c : Nat} {st : St} {X : PS} {Q : Rn} (ha : a ≤ 4) (hn : n ≤ 40) (hV : RVI a c n X) (hR : RDc st n X.1 X.2.1 X.2.2.1 X.2.2.2)
    (hq : Q (vi (match lsD n X.2.2.1 with | some w => (X.2.2.2 w : Int) | none => -1)) st) : MS (d + 1) 231 [vr 75, vi a] st Q := by
  have k0 : kl 75 = 6 := rfl
  have k76 : kl 76 = 2 := rfl
  have k78 : kl 78 = 50 := rfl
  have l78 : len 78 = 160 := rfl
  have k79 : kl 79 = 50 := rfl
  have l79 : len 79 = 160 := rfl
  obtain ⟨p, mk, ar, dg⟩ := X
  obtain ⟨v1, v2, v3, v4⟩ := id hV
  obtain ⟨r1, r2, r3, r4, r5⟩ := id hR
  dsimp only at v1 v2 v3 v4 r1 r2 r3 r4 r5 hq
  have key : ∀ mm s : Nat, ∀ (u3 u4 : V), s + mm = n → (∀ w, w < 4 * s → ar w < n) → AW (P 231) Q (MS d) 0 (fun _ => 0) 1 [vr 75, vi a, vi s, u3, u4] [] st := by
    intro mm
    induction mm with
    | zero =>
      intro s u3 u4 g1 g2
      have : s = n := by omega
      subst this
      have e : lsD s ar = none := by
        unfold lsD
        rw [fs_none]
        intro w hw
        rw [decide_eq_false_iff_not]
        have := g2 w hw
        omega
      rw [e] at hq
      rw [awu 231 1]
      try simp only [awu 231 10, pe231, xs, i_load, i_loadR, i_inc, lg, lp, true_and, and_true, List.length_cons, List.length_nil, Nat.reduceAdd, Nat.reduceLeDiff, Nat.zero_le, Int.toNat_natCast, natLit, k0, k76, r2]
      exact ⟨fun _ => hq, fun h => absurd (Int.le_refl _) h⟩
    | succ mm ih =>
      intro s u3 u4 g1 g2
      have ws : Unit → wr ((s : Int) + 1) = ((s + 1 : Nat) : Int) := fun _ => by rw [wr_id (by omega) (by omega)]; omega
      have w4s : Unit → wr ((s : Int) * 4) = ((4 * s : Nat) : Int) := fun _ => by rw [wr_id (by omega) (by omega)]; omega
      have lets : ∀ mm l : Nat, ∀ (u4 : V), l + mm = a → (∀ w, w < 4 * s + l → ar w < n) → AW (P 231) Q (MS d) 0 (fun _ => 0) 4 [vr 75, vi a, vi s, vi l, u4] [] st := by
        intro mm
        induction mm with
        | zero =>
          intro l u4 x1 x2
          have : l = a := by omega
          subst this
          rw [awu 231 4]
          try simp only [awu 231 9, pe231, xs, i_load, i_loadR, i_inc, lg, lp, true_and, and_true, List.length_cons, List.length_nil, Nat.reduceAdd, Nat.reduceLeDiff, Nat.zero_le, Int.toNat_natCast, natLit, k0, ws ()]
          refine ⟨fun _ => ih (s + 1) _ _ (by omega) (fun w hw => ?_), fun h => absurd (Int.le_refl _) h⟩
          by_cases z : w < 4 * s + l
          · exact x2 w z
          · have := v4 s (w - 4 * s) (by omega) (by omega) (by omega)
            rw [show 4 * s + (w - 4 * s) = w by omega] at this
            omega
        | succ mm ihl =>
          intro l u4 x1 x2
          have wl' : Unit → wr ((l : Int) + 1) = ((l + 1 : Nat) : Int) := fun _ => by rw [wr_id (by omega) (by omega)]; omega
          have w4l : Unit → wr (((4 * s : Nat) : Int) + (l : Int)) = ((4 * s + l : Nat) : Int) := fun _ => by rw [wr_id (by omega) (by omega)]; omega
          have e78 := r4 (4 * s + l) (by omega)
          by_cases z : (n : Int) ≤ ar (4 * s + l)
          · have e79 := r5 (4 * s + l) (by omega) (by omega)
            have e : lsD n ar = some (4 * s + l) := by
              unfold lsD
              rw [fs_some]
              refine ⟨by omega, decide_eq_true z, fun w hw => ?_⟩
              rw [decide_eq_false_iff_not]
              have := x2 w hw
              omega
            rw [e] at hq
            rw [awu 231 4]
            try simp only [awu 231 5, awu 231 6, awu 231 7, pe231, xs, i_load, i_loadR, i_inc, lg, lp, true_and, and_true, List.length_cons, List.length_nil, Nat.reduceAdd, Nat.reduceLeDiff, Nat.zero_le, Int.toNat_natCast, natLit, k0, k76, w4s (), w4l (), k78, l78, e78, r2, k79, l79, e79]
            exact ⟨fun h => by omega, fun _ => ⟨fun h => by omega, fun _ => ⟨by omega, fun h => by omega, fun _ => ⟨by omega, hq⟩⟩⟩⟩
          · rw [awu 231 4]
            try simp only [awu 231 5, awu 231 6, awu 231 8, pe231, xs, i_load, i_loadR, i_inc, lg, lp, true_and, and_true, List.length_cons, List.length_nil, Nat.reduceAdd, Nat.reduceLeDiff, Nat.zero_le, Int.toNat_natCast, natLit, k0, k76, w4s (), w4l (), k78, l78, e78, r2, wl' ()]
            refine ⟨fun h => by omega, fun _ => ⟨fun h => by omega, fun _ => ⟨by omega, fun _ => ihl (l + 1) _ (by omega) (fun w hw => ?_), fun h => absurd (by omega) h⟩⟩⟩
            by_cases zw : w = 4 * s + l
            · rw [zw]
              omega
            · exact x2 w (by omega)
      rw [awu 231 1]
      try simp only [awu 231 2, awu 231 3, pe231, xs, i_load, i_loadR, i_inc, lg, lp, true_and, and_true, List.length_cons, List.length_nil, Nat.reduceAdd, Nat.reduceLeDiff, Nat.zero_le, Int.toNat_natCast, natLit, k0, k76, r2]
      exact ⟨fun h => by omega, fun _ => ⟨fun h => by omega, fun _ => lets a 0 _ (by omega) (fun w hw => g2 w (by omega))⟩⟩
  refine MS_v [vr 75, vi a, none, none, none] rfl rfl rfl rfl ?_
  try simp only [awu 231 0, pe231, xs, i_load, i_loadR, i_inc, lg, lp, true_and, and_true, List.length_cons, List.length_nil, Nat.reduceAdd, Nat.reduceLeDiff, Nat.zero_le, Int.toNat_natCast, natLit, k0]
  exact key n 0 none none (by omega) (fun w hw => by omega)
set_option maxHeartbeats 1000000 in
theorem sp_read {d c a : Nat} {st : St} {b : Nat → Int} {Q : Rn} (hI : IN st b c) (ha : a ≤ 4)
    (h0 : ∀ (st' : St) (q : Nat), rdT b c a = .inl q → FrRd st st' → Q (vi (q : Nat)) st')
    (h1 : ∀ (st' : St) (M : MC), rdT b c a = .inr M → 0 < M.1 → M.1 ≤ 40 → MW a M → MCc st' 76 40 M → FrRd st st' → Q (vi (-1)) st') : MS (d + 5) 228 [vr 75, vr 1, vi a] st Q := by
  have k0 : kl 75 = 6 := rfl
  have k1 : kl 1 = 5 := rfl
  have hT : rdT b c a = match rdM b c a 40 0 X0 with
    | .inl p => .inl p
    | .inr (n, X) => match lsD n X.2.2.1 with
      | some w => .inl (X.2.2.2 w)
      | none => .inr (n, X.2.1, X.2.2.1) := rfl
  generalize hG : rdM b c a 40 0 X0 = G at hT
  -- the numbers are looked at
  have lost : ∀ (s2 : St) (s : Nat) (X : PS), 0 < s → s ≤ 40 → G = .inr (s, X) → RVI a c s X → RDc s2 s X.1 X.2.1 X.2.2.1 X.2.2.2 → FrRd st s2 → AW (P 228) Q (MS (d + 4)) 0 (fun _ => 0) 9 [vr 75, vr 1, vi a, vi s] [] s2 := by
    intro s2 s X hs0 hs hg hV hR hf
    rw [hg] at hT
    dsimp only at hT
    rw [awu 228 9]
    try simp only [awu 228 9, pe228, xs, i_load, i_loadR, i_inc, lg, lp, true_and, and_true, List.length_cons, List.length_nil, Nat.reduceAdd, Nat.reduceLeDiff, Nat.zero_le, Int.toNat_natCast, natLit, k0]
    refine sp_lostDigit ha hs hV hR ?_
    dsimp only
    try simp only [awu 228 10, pe228, xs, i_load, i_loadR, i_inc, lg, lp, true_and, and_true, List.length_cons, List.length_nil, Nat.reduceAdd, Nat.reduceLeDiff, Nat.zero_le, Int.toNat_natCast, natLit, k0]
    cases e : lsD s X.2.2.1 with
    | some w =>
      rw [e] at hT
      exact h0 s2 _ hT hf
    | none =>
      rw [e] at hT
      refine h1 s2 _ hT hs0 hs ⟨hV.2.1, fun i hi => ?_, hV.2.2.2⟩ ⟨hR.2.1, hs, hR.2.2.1, hR.2.2.2.1⟩ hf
      have hi : i < 4 * s := hi
      have := hV.2.2.1 i hi
      have h2 := fs_none.mp e i hi
      rw [decide_eq_false_iff_not] at h2
      show -1 ≤ X.2.2.1 i ∧ X.2.2.1 i < (s : Nat)
      omega
  have key : ∀ r s : Nat, ∀ (s2 : St) (X : PS), s + r = 40 → rdM b c a r s X = G → RVI a c s X → RDc s2 s X.1 X.2.1 X.2.2.1 X.2.2.2 → FrRd st s2 → AW (P 228) Q (MS (d + 4)) 0 (fun _ => 0) 1 [vr 75, vr 1, vi a, vi s] [] s2 := by
    intro r
    induction r with
    | zero =>
      intro s s2 X g1 g2 g3 g4 g5
      have : s = 40 := by omega
      subst this
      have e75 := g4.1
      have e11 := (IN_fr hI g5).1
      have g2 : (if X.1 < c then .inl X.1 else .inr (40, X)) = G := g2
      rw [awu 228 1]
      by_cases z : X.1 < c
      · rw [if_pos z] at g2
        rw [← g2] at hT
        try simp only [awu 228 7, awu 228 8, awu 228 10, pe228, xs, i_load, i_loadR, i_inc, lg, lp, true_and, and_true, List.length_cons, List.length_nil, Nat.reduceAdd, Nat.reduceLeDiff, Nat.zero_le, Int.toNat_natCast, natLit, k0, k1, e75, e11]
        exact ⟨fun _ => ⟨fun h => by omega, fun _ => h0 s2 X.1 hT g5⟩, fun h => absurd (by decide) h⟩
      · rw [if_neg z] at g2
        have := lost s2 40 X (by decide) (by decide) g2.symm g3 g4 g5
        try simp only [awu 228 7, pe228, xs, i_load, i_loadR, i_inc, lg, lp, true_and, and_true, List.length_cons, List.length_nil, Nat.reduceAdd, Nat.reduceLeDiff, Nat.zero_le, Int.toNat_natCast, natLit, k0, k1, e75, e11]
        exact ⟨fun _ => ⟨fun _ => this, fun h => absurd (by omega) h⟩, fun h => absurd (by decide) h⟩
    | succ r ih =>
      intro s s2 X g1 g2 g3 g4 g5
      rw [rdM_s] at g2
      have e75 := g4.1
      have e11 := (IN_fr hI g5).1
      have ws : Unit → wr ((s : Int) + 1) = ((s + 1 : Nat) : Int) := fun _ => by rw [wr_id (by omega) (by omega)]; omega
      by_cases z : s ≠ 0 ∧ c ≤ X.1
      · rw [if_pos z] at g2
        have := lost s2 s X (by omega) (by omega) g2.symm g3 g4 g5
        rw [awu 228 1]
        try simp only [awu 228 2, awu 228 3, awu 228 7, pe228, xs, i_load, i_loadR, i_inc, lg, lp, true_and, and_true, List.length_cons, List.length_nil, Nat.reduceAdd, Nat.reduceLeDiff, Nat.zero_le, Int.toNat_natCast, natLit, k0, k1, e75, e11]
        exact ⟨fun h => by omega, fun _ => ⟨fun h => absurd (by omega) z.1, fun _ => ⟨fun _ => ⟨fun _ => this, fun h => absurd (by omega) h⟩, fun h => absurd (by omega) h⟩⟩⟩
      · rw [if_neg z] at g2
        have go : AW (P 228) Q (MS (d + 4)) 0 (fun _ => 0) 4 [vr 75, vr 1, vi a, vi s] [] s2 := by
          rw [awu 228 4]
          try simp only [awu 228 4, pe228, xs, i_load, i_loadR, i_inc, lg, lp, true_and, and_true, List.length_cons, List.length_nil, Nat.reduceAdd, Nat.reduceLeDiff, Nat.zero_le, Int.toNat_natCast, natLit, k0]
          refine sp_readState (IN_fr hI g5) ha (by omega) g3 g4 (fun s3 q y1 y2 y3 => ?_) (fun s3 Y y1 y2 y3 => ?_)
          · dsimp only
            rw [y1] at g2
            have g2 : (Sum.inl q : Nat ⊕ (Nat × PS)) = G := g2
            rw [← g2] at hT
            try simp only [awu 228 4, awu 228 5, pe228, xs, i_load, i_loadR, i_inc, lg, lp, true_and, and_true, List.length_cons, List.length_nil, Nat.reduceAdd, Nat.reduceLeDiff, Nat.zero_le, Int.toNat_natCast, natLit, k0, y2]
            exact ⟨fun h => absurd (by trivial) h, fun _ => h0 s3 q hT (FrRd_t g5 y3)⟩
          · dsimp only
            rw [y1] at g2
            try simp only [awu 228 4, awu 228 6, pe228, xs, i_load, i_loadR, i_inc, lg, lp, true_and, and_true, List.length_cons, List.length_nil, Nat.reduceAdd, Nat.reduceLeDiff, Nat.zero_le, Int.toNat_natCast, natLit, k0, ws ()]
            exact ⟨fun _ => ih (s + 1) s3 Y (by omega) g2 (rdS_inv ha g3 y1) y2 (FrRd_t g5 y3), fun h => absurd (by decide) h⟩
        rw [awu 228 1]
        try simp only [awu 228 2, awu 228 3, pe228, xs, i_load, i_loadR, i_inc, lg, lp, true_and, and_true, List.length_cons, List.length_nil, Nat.reduceAdd, Nat.reduceLeDiff, Nat.zero_le, Int.toNat_natCast, natLit, k0, k1, e75, e11]
        exact ⟨fun h => by omega, fun _ => ⟨fun _ => go, fun _ => ⟨fun h => by omega, fun _ => go⟩⟩⟩
  refine MS_v [vr 75, vr 1, vi a, none] rfl rfl rfl rfl ?_
  try simp only [awu 228 0, pe228, xs, i_load, i_loadR, i_inc, lg, lp, true_and, and_true, List.length_cons, List.length_nil, Nat.reduceAdd, Nat.reduceLeDiff, Nat.zero_le, Int.toNat_natCast, natLit, k0]
  refine sp_mcclear isMc_76 ?_
  dsimp only
  try simp only [awu 228 0, pe228, xs, i_load, i_loadR, i_inc, lg, lp, true_and, and_true, List.length_cons, List.length_nil, Nat.reduceAdd, Nat.reduceLeDiff, Nat.zero_le, Int.toNat_natCast, natLit, k0]
  exact key 40 0 _ X0 (by omega) hG ⟨Nat.zero_le _, fun s hs => by omega, fun w hw => by omega, fun s l hs => by omega⟩ ⟨by rw [up2_self, upf_s]; rfl, by rw [up2_ne (by decide), up2_self, upf_s]; rfl, fun s hs => by omega, fun w hw => by omega, fun w hw => by omega⟩ (fun q hq => by rw [up2_ne (by omega), up2_ne (by omega)])
