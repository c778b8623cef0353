/-! texts are read: as such, and the class -/
def bA (b : Nat → Int) (c p : Nat) : Int := if p < c then b p else -1
def dgt (x : Int) : Int := if 48 ≤ x ∧ x ≤ 57 then x - 48 else -1
def mkO (x : Int) : Int := if x = 63 then 0 else if x = 43 then 1 else if x = 45 then 2 else -1
/-- a number at a place: its value, and the place behind it -/
def nuR (b : Nat → Int) (c p : Nat) : Option (Nat × Nat) := if dgt (bA b c p) = -1 then none else if dgt (bA b c p) = 0 then some (0, p + 1) else if dgt (bA b c (p + 1)) = -1 then some ((dgt (bA b c p)).toNat, p + 1) else some (10 * (dgt (bA b c p)).toNat + (dgt (bA b c (p + 1))).toNat, p + 2)
abbrev PS := Nat × (Nat → Int) × (Nat → Int) × (Nat → Nat)
def rdL (b : Nat → Int) (c s : Nat) : Nat → Nat → Nat → (Nat → Int) → (Nat → Nat) → Nat ⊕ (Nat × (Nat → Int) × (Nat → Nat))
  | 0, _, p, ar, dg => .inr (p, ar, dg)
  | m + 1, l, p, ar, dg => if bA b c p = 97 + (l : Int) then (match nuR b c (p + 1) with
      | none => .inl (p + 1)
      | some (v, q) => rdL b c s m (l + 1) q (upf ar (4 * s + l) (v : Int)) (updN dg (4 * s + l) (p + 1))) else rdL b c s m (l + 1) p ar dg
theorem rdL_s {b : Nat → Int} {c s m l p : Nat} {ar : Nat → Int} {dg : Nat → Nat} : rdL b c s (m + 1) l p ar dg = if bA b c p = 97 + (l : Int) then (match nuR b c (p + 1) with
      | none => .inl (p + 1)
      | some (v, q) => rdL b c s m (l + 1) q (upf ar (4 * s + l) (v : Int)) (updN dg (4 * s + l) (p + 1))) else rdL b c s m (l + 1) p ar dg := rfl
def clA (ar : Nat → Int) (s : Nat) : Nat → Int := fun i => if 4 * s ≤ i ∧ i < 4 * s + 4 then -1 else ar i
def rdS (b : Nat → Int) (c a s : Nat) (X : PS) : Nat ⊕ PS := if mkO (bA b c X.1) = -1 then .inl X.1 else match rdL b c s a 0 (X.1 + 1) (clA X.2.2.1 s) X.2.2.2 with
  | .inl p => .inl p
  | .inr (p, ar, dg) => if bA b c p = 59 then .inr (p + 1, upf X.2.1 s (mkO (bA b c X.1)), ar, dg) else .inl p
def rdM (b : Nat → Int) (c a : Nat) : Nat → Nat → PS → Nat ⊕ (Nat × PS)
  | 0, s, X => if X.1 < c then .inl X.1 else .inr (s, X)
  | r + 1, s, X => if s ≠ 0 ∧ c ≤ X.1 then .inr (s, X) else match rdS b c a s X with
    | .inl p => .inl p
    | .inr Y => rdM b c a r (s + 1) Y
theorem rdM_s {b : Nat → Int} {c a r s : Nat} {X : PS} : rdM b c a (r + 1) s X = if s ≠ 0 ∧ c ≤ X.1 then .inr (s, X) else match rdS b c a s X with
    | .inl p => .inl p
    | .inr Y => rdM b c a r (s + 1) Y := rfl
def lsD (n : Nat) (ar : Nat → Int) : Option Nat := fs (fun w => decide ((n : Int) ≤ ar w)) (4 * n)
def X0 : PS := (0, fun _ => 0, fun _ => -1, fun _ => 0)
def rdT (b : Nat → Int) (c a : Nat) : Nat ⊕ MC := match rdM b c a 40 0 X0 with
  | .inl p => .inl p
  | .inr (n, X) => match lsD n X.2.2.1 with
    | some w => .inl (X.2.2.2 w)
    | none => .inr (n, X.2.1, X.2.2.1)
theorem dgt_b (x : Int) : -1 ≤ dgt x ∧ dgt x ≤ 9 := by
  unfold dgt
  split <;> omega
theorem bA_n {b : Nat → Int} {c p : Nat} (h : bA b c p ≠ -1) : p < c := by
  unfold bA at h
  split at h
  · assumption
  · exact absurd rfl h
theorem dgt_n {b : Nat → Int} {c p : Nat} (h : dgt (bA b c p) ≠ -1) : p < c := by
  refine bA_n (b := b) (fun e => h ?_)
  rw [e]
  rfl
theorem nuR_b {b : Nat → Int} {c p v q : Nat} (h : nuR b c p = some (v, q)) : v < 100 ∧ p < q ∧ q ≤ c := by
  unfold nuR at h
  have d1 := dgt_b (bA b c p)
  have d2 := dgt_b (bA b c (p + 1))
  by_cases z : dgt (bA b c p) = -1
  · rw [if_pos z] at h
    cases h
  · rw [if_neg z] at h
    have hp := dgt_n z
    by_cases z0 : dgt (bA b c p) = 0
    · rw [if_pos z0] at h
      cases h
      omega
    · rw [if_neg z0] at h
      by_cases z2 : dgt (bA b c (p + 1)) = -1
      · rw [if_pos z2] at h
        cases h
        omega
      · rw [if_neg z2] at h
        have hp2 := dgt_n z2
        cases h
        omega
/-- the byte at the place -/
def IN (st : St) (b : Nat → Int) (c : Nat) : Prop := st 1 1 = (c : Nat) ∧ c ≤ 800 ∧ ∀ i, i < c → st 2 i = b i ∧ 0 ≤ b i ∧ b i ≤ 255
theorem sp_rat {d c p : Nat} {st : St} {b : Nat → Int} {Q : Rn} (hI : IN st b c) (hq : Q (vi (bA b c p)) st) : MS (d + 1) 220 [vr 1, vi p] st Q := by
  refine sp_at (n := 800) rfl ⟨rfl, rfl⟩ hI.1 hI.2.1 ?_
  have : (if 0 ≤ (p : Int) ∧ (p : Int) < c then st (1 + 1) (p : Int).toNat else -1) = bA b c p := by
    unfold bA
    by_cases z : p < c
    · rw [if_pos (by omega), if_pos z, Int.toNat_natCast]
      exact (hI.2.2 p z).1
    · rw [if_neg (by omega), if_neg z]
  rw [this]
  exact hq
theorem sp_dgt {d : Nat} {x : Int} {st : St} {Q : Rn} (hx : -1 ≤ x ∧ x ≤ 255) (hq : Q (vi (dgt x)) st) : MS (d + 1) 233 [vi x] st Q := by
  refine MS_s [vi x] rfl rfl rfl rfl ?_
  have w : Unit → wr (x - 48) = x - 48 := fun _ => by rw [wr_id (by omega) (by omega)]
  unfold dgt at hq
  try simp only [awu 233 0, awu 233 1, awu 233 2, awu 233 3, awu 233 4, pe233, xs, i_load, i_loadR, i_inc, lg, lp, true_and, and_true, List.length_cons, List.length_nil, Nat.reduceAdd, Nat.reduceLeDiff, Nat.zero_le, Int.toNat_natCast, natLit, w ()]
  refine ⟨fun h => ?_, fun h => ⟨fun h2 => ?_, fun h2 => ?_⟩⟩
  · rw [if_neg (by omega)] at hq
    exact hq
  · rw [if_neg (by omega)] at hq
    exact hq
  · rw [if_pos (by omega)] at hq
    exact hq
theorem sp_mkO {d : Nat} {x : Int} {st : St} {Q : Rn} (hq : Q (vi (mkO x)) st) : MS (d + 1) 232 [vi x] st Q := by
  refine MS_s [vi x] rfl rfl rfl rfl ?_
  unfold mkO at hq
  try simp only [awu 232 0, awu 232 1, awu 232 2, awu 232 3, awu 232 4, pe232, xs, i_load, i_loadR, i_inc, lg, lp, true_and, and_true, List.length_cons, List.length_nil, Nat.reduceAdd, Nat.reduceLeDiff, Nat.zero_le, Int.toNat_natCast, natLit, t_sw]
  refine ⟨fun h => ?_, fun h => ⟨fun h2 => ?_, fun h2 => ⟨fun h3 => ?_, fun h3 => ?_⟩⟩⟩
  · rw [if_neg (by omega), if_pos h] at hq
    exact hq
  · rw [if_neg (by omega), if_neg (by omega), if_pos h2] at hq
    exact hq
  · rw [if_pos h3] at hq
    exact hq
  · rw [if_neg h3, if_neg h, if_neg h2] at hq
    exact hq
theorem bA_b {st : St} {b : Nat → Int} {c p : Nat} (hI : IN st b c) : -1 ≤ bA b c p ∧ bA b c p ≤ 255 := by
  unfold bA
  split
  · have := hI.2.2 p (by assumption)
    omega
  · omega
def RDc (st : St) (n p : Nat) (mk ar : Nat → Int) (dg : Nat → Nat) : Prop := st 75 2 = (p : Nat) ∧ st 76 2 = (n : Nat) ∧ (∀ s, s < n → st 77 s = mk s) ∧ (∀ w, w < 4 * n → st 78 w = ar w) ∧ ∀ w, w < 4 * n → ar w ≠ -1 → st 79 w = (dg w : Nat)
def FrRd (st st' : St) : Prop := ∀ q, q < 75 ∨ 79 < q → st' q = st q
theorem FrRd_r {st : St} : FrRd st st := fun _ _ => rfl
theorem FrRd_t {s1 s2 s3 : St} (h1 : FrRd s1 s2) (h2 : FrRd s2 s3) : FrRd s1 s3 := fun q h => by rw [h2 q h, h1 q h]
theorem IN_fr {st st' : St} {b : Nat → Int} {c : Nat} (h : IN st b c) (e : FrRd st st') : IN st' b c := by
  unfold IN at *
  rw [e 1 (by decide), e 2 (by decide)]
  exact h
set_option maxHeartbeats 1000000 in
theorem sp_readNumber {d c p n l : Nat} {st : St} {b mk ar : Nat → Int} {dg : Nat → Nat} {Q : Rn} (hI : IN st b c) (hp : p ≤ c) (hn : n < 40) (hl : l < 4) (hR : RDc st (n + 1) p mk ar dg)
    (h0 : nuR b c p = none → Q (vi 0) st)
    (h1 : ∀ (st' : St) (v q : Nat), nuR b c p = some (v, q) → RDc st' (n + 1) q mk (upf ar (4 * n + l) (v : Int)) (updN dg (4 * n + l) p) → FrRd st st' → Q (vi 1) st') : MS (d + 3) 230 [vr 75, vr 1, vi n, vi l] st Q := by
  have k0 : kl 75 = 6 := rfl
  have k79 : kl 79 = 50 := rfl
  have l79 : len 79 = 160 := rfl
  have hc := hI.2.1
  obtain ⟨r1, r2, r3, r4, r5⟩ := id hR
  have w4 : Unit → wr ((n : Int) * 4) = ((4 * n : Nat) : Int) := fun _ => by rw [wr_id (by omega) (by omega)]; omega
  have w5 : Unit → wr (((4 * n : Nat) : Int) + (l : Int)) = ((4 * n + l : Nat) : Int) := fun _ => by rw [wr_id (by omega) (by omega)]; omega
  have w6 : Unit → wr ((p : Int) + 1) = ((p + 1 : Nat) : Int) := fun _ => by rw [wr_id (by omega) (by omega)]; omega
  have w7 : Unit → wr (((p + 1 : Nat) : Int) + 1) = ((p + 2 : Nat) : Int) := fun _ => by rw [wr_id (by omega) (by omega)]; omega
  have d1 := dgt_b (bA b c p)
  have d2 := dgt_b (bA b c (p + 1))
  have eU : nuR b c p = if dgt (bA b c p) = -1 then none else if dgt (bA b c p) = 0 then some (0, p + 1) else if dgt (bA b c (p + 1)) = -1 then some ((dgt (bA b c p)).toNat, p + 1) else some (10 * (dgt (bA b c p)).toNat + (dgt (bA b c (p + 1))).toNat, p + 2) := rfl
  refine MS_v [vr 75, vr 1, vi n, vi l, none, none, none] rfl rfl rfl rfl ?_
  try simp only [awu 230 0, pe230, xs, i_load, i_loadR, i_inc, lg, lp, true_and, and_true, List.length_cons, List.length_nil, Nat.reduceAdd, Nat.reduceLeDiff, Nat.zero_le, Int.toNat_natCast, natLit, k0, r1]
  refine sp_rat hI ?_
  dsimp only
  try simp only [awu 230 0, pe230, xs, i_load, i_loadR, i_inc, lg, lp, true_and, and_true, List.length_cons, List.length_nil, Nat.reduceAdd, Nat.reduceLeDiff, Nat.zero_le, Int.toNat_natCast, natLit, k0]
  refine sp_dgt (bA_b hI) ?_
  dsimp only
  by_cases z : dgt (bA b c p) = -1
  · rw [if_pos z] at eU
    rw [z]
    try simp only [awu 230 0, awu 230 3, pe230, xs, i_load, i_loadR, i_inc, lg, lp, true_and, and_true, List.length_cons, List.length_nil, Nat.reduceAdd, Nat.reduceLeDiff, Nat.zero_le, Int.toNat_natCast, natLit, k0, w4 (), w5 (), ok01_0]
    exact ⟨fun _ => h0 eU, fun h => absurd (by trivial) h⟩
  · rw [if_neg z] at eU
    -- the end: it is linked
    have fin : ∀ (s2 : St) (v q : Nat) (u6 : V), nuR b c p = some (v, q) → s2 75 2 = (q : Nat) → s2 79 = upf (st 79) (4 * n + l) (p : Int) → (∀ x i, ¬ (x = 75 ∧ i = 2) → x ≠ 79 → s2 x i = st x i) → AW (P 230) Q (MS (d + 2)) 0 (fun _ => 0) 12 [vr 75, vr 1, vi n, vi l, vi (dgt (bA b c p)), vi (4 * n + l : Nat), u6] [vi v, vi l, vi n, vr 76] s2 := by
      intro s2 v q u6 e x1 x2 x3
      have e76 : s2 76 2 = (n + 1 : Nat) := by rw [x3 76 2 (by omega) (by omega)]; exact r2
      rw [awu 230 12]
      try simp only [awu 230 12, pe230, xs, i_load, i_loadR, i_inc, lg, lp, true_and, and_true, List.length_cons, List.length_nil, Nat.reduceAdd, Nat.reduceLeDiff, Nat.zero_le, Int.toNat_natCast, natLit, k0]
      refine sp_mclink isMc_76 e76 (by omega) (show n < n + 1 by omega) hl ?_
      dsimp only
      try simp only [awu 230 12, pe230, xs, i_load, i_loadR, i_inc, lg, lp, true_and, and_true, List.length_cons, List.length_nil, Nat.reduceAdd, Nat.reduceLeDiff, Nat.zero_le, Int.toNat_natCast, natLit, k0, ok01_1]
      refine h1 _ v q e ⟨by rw [up2_ne (by decide)]; exact x1, by rw [up2_ne (by decide)]; exact e76, fun s hs => by rw [up2_ne (by decide), x3 77 s (by omega) (by omega)]; exact r3 s hs, fun w hw => ?_, fun w hw hne => ?_⟩ (fun y hy => ?_)
      · rw [up2_self]
        by_cases zw : w = 4 * n + l
        · rw [zw, upf_s, upf_s]
        · rw [upf_n zw, upf_n zw, x3 78 w (by omega) (by omega)]
          exact r4 w hw
      · rw [up2_ne (by decide), x2, updN_at]
        by_cases zw : w = 4 * n + l
        · rw [zw, upf_s, if_pos rfl]
        · rw [upf_n zw] at hne ⊢
          rw [if_neg zw]
          exact r5 w hw hne
      · rw [up2_ne (by omega)]
        funext i
        exact x3 y i (by omega) (by omega)
    generalize hs2 : up2 (up2 st 79 (4 * n + l) (p : Int)) 75 2 ((p + 1 : Nat) : Int) = s2
    have v75 : s2 75 2 = (p + 1 : Nat) := by rw [← hs2, up2_self, upf_s]
    have v79 : s2 79 = upf (st 79) (4 * n + l) (p : Int) := by rw [← hs2, up2_ne (by decide), up2_self]
    have vo : ∀ x i, ¬ (x = 75 ∧ i = 2) → x ≠ 79 → s2 x i = st x i := fun x i h1 h2 => by
      rw [← hs2, up2_at]
      by_cases zx : x = 75
      · subst zx
        rw [if_pos rfl, if_neg (by omega), up2_ne (by decide)]
      · rw [if_neg zx, up2_ne h2]
    have I2 : IN s2 b c := IN_fr hI (fun q hq => by funext i; exact vo q i (by omega) (by omega))
    have r1' : ∀ v, up2 st 79 (4 * n + l) v 75 2 = (p : Nat) := fun v => by rw [up2_ne (by decide)]; exact r1
    by_cases z0 : dgt (bA b c p) = 0
    · rw [if_pos z0] at eU
      rw [z0] at fin ⊢
      try simp only [awu 230 0, awu 230 1, awu 230 2, awu 230 4, pe230, xs, i_load, i_loadR, i_inc, lg, lp, true_and, and_true, List.length_cons, List.length_nil, Nat.reduceAdd, Nat.reduceLeDiff, Nat.zero_le, Int.toNat_natCast, natLit, k0, w4 (), w5 (), k79, l79, r1, r1', w6 (), true_or, or_true]
      refine ⟨fun h => absurd h (by decide), fun _ => ⟨fun h => by omega, fun _ => ⟨fun _ => ⟨by omega, ?_⟩, fun h => absurd (by omega) h⟩⟩⟩
      rw [hs2]
      try simp only [awu 230 5, awu 230 7, awu 230 9, awu 230 10, pe230, xs, i_load, i_loadR, i_inc, lg, lp, true_and, and_true, List.length_cons, List.length_nil, Nat.reduceAdd, Nat.reduceLeDiff, Nat.zero_le, Int.toNat_natCast, natLit, k0]
      exact ⟨fun h => absurd (by trivial) h, fun _ => ⟨fun _ => ⟨fun h => absurd (by trivial) h, fun _ => fin s2 0 (p + 1) _ eU v75 v79 vo⟩, fun h => absurd (by trivial) h⟩⟩
    · rw [if_neg z0] at eU
      try simp only [awu 230 0, awu 230 1, awu 230 2, awu 230 4, pe230, xs, i_load, i_loadR, i_inc, lg, lp, true_and, and_true, List.length_cons, List.length_nil, Nat.reduceAdd, Nat.reduceLeDiff, Nat.zero_le, Int.toNat_natCast, natLit, k0, w4 (), w5 (), k79, l79, r1, r1', w6 (), true_or, or_true]
      refine ⟨fun h => absurd h z, fun _ => ⟨fun h => by omega, fun _ => ⟨fun _ => ⟨by omega, ?_⟩, fun h => absurd (by omega) h⟩⟩⟩
      rw [hs2]
      try simp only [awu 230 6, pe230, xs, i_load, i_loadR, i_inc, lg, lp, true_and, and_true, List.length_cons, List.length_nil, Nat.reduceAdd, Nat.reduceLeDiff, Nat.zero_le, Int.toNat_natCast, natLit, k0, v75]
      refine ⟨fun _ => ?_, fun h => absurd (by omega) h⟩
      refine sp_rat I2 ?_
      dsimp only
      try simp only [awu 230 6, pe230, xs, i_load, i_loadR, i_inc, lg, lp, true_and, and_true, List.length_cons, List.length_nil, Nat.reduceAdd, Nat.reduceLeDiff, Nat.zero_le, Int.toNat_natCast, natLit, k0]
      refine sp_dgt (bA_b I2) ?_
      dsimp only
      by_cases z2 : dgt (bA b c (p + 1)) = -1
      · rw [if_pos z2] at eU
        rw [z2]
        have := fin s2 _ _ (vi (-1)) eU v75 v79 vo
        rw [show (((dgt (bA b c p)).toNat : Nat) : Int) = dgt (bA b c p) by omega] at this
        try simp only [awu 230 7, awu 230 9, awu 230 10, pe230, xs, i_load, i_loadR, i_inc, lg, lp, true_and, and_true, List.length_cons, List.length_nil, Nat.reduceAdd, Nat.reduceLeDiff, Nat.zero_le, Int.toNat_natCast, natLit, k0]
        exact ⟨fun _ => ⟨fun h => absurd (by trivial) h, fun _ => this⟩, fun h => absurd (by trivial) h⟩
      · rw [if_neg z2] at eU
        have w10 : Unit → wr (10 * dgt (bA b c p)) = 10 * dgt (bA b c p) := fun _ => by rw [wr_id (by omega) (by omega)]
        have w11 : Unit → wr (10 * dgt (bA b c p) + dgt (bA b c (p + 1))) = ((10 * (dgt (bA b c p)).toNat + (dgt (bA b c (p + 1))).toNat : Nat) : Int) := fun _ => by rw [wr_id (by omega) (by omega)]; omega
        try simp only [awu 230 7, awu 230 8, awu 230 9, awu 230 11, pe230, xs, i_load, i_loadR, i_inc, lg, lp, true_and, and_true, List.length_cons, List.length_nil, Nat.reduceAdd, Nat.reduceLeDiff, Nat.zero_le, Int.toNat_natCast, natLit, k0, v75, w7 (), w10 (), w11 ()]
        refine ⟨fun h => absurd h z2, fun _ => ⟨fun _ => ?_, fun h => absurd z2 h⟩⟩
        refine fin _ _ _ _ eU (by rw [up2_self, upf_s]) (by rw [up2_ne (by decide)]; exact v79) (fun x i h1 h2 => ?_)
        rw [up2_at]
        by_cases zx : x = 75
        · subst zx
          rw [if_pos rfl, if_neg (by omega)]
          exact vo 75 i h1 h2
        · rw [if_neg zx]
          exact vo x i h1 h2
