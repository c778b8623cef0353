/-! the search: the class -/
def TDc (st : St) (t : TD) (n : Nat) (f : Nat → Nat) : Prop := (st 8 4 = (n : Nat) ∧ n ≤ 120 ∧ 0 < n) ∧ (∀ k, k < n → st 9 k = (f k : Nat) ∧ f k < 2 ^ 31 ∧ t.2.1 k = f k % 4) ∧ (∀ k, k < n → st 10 k = (t.2.2 k : Nat)) ∧ st 11 0 = -1 ∧ (∀ k, 0 < k → k < n → st 11 k = (t.1 k : Nat)) ∧ PrO t n ∧ ∀ i, t.2.2 i ≤ 2
theorem TDc_congr {st st' : St} {t : TD} {n : Nat} {f : Nat → Nat} (h : TDc st t n f) (e : ∀ q, 8 ≤ q → q ≤ 11 → st' q = st q) : TDc st' t n f := by
  unfold TDc at *
  rw [e 8 (by decide) (by decide), e 9 (by decide) (by decide), e 10 (by decide) (by decide), e 11 (by decide) (by decide)]
  exact h
def CS0 (st : St) (t : TD) (pt : Nat → Nat) (mo k tr : Nat) : Prop := (∀ i, i < k → st 67 i = (pt i : Nat) ∧ st 68 i = (pt i + 1 : Nat) ∧ st 69 i = lst t pt mo i ∧ st 70 i = (if (sst t pt i).1 (pt i) = 0 ∧ t.2.2 i ≠ 0 then 1 else 0) ∧ st 71 i = (if i ≠ 0 ∧ fcd t pt i = -1 then 1 else 0) ∧ st 72 i = (if pt i = (sst t pt i).2.2 then 1 else 0)) ∧ (∀ s, s < 8 → st 73 s = ((sst t pt k).1 s : Nat)) ∧ (∀ j, j < 32 → st 74 j = (sst t pt k).2.1 j) ∧ st 66 8 = ((sst t pt k).2.2 : Nat) ∧ st 66 9 = (tr : Nat)
def CS1 (st : St) (t : TD) (pt : Nat → Nat) (mo n k c tr : Nat) : Prop := CS0 st t pt mo k tr ∧ (k < n → st 68 k = (c : Nat) ∧ st 69 k = lst t pt mo k)
def FrSe (st st' : St) : Prop := ∀ q, q < 66 ∨ 74 < q → st' q = st q
theorem FrSe_r {st : St} : FrSe st st := fun _ _ => rfl
theorem FrSe_t {s1 s2 s3 : St} (h1 : FrSe s1 s2) (h2 : FrSe s2 s3) : FrSe s1 s3 := fun q h => by rw [h2 q h, h1 q h]
theorem sp_arrowTo0 {d n : Nat} {st : St} {t : TD} {f : Nat → Nat} {Q : Rn} (hT : TDc st t n f) (hq : Q (vi (-1)) st) : MS (d + 2) 247 [vr 66, vr 8, vi 0] st Q := by
  have k0 : kl 66 = 8 := rfl
  have k8 : kl 8 = 9 := rfl
  have k11 : kl 11 = 50 := rfl
  have l11 : len 11 = 120 := rfl
  have e := hT.2.2.2.1
  refine MS_v [vr 66, vr 8, vi 0, none] rfl rfl rfl rfl ?_
  try simp only [awu 247 0, awu 247 1, awu 247 3, pe247, xs, i_load, i_loadR, i_inc, lg, lp, true_and, and_true, List.length_cons, List.length_nil, Nat.reduceAdd, Nat.reduceLeDiff, Nat.zero_le, Int.toNat_natCast, natLit, k0, k8, k11, l11, Int.toNat_zero, e]
  exact ⟨by decide, fun h => absurd (by trivial) h, fun _ => hq⟩
theorem sp_arrowTo {d n k : Nat} {st : St} {t : TD} {f pt : Nat → Nat} {Q : Rn} (hT : TDc st t n f) (hk0 : 0 < k) (hk : k < n) (hp : st 67 (t.1 k) = (pt (t.1 k) : Nat)) (hp8 : pt (t.1 k) < 8) (hq : Q (vi (wy t pt k : Nat)) st) : MS (d + 2) 247 [vr 66, vr 8, vi k] st Q := by
  have k0 : kl 66 = 8 := rfl
  have k8 : kl 8 = 9 := rfl
  have k9 : kl 9 = 50 := rfl
  have l9 : len 9 = 120 := rfl
  have k11 : kl 11 = 50 := rfl
  have l11 : len 11 = 120 := rfl
  have k67 : kl 67 = 50 := rfl
  have l67 : len 67 = 120 := rfl
  obtain ⟨⟨a1, a2, a3⟩, b, c, e0, e1, e2, e3⟩ := hT
  have e := e1 k hk0 hk
  obtain ⟨p1, p2⟩ := e2 k hk0 hk
  obtain ⟨b1, b2, b3⟩ := b k hk
  have w4 : Unit → wr ((pt (t.1 k) : Int) * 4) = ((4 * pt (t.1 k) : Nat) : Int) := fun _ => by rw [wr_id (by omega) (by omega)]; omega
  have w5 : Unit → wr (((4 * pt (t.1 k) : Nat) : Int) + ((f k % 4 : Nat) : Int)) = ((wy t pt k : Nat) : Int) := fun _ => by unfold wy; rw [wr_id (by omega) (by omega)]; omega
  refine MS_v [vr 66, vr 8, vi k, none] rfl rfl rfl rfl ?_
  try simp only [awu 247 0, awu 247 2, pe247, xs, i_load, i_loadR, i_inc, lg, lp, true_and, and_true, List.length_cons, List.length_nil, Nat.reduceAdd, Nat.reduceLeDiff, Nat.zero_le, Int.toNat_natCast, natLit, k0, k8, k11, l11, e, k67, l67, hp, w4 (), k9, l9, b1]
  refine ⟨by omega, fun _ => ⟨by omega, by omega, ?_⟩, fun h => absurd (by omega) h⟩
  refine sp_last b2 ?_
  dsimp only
  try simp only [awu 247 2, awu 247 3, pe247, xs, i_load, i_loadR, i_inc, lg, lp, true_and, and_true, List.length_cons, List.length_nil, Nat.reduceAdd, Nat.reduceLeDiff, Nat.zero_le, Int.toNat_natCast, natLit, k0, w5 ()]
  exact hq
theorem wy_b {t : TD} {n k : Nat} {pt : Nat → Nat} (hP : PrO t n) (hk0 : 0 < k) (hk : k < n) (hp8 : pt (t.1 k) < 8) : wy t pt k < 32 := by
  have := hP k hk0 hk
  unfold wy
  omega
theorem sp_enter {d n k mo tr : Nat} {st : St} {t : TD} {f pt : Nat → Nat} {Q : Rn} (hT : TDc st t n f) (hmo1 : 1 ≤ mo) (hmo : mo ≤ 8) (hS : SV t pt mo k) (hC : CS0 st t pt mo k tr) (hkn : k ≤ n)
    (hq : ∀ st' : St, CS1 st' t pt mo n k (ent t pt k) tr → FrSe st st' → Q none st') : MS (d + 3) 246 [vr 66, vr 8, vi k, vi mo] st Q := by
  have k0 : kl 66 = 8 := rfl
  have k68 : kl 68 = 50 := rfl
  have l68 : len 68 = 120 := rfl
  have k69 : kl 69 = 50 := rfl
  have l69 : len 69 = 120 := rfl
  have k74 : kl 74 = 50 := rfl
  have l74 : len 74 = 32 := rfl
  have hT' := hT
  obtain ⟨⟨a1, a2, a3⟩, b, c, e0, e1, e2, e3⟩ := hT'
  have p8 : ∀ i, i < k → pt i < 8 := fun i hi => by have := hS.1 i hi; omega
  have fb := fcd_b hS
  have hu := hS.2.1
  refine MS_v [vr 66, vr 8, vi k, vi mo, none, none] rfl rfl rfl rfl ?_
  try simp only [awu 246 0, pe246, xs, i_load, i_loadR, i_inc, lg, lp, true_and, and_true, List.length_cons, List.length_nil, Nat.reduceAdd, Nat.reduceLeDiff, Nat.zero_le, Int.toNat_natCast, natLit, k0]
  refine sp_thas isTr_8 a1 a2 ?_
  dsimp only
  rcases Nat.lt_or_ge k n with hk | hk
  · rw [if_pos (by omega)]
    have e66 := hC.2.2.2.1
    have wm : Unit → wr ((mo : Int) - 1) = (mo : Int) - 1 := fun _ => by rw [wr_id (by omega) (by omega)]
    -- when it is known whether it is forced
    have fin : ∀ u4 : V, AW (P 246) Q (MS (d + 2)) 0 (fun _ => 0) 5 [vr 66, vr 8, vi k, vi mo, u4, none] [vi (fcd t pt k)] st := by
      intro u4
      have done : ∀ v w : Int, v = (ent t pt k : Nat) → w = lst t pt mo k → Q none (up2 (up2 st 68 k v) 69 k w) := by
        intro v w hv hw
        refine hq _ ⟨⟨fun i hi => ?_, fun s hs => ?_, fun j hj => ?_, ?_, ?_⟩, fun _ => ⟨?_, ?_⟩⟩ (fun q hq => ?_)
        · have := hC.1 i hi
          simp only [up2_at]
          have z : ¬ i = k := by omega
          simp only [z, if_false]
          simpa using this
        · rw [up2_ne (by decide), up2_ne (by decide)]
          exact hC.2.1 s hs
        · rw [up2_ne (by decide), up2_ne (by decide)]
          exact hC.2.2.1 j hj
        · rw [up2_ne (by decide), up2_ne (by decide)]
          exact e66
        · rw [up2_ne (by decide), up2_ne (by decide)]
          exact hC.2.2.2.2
        · rw [up2_ne (by decide), up2_self, upf_s]
          exact hv
        · rw [up2_self, upf_s]
          exact hw
        · rw [up2_ne (by omega), up2_ne (by omega)]
      have e66' : ∀ v, up2 st 68 k v 66 8 = ((sst t pt k).2.2 : Nat) := fun v => by rw [up2_ne (by decide)]; exact e66
      by_cases z : fcd t pt k = -1
      · have hen : ent t pt k = 0 := by unfold ent; rw [if_pos z]
        have hls : lst t pt mo k = (if ((sst t pt k).2.2 : Int) ≤ (mo : Int) - 1 then ((sst t pt k).2.2 : Int) else (mo : Int) - 1) := by unfold lst; rw [if_pos z]
        rw [z]
        rw [awu 246 5]
        try simp only [awu 246 6, awu 246 8, awu 246 9, awu 246 11, pe246, xs, i_load, i_loadR, i_inc, lg, lp, true_and, and_true, List.length_cons, List.length_nil, Nat.reduceAdd, Nat.reduceLeDiff, Nat.zero_le, Int.toNat_natCast, natLit, k0, k68, l68, k69, l69, e66', wm ()]
        exact ⟨fun h => absurd (by trivial) h, fun _ => ⟨by omega, fun h => absurd (by trivial) h, fun _ => ⟨by omega, done _ _ (by rw [hen]; rfl) hls.symm⟩⟩⟩
      · have hen : (ent t pt k : Int) = fcd t pt k := by unfold ent; rw [if_neg z]; omega
        have hls : lst t pt mo k = fcd t pt k := by unfold lst; rw [if_neg z]
        rw [awu 246 5]
        try simp only [awu 246 7, awu 246 8, awu 246 10, awu 246 11, pe246, xs, i_load, i_loadR, i_inc, lg, lp, true_and, and_true, List.length_cons, List.length_nil, Nat.reduceAdd, Nat.reduceLeDiff, Nat.zero_le, Int.toNat_natCast, natLit, k0, k68, l68, k69, l69]
        exact ⟨fun _ => ⟨by omega, fun _ => ⟨by omega, done _ _ hen.symm hls.symm⟩, fun h => absurd z h⟩, fun h => absurd z h⟩
    rcases Nat.eq_zero_or_pos k with zk | zk
    · subst zk
      have e : fcd t pt 0 = -1 := rfl
      rw [e] at fin
      try simp only [awu 246 0, awu 246 2, pe246, xs, i_load, i_loadR, i_inc, lg, lp, true_and, and_true, List.length_cons, List.length_nil, Nat.reduceAdd, Nat.reduceLeDiff, Nat.zero_le, Int.toNat_natCast, natLit, k0]
      refine ⟨fun _ => ?_, fun h => absurd (by decide) h⟩
      refine sp_arrowTo0 hT ?_
      dsimp only
      try simp only [awu 246 2, awu 246 3, pe246, xs, i_load, i_loadR, i_inc, lg, lp, true_and, and_true, List.length_cons, List.length_nil, Nat.reduceAdd, Nat.reduceLeDiff, Nat.zero_le, Int.toNat_natCast, natLit, k0]
      exact ⟨fun h => absurd (by trivial) h, fun _ => fin _⟩
    · obtain ⟨p1, p2⟩ := e2 k zk hk
      have hwb := wy_b (pt := pt) e2 zk hk (p8 _ p1)
      have e74 := hC.2.2.1 _ hwb
      have e : fcd t pt k = (sst t pt k).2.1 (wy t pt k) := by unfold fcd; rw [if_neg (by omega)]
      rw [e] at fin
      try simp only [awu 246 0, awu 246 2, pe246, xs, i_load, i_loadR, i_inc, lg, lp, true_and, and_true, List.length_cons, List.length_nil, Nat.reduceAdd, Nat.reduceLeDiff, Nat.zero_le, Int.toNat_natCast, natLit, k0]
      refine ⟨fun _ => ?_, fun h => absurd (by decide) h⟩
      refine sp_arrowTo (pt := pt) hT zk hk (hC.1 _ p1).1 (p8 _ p1) ?_
      dsimp only
      try simp only [awu 246 2, awu 246 4, pe246, xs, i_load, i_loadR, i_inc, lg, lp, true_and, and_true, List.length_cons, List.length_nil, Nat.reduceAdd, Nat.reduceLeDiff, Nat.zero_le, Int.toNat_natCast, natLit, k0, k74, l74, e74]
      exact ⟨fun _ => ⟨by omega, fin _⟩, fun h => absurd (by omega) h⟩
  · rw [if_neg (by omega)]
    try simp only [awu 246 0, awu 246 1, pe246, xs, i_load, i_loadR, i_inc, lg, lp, true_and, and_true, List.length_cons, List.length_nil, Nat.reduceAdd, Nat.reduceLeDiff, Nat.zero_le, Int.toNat_natCast, natLit, k0]
    exact ⟨fun h => absurd (by trivial) h, fun _ => hq st ⟨hC, fun h => by omega⟩ FrSe_r⟩
