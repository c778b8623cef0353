/-! the machine of a number -/
def iv (F : FS) (n t : Nat) : Nat := (fs (fun k => F.1 k == k && cR F k == t) n).getD 0
theorem iv_d {F : FS} {n k : Nat} (hk : k < n) (hu : F.1 k = k) : iv F n (cR F k) = k := by
  unfold iv
  have : fs (fun j => F.1 j == j && cR F j == cR F k) n = some k := fs_some.mpr ⟨hk, by simp [hu], fun j hj => by
    cases h : (F.1 j == j && cR F j == cR F k)
    · rfl
    · rw [Bool.and_eq_true] at h
      have := cR_inj (beq_iff_eq.mp h.1) hu (beq_iff_eq.mp h.2)
      omega⟩
  rw [this]
  rfl
def tlM (F : FS) (n : Nat) : MC := (cR F n, fun s => F.2.1 (iv F n s), fun i => vl F n (iv F n (i / 4)) (i % 4))
theorem tlM_TL {F : FS} {n : Nat} : TL F n (tlM F n) := by
  refine ⟨rfl, fun k hk hu => ⟨?_, fun l hl => ?_⟩⟩
  · show F.2.1 (iv F n (cR F k)) = _
    rw [iv_d hk hu]
  · show vl F n (iv F n ((4 * cR F k + l) / 4)) ((4 * cR F k + l) % 4) = _
    rw [show (4 * cR F k + l) / 4 = cR F k by omega, show (4 * cR F k + l) % 4 = l by omega, iv_d hk hu]
theorem MCc_tl {st : St} {o cap n : Nat} {F : FS} {M : MC} (hT : TL F n M) (h : MCc st o cap M) : MCc st o cap (tlM F n) := by
  obtain ⟨u1, u2, u3⟩ := TL_u (tlM_TL (F := F) (n := n)) hT
  obtain ⟨h1, h2, h3, h4⟩ := h
  exact ⟨by rw [u1]; exact h1, by rw [u1]; exact h2, fun s hs => by rw [u2 s hs]; exact h3 s (by omega), fun i hi => by rw [u3 i hi]; exact h4 i (by omega)⟩
def mof (F : FS) (n : Nat) (M1 M2 M3 : MC) (m : Int) : MC := if m = 0 then tlM F n else if m = 1 then M1 else if m = 2 then M2 else if m = 3 then M3 else (0, fun _ => 0, fun _ => 0)
def oof (m : Int) : Nat := if m = 0 then 54 else if m = 1 then 57 else if m = 2 then 60 else 63
def cof (m : Int) : Nat := if m = 0 then 120 else if m = 1 then 8 else if m = 2 then 40 else 201
theorem oof_c (m : Int) : isMc (oof m) (cof m) := by
  unfold oof cof
  split
  · exact isMc_54
  · split
    · exact isMc_57
    · split
      · exact isMc_60
      · exact isMc_63
theorem oof_b (m : Int) : 54 ≤ oof m ∧ oof m ≤ 63 := by
  unfold oof
  split
  · decide
  · split
    · decide
    · split <;> decide
/-- what the class knows of its machines -/
def MXc (st : St) (F : FS) (n : Nat) (M1 M2 M3 : MC) : Prop := CR st 14 n F ∧ FI n F ∧ n ≤ 120 ∧ 0 < n ∧ MCc st 57 8 M1 ∧ MCc st 60 40 M2 ∧ MCc st 63 201 M3
theorem MXc_congr {st st' : St} {F : FS} {n : Nat} {M1 M2 M3 : MC} (h : MXc st F n M1 M2 M3) (e : ∀ q, (14 ≤ q ∧ q ≤ 18) ∨ (57 ≤ q ∧ q ≤ 65) → st' q = st q) : MXc st' F n M1 M2 M3 := by
  obtain ⟨h1, h2, h3, h4, h5, h6, h7⟩ := h
  exact ⟨CR_congr h1 (fun q a b => e q (by omega)), h2, h3, h4, MCc_congr h5 (fun q a b => e q (by omega)), MCc_congr h6 (fun q a b => e q (by omega)), MCc_congr h7 (fun q a b => e q (by omega))⟩
theorem sp_isThere {d n : Nat} {m : Int} {st : St} {F : FS} {M1 M2 M3 : MC} {Q : Rn} (hX : MXc st F n M1 M2 M3) (hq : Q (vi (if 0 < (mof F n M1 M2 M3 m).1 then 1 else 0)) st) : MS (d + 1) 41 [vr 0, vi m] st Q := by
  obtain ⟨h1, h2, h3, h4, h5, h6, h7⟩ := hX
  have k0 : kl 0 = 11 := rfl
  have k57 : kl 57 = 2 := rfl
  have k60 : kl 60 = 2 := rfl
  have k63 : kl 63 = 2 := rfl
  have hp := cR_pos h2 h4
  unfold mof at hq
  refine MS_v [vr 0, vi m] rfl rfl rfl rfl ?_
  try simp only [awu 41 0, awu 41 1, awu 41 2, awu 41 3, awu 41 4, awu 41 5, awu 41 6, awu 41 7, awu 41 8, awu 41 9, awu 41 10, awu 41 11, awu 41 12, awu 41 13, awu 41 14, pe41, xs, i_load, i_loadR, i_inc, lg, lp, true_and, and_true, List.length_cons, List.length_nil, Nat.reduceAdd, Nat.reduceLeDiff, Nat.zero_le, Int.toNat_natCast, natLit, t_sw, k0, k57, k60, k63, Nat.zero_add, h5.1, h6.1, h7.1]
  refine ⟨fun h => ?_, fun h => ⟨fun g => ⟨fun z => ?_, fun z => ?_⟩, fun g => ⟨fun y => ⟨fun z => ?_, fun z => ?_⟩, fun y => ⟨fun x => ⟨fun z => ?_, fun z => ?_⟩, fun x => ?_⟩⟩⟩⟩
  · rw [if_pos h, if_pos (show 0 < (tlM F n).1 from hp)] at hq
    exact ⟨ok01_1, hq⟩
  · rw [if_neg h, if_pos g, if_neg (by omega)] at hq
    exact ⟨ok01_0, hq⟩
  · rw [if_neg h, if_pos g, if_pos (by omega)] at hq
    exact ⟨ok01_1, hq⟩
  · rw [if_neg h, if_neg g, if_pos y, if_neg (by omega)] at hq
    exact ⟨ok01_0, hq⟩
  · rw [if_neg h, if_neg g, if_pos y, if_pos (by omega)] at hq
    exact ⟨ok01_1, hq⟩
  · rw [if_neg h, if_neg g, if_neg y, if_pos x, if_neg (by omega)] at hq
    exact ⟨ok01_0, hq⟩
  · rw [if_neg h, if_neg g, if_neg y, if_pos x, if_pos (by omega)] at hq
    exact ⟨ok01_1, hq⟩
  · rw [if_neg h, if_neg g, if_neg y, if_neg x, if_neg (show ¬ 0 < 0 by decide)] at hq
    exact ⟨ok01_0, hq⟩
theorem mof_r {F : FS} {n : Nat} {M1 M2 M3 : MC} {m : Int} (h : 0 < (mof F n M1 M2 M3 m).1) : 0 ≤ m ∧ m ≤ 3 := by
  unfold mof at h
  by_cases h0 : m = 0
  · omega
  · by_cases h1 : m = 1
    · omega
    · by_cases h2 : m = 2
      · omega
      · by_cases h3 : m = 3
        · omega
        · rw [if_neg h0, if_neg h1, if_neg h2, if_neg h3] at h
          exact absurd h (by decide)
theorem sp_machine {d n : Nat} {m : Int} {st : St} {F : FS} {M1 M2 M3 : MC} {Q : Rn} (hX : MXc st F n M1 M2 M3) (hm : 0 < (mof F n M1 M2 M3 m).1)
    (hq : ∀ st' : St, MXc st' F n M1 M2 M3 → MCc st' (oof m) (cof m) (mof F n M1 M2 M3 m) → (∀ q, q ≠ 23 → q ≠ 54 → q ≠ 55 → q ≠ 56 → st' q = st q) → Q (vr (oof m)) st') : MS (d + 4) 42 [vr 0, vi m] st Q := by
  have hr := mof_r hm
  have k0 : kl 0 = 11 := rfl
  have k13 : kl 13 = 1 := rfl
  obtain ⟨h1, h2, h3, h4, h5, h6, h7⟩ := id hX
  unfold oof cof mof at hq
  refine MS_v [vr 0, vi m] rfl rfl rfl rfl ?_
  try simp only [awu 42 0, awu 42 1, awu 42 2, awu 42 3, pe42, xs, i_load, i_loadR, i_inc, lg, lp, true_and, and_true, List.length_cons, List.length_nil, Nat.reduceAdd, Nat.reduceLeDiff, Nat.zero_le, Int.toNat_natCast, natLit, t_sw, k0, Nat.zero_add]
  refine ⟨fun h => ?_, fun h => ⟨fun g => ?_, fun g => ⟨fun y => ?_, fun y => ?_⟩⟩⟩
  · rw [if_neg (by omega), if_pos h, if_neg (by omega), if_pos h, if_neg (by omega), if_pos h] at hq
    exact hq st hX h5 (fun _ _ _ _ _ => rfl)
  · rw [if_neg (by omega), if_neg h, if_pos g, if_neg (by omega), if_neg h, if_pos g, if_neg (by omega), if_neg h, if_pos g] at hq
    exact hq st hX h6 (fun _ _ _ _ _ => rfl)
  · rw [if_neg (by omega), if_neg h, if_neg g, if_neg (by omega), if_neg h, if_neg g, if_neg (by omega), if_neg h, if_neg g, if_pos y] at hq
    exact hq st hX h7 (fun _ _ _ _ _ => rfl)
  · rw [if_pos (by omega), if_pos (by omega), if_pos (by omega)] at hq
    try simp only [awu 42 4, pe42, xs, i_load, i_loadR, i_inc, lg, lp, true_and, and_true, List.length_cons, List.length_nil, Nat.reduceAdd, Nat.reduceLeDiff, Nat.zero_le, Int.toNat_natCast, natLit, k0, k13, Nat.zero_add, Nat.reduceAdd]
    refine sp_ftell isFd_14 isMc_54 (by decide) h3 h1 h2 (fun M s2 y1 y2 y3 => ?_)
    dsimp only
    try simp only [awu 42 4, pe42, xs, i_load, i_loadR, i_inc, lg, lp, true_and, and_true, List.length_cons, List.length_nil, Nat.reduceAdd, Nat.reduceLeDiff, Nat.zero_le, Int.toNat_natCast, natLit, k0, Nat.zero_add]
    have f2 : ∀ q, q ≠ 23 → q ≠ 54 → q ≠ 55 → q ≠ 56 → s2 q = st q := fun q a b c e => y3 q a b c e
    exact hq s2 (MXc_congr hX (fun q hq => f2 q (by omega) (by omega) (by omega) (by omega))) (MCc_tl y1 y2) f2
def MXm (st : St) (F : FS) (n q : Nat) (M1 M2 M3 : MC) : Prop := MR st n q F ∧ FI n F ∧ LA n q F ∧ n ≤ 120 ∧ 0 < n ∧ q ≤ 4 ∧ MCm st 1 M1 ∧ MCm st 2 M2 ∧ MCm st 3 M3
theorem MXm_congr {st st' : St} {F : FS} {n q : Nat} {M1 M2 M3 : MC} (h : MXm st F n q M1 M2 M3) (e : ∀ j i, (j = 99 ∧ (i = 2 ∨ i = 14 ∨ i = 19)) ∨ (109 ≤ j ∧ j ≤ 112) ∨ (j = 119 ∧ 1 ≤ i ∧ i ≤ 3) ∨ (j = 120 ∧ 200 ≤ i ∧ i < 800) ∨ (j = 121 ∧ 800 ≤ i ∧ i < 3200) → st' j i = st j i) : MXm st' F n q M1 M2 M3 := by
  obtain ⟨h1, h2, h3, h4, h5, h6, h7, h8, h9⟩ := h
  refine ⟨MR_congr h1 (e _ _ (by omega)) (e _ _ (by omega)) (e _ _ (by omega)) (fun j a b => by funext z; exact e _ _ (by omega)), h2, h3, h4, h5, h6, MCm_congr h7 (e _ _ (by omega)) (fun i a b => e _ _ (by omega)) (fun i a b => e _ _ (by omega)), MCm_congr h8 (e _ _ (by omega)) (fun i a b => e _ _ (by omega)) (fun i a b => e _ _ (by omega)), MCm_congr h9 (e _ _ (by omega)) (fun i a b => e _ _ (by omega)) (fun i a b => e _ _ (by omega))⟩
theorem FrN_r {st : St} : FrN st st := fun _ _ _ _ _ _ => rfl
theorem sp_isMach {d n q : Nat} {m : Int} {st : St} {F : FS} {M1 M2 M3 : MC} {Q : Rn} (hX : MXm st F n q M1 M2 M3)
    (h1 : ∀ st' : St, 0 < (mof F n M1 M2 M3 m).1 → MXm st' F n q M1 M2 M3 → MCm st' m.toNat (mof F n M1 M2 M3 m) → FrN st st' → Q (vi 1) st')
    (h0 : ¬ 0 < (mof F n M1 M2 M3 m).1 → Q (vi 0) st) : MS (d + 3) 102 [vr 99, vi m] st Q := by
  have k0 : kl 99 = 12 := rfl
  have k19 : kl 119 = 50 := rfl
  have l19 : len 119 = 5 := rfl
  obtain ⟨x1, x2, x3, x4, x5, x6, x7, x8, x9⟩ := id hX
  have hp := cR_pos x2 x5
  have tail : ∀ s2 : St, FrN st s2 → (0 < (mof F n M1 M2 M3 m).1 → MXm s2 F n q M1 M2 M3 ∧ MCm s2 m.toNat (mof F n M1 M2 M3 m)) → (¬ 0 < (mof F n M1 M2 M3 m).1 → s2 = st ∧ (0 ≤ m ∧ m ≤ 3 → s2 119 m.toNat = 0)) → AW (P 102) Q (MS (d + 2)) 0 (fun _ => 0) 2 [vr 99, vi m] [] s2 := by
    intro s2 g1 g2 g3
    rw [awu 102 2]
    try simp only [awu 102 2, pe102, xs, i_load, i_loadR, i_inc, lg, lp, true_and, and_true, List.length_cons, List.length_nil, Nat.reduceAdd, Nat.reduceLeDiff, Nat.zero_le, Int.toNat_natCast, natLit, k0]
    refine sp_isIn ?_
    dsimp only
    by_cases hp : 0 < (mof F n M1 M2 M3 m).1
    · have hr := mof_r hp
      obtain ⟨a1, a2⟩ := g2 hp
      have e := a2.1
      rw [if_pos hr]
      try simp only [awu 102 3, awu 102 4, awu 102 5, awu 102 6, pe102, xs, i_load, i_loadR, i_inc, lg, lp, true_and, and_true, List.length_cons, List.length_nil, Nat.reduceAdd, Nat.reduceLeDiff, Nat.zero_le, Int.toNat_natCast, natLit, k0, k19, l19, e]
      exact ⟨fun h => absurd h (by decide), fun _ => ⟨by omega, fun h => by omega, fun _ => ⟨ok01_1, h1 s2 hp a1 a2 g1⟩⟩⟩
    · obtain ⟨e1, e2⟩ := g3 hp
      subst e1
      by_cases hr : 0 ≤ m ∧ m ≤ 3
      · rw [if_pos hr]
        have e := e2 hr
        try simp only [awu 102 3, awu 102 4, awu 102 5, awu 102 6, pe102, xs, i_load, i_loadR, i_inc, lg, lp, true_and, and_true, List.length_cons, List.length_nil, Nat.reduceAdd, Nat.reduceLeDiff, Nat.zero_le, Int.toNat_natCast, natLit, k0, k19, l19, e]
        exact ⟨fun h => absurd h (by decide), fun _ => ⟨by omega, fun h => ⟨ok01_0, h0 hp⟩, fun h => by omega⟩⟩
      · rw [if_neg hr]
        try simp only [awu 102 5, awu 102 6, pe102, xs, i_load, i_loadR, i_inc, lg, lp, true_and, and_true, List.length_cons, List.length_nil, Nat.reduceAdd, Nat.reduceLeDiff, Nat.zero_le, Int.toNat_natCast, natLit, k0]
        exact ⟨fun _ => ⟨ok01_0, h0 hp⟩, fun h => absurd trivial h⟩
  refine MS_v [vr 99, vi m] rfl rfl rfl rfl ?_
  try simp only [awu 102 0, awu 102 1, pe102, xs, i_load, i_loadR, i_inc, lg, lp, true_and, and_true, List.length_cons, List.length_nil, Nat.reduceAdd, Nat.reduceLeDiff, Nat.zero_le, Int.toNat_natCast, natLit, k0]
  refine ⟨fun h => ?_, fun h => ?_⟩
  · refine tail st FrN_r (fun _ => ⟨hX, ?_⟩) (fun g => ⟨rfl, fun hr => ?_⟩)
    · rename_i hpos
      have hr := mof_r hpos
      unfold mof
      rw [if_neg h]
      by_cases m1 : m = 1
      · subst m1
        rw [if_pos rfl]
        exact x7
      · rw [if_neg m1]
        by_cases m2 : m = 2
        · subst m2
          rw [if_pos rfl]
          exact x8
        · have m3 : m = 3 := by omega
          subst m3
          rw [if_neg m2, if_pos rfl]
          exact x9
    · unfold mof at g
      rw [if_neg h] at g
      by_cases m1 : m = 1
      · subst m1
        rw [if_pos rfl] at g
        have := x7.1
        rw [show (1 : Int).toNat = 1 from rfl]
        omega
      · rw [if_neg m1] at g
        by_cases m2 : m = 2
        · subst m2
          rw [if_pos rfl] at g
          have := x8.1
          rw [show (2 : Int).toNat = 2 from rfl]
          omega
        · have m3 : m = 3 := by omega
          subst m3
          rw [if_neg m2, if_pos rfl] at g
          have := x9.1
          rw [show (3 : Int).toNat = 3 from rfl]
          omega
  · have m0 : m = 0 := by omega
    subst m0
    refine sp_layNow x4 x6 x1 x2 x3 tlM_TL (fun s2 y1 y2 => ?_)
    dsimp only
    have e0 : mof F n M1 M2 M3 0 = tlM F n := by unfold mof; rw [if_pos rfl]
    refine tail s2 y2 (fun _ => ⟨MXm_congr hX (fun j i h => y2 j i (by omega) (by omega) (by omega) (by omega)), by rw [e0]; exact y1⟩) (fun g => absurd (by rw [e0]; exact hp) g)
theorem mof_W {F : FS} {n q : Nat} {M1 M2 M3 : MC} {m : Int} (hF : FI n F) (hL : LA n q F) (h1 : MW q M1) (h2 : MW q M2) (h3 : MW q M3) : MW q (mof F n M1 M2 M3 m) := by
  unfold mof
  split
  · exact TL_W hF hL tlM_TL
  · split
    · exact h1
    · split
      · exact h2
      · split
        · exact h3
        · exact ⟨fun s hs => absurd hs (Nat.not_lt_zero _), fun i hi => absurd hi (Nat.not_lt_zero _), fun s l hs => absurd hs (Nat.not_lt_zero _)⟩
