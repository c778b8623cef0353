/-! machines of the class -/
abbrev MC := Nat × (Nat → Int) × (Nat → Int)
def isMc (o cap : Nat) : Prop := kl o = 2 ∧ ar (o + 1) cap ∧ ar (o + 2) (4 * cap) ∧ cap ≤ 201
theorem isMc_54 : isMc 54 120 := ⟨rfl, ⟨rfl, rfl⟩, ⟨rfl, rfl⟩, by decide⟩
theorem isMc_57 : isMc 57 8 := ⟨rfl, ⟨rfl, rfl⟩, ⟨rfl, rfl⟩, by decide⟩
theorem isMc_60 : isMc 60 40 := ⟨rfl, ⟨rfl, rfl⟩, ⟨rfl, rfl⟩, by decide⟩
theorem isMc_63 : isMc 63 201 := ⟨rfl, ⟨rfl, rfl⟩, ⟨rfl, rfl⟩, by decide⟩
theorem isMc_76 : isMc 76 40 := ⟨rfl, ⟨rfl, rfl⟩, ⟨rfl, rfl⟩, by decide⟩
theorem isMc_88 : isMc 88 201 := ⟨rfl, ⟨rfl, rfl⟩, ⟨rfl, rfl⟩, by decide⟩
def MCc (st : St) (o cap : Nat) (M : MC) : Prop := st o 2 = (M.1 : Nat) ∧ M.1 ≤ cap ∧ (∀ s, s < M.1 → st (o + 1) s = M.2.1 s) ∧ (∀ i, i < 4 * M.1 → st (o + 2) i = M.2.2 i)
def MW (a : Nat) (M : MC) : Prop := (∀ s, s < M.1 → M.2.1 s = 0 ∨ M.2.1 s = 1 ∨ M.2.1 s = 2) ∧ (∀ i, i < 4 * M.1 → -1 ≤ M.2.2 i ∧ M.2.2 i < M.1) ∧ (∀ s l, s < M.1 → a ≤ l → l < 4 → M.2.2 (4 * s + l) = -1)
theorem MCc_congr {st st' : St} {o cap : Nat} {M : MC} (h : MCc st o cap M) (e : ∀ q, o ≤ q → q ≤ o + 2 → st' q = st q) : MCc st' o cap M := by
  unfold MCc at *
  rw [e o (by omega) (by omega), e (o + 1) (by omega) (by omega), e (o + 2) (by omega) (by omega)]
  exact h
theorem sp_mcclear {d o cap : Nat} {st : St} {Q : Rn} (ho : isMc o cap) (hq : Q none (up2 st o 2 0)) : MS (d + 1) 186 [vr o] st Q := by
  have k0 := ho.1
  refine MS_v [vr o] rfl rfl k0 rfl ?_
  try simp only [awu 186 0, pe186, xs, i_load, i_loadR, i_inc, lg, lp, true_and, and_true, List.length_cons, List.length_nil, Nat.reduceAdd, Nat.reduceLeDiff, Nat.zero_le, Int.toNat_natCast, natLit, k0]
  exact hq
theorem sp_mchas {d o cap c : Nat} {s : Int} {st : St} {Q : Rn} (ho : isMc o cap) (hc : st o 2 = c) (hcc : c ≤ cap) (hq : Q (vi (if 0 ≤ s ∧ s < c then 1 else 0)) st) : MS (d + 1) 187 [vr o, vi s] st Q := by
  obtain ⟨k0, ⟨k1, l1⟩, -⟩ := ho
  refine MS_v [vr o, vi s] rfl rfl k0 rfl ?_
  try simp only [awu 187 0, awu 187 1, awu 187 2, awu 187 3, awu 187 4, awu 187 5, pe187, xs, i_load, i_loadR, i_inc, lg, lp, true_and, and_true, List.length_cons, List.length_nil, Nat.reduceAdd, Nat.reduceLeDiff, Nat.zero_le, Int.toNat_natCast, natLit, k0, k1, l1, hc, true_or, or_true]
  refine ⟨fun h => ?_, fun h => ⟨fun h2 => ?_, fun h2 => ⟨fun h3 => ?_, fun h3 => ?_⟩⟩⟩
  · rw [if_neg (by omega)] at hq
    exact ⟨ok01_0, hq⟩
  · rw [if_neg (by omega)] at hq
    exact ⟨ok01_0, hq⟩
  · rw [if_neg (by omega)] at hq
    exact ⟨ok01_0, hq⟩
  · rw [if_pos (by omega)] at hq
    exact ⟨ok01_1, hq⟩
theorem sp_mccopy {d o cap p cap' : Nat} {st : St} {M : MC} {Q : Rn} (ho : isMc o cap) (hp : isMc p cap') (hM : MCc st p cap' M) (hc : M.1 ≤ cap) (hop : p + 2 < o ∨ o + 2 < p)
    (hq : ∀ st' : St, MCc st' o cap M → (∀ q, q ≠ o → q ≠ o + 1 → q ≠ o + 2 → st' q = st q) → Q none st') : MS (d + 1) 188 [vr o, vr p] st Q := by
  obtain ⟨k0, ⟨k1, l1⟩, ⟨k2, l2⟩, hb⟩ := ho
  obtain ⟨p0, ⟨p1, m1⟩, ⟨p2, m2⟩, -⟩ := hp
  obtain ⟨c1, c2, c3, c4⟩ := hM
  have hmin : (if (M.1 : Int) ≤ (cap : Int) then (M.1 : Int) else (cap : Int)) = M.1 := by rw [if_pos (by omega)]
  have e1 : up2 st o 2 (M.1 : Int) o 2 = M.1 := by rw [up2_self, upf_s]
  have e2 : ∀ f, up1 (up2 st o 2 (M.1 : Int)) (o + 1) f o 2 = M.1 := fun f => by rw [up1_ne (by omega)]; exact e1
  have w : Unit → wr ((M.1 : Int) * 4) = ((4 * M.1 : Nat) : Int) := fun _ => by rw [wr_id (by omega) (by omega)]; omega
  have n1 : ¬ p + 1 = o + 1 := by omega
  have n2 : ¬ p + 2 = o + 2 := by omega
  refine MS_v [vr o, vr p] rfl rfl k0 rfl ?_
  try simp only [awu 188 0, pe188, xs, i_load, i_loadR, i_inc, lg, lp, true_and, and_true, List.length_cons, List.length_nil, Nat.reduceAdd, Nat.reduceLeDiff, Nat.zero_le, Int.toNat_natCast, natLit, k0, k1, l1, k2, l2, p0, p1, m1, p2, m2, c1, hmin, e1, e2, w (), Int.toNat_zero, true_or, or_true]
  refine ⟨n1, ⟨by omega, by omega, by omega, by omega, by omega⟩, n2, ⟨by omega, by omega, by omega, by omega, by omega⟩, ?_⟩
  refine hq _ ⟨?_, hc, fun s hs => ?_, fun i hi => ?_⟩ (fun q h1 h2 h3 => ?_)
  · rw [up1_ne (by omega)]
    exact e2 _
  · rw [up1_ne (by omega), up1_self, cpf_at, if_pos (by omega), up2_ne (by omega), ← c3 s hs]
    congr 1
    omega
  · rw [up1_self, cpf_at, if_pos (by omega), up1_ne (by omega), up2_ne (by omega), ← c4 i hi]
    congr 1
    omega
  · rw [up1_ne h3, up1_ne h2, up2_ne h1]
theorem sp_mcadd {d o cap c : Nat} {v : Int} {st : St} {Q : Rn} (ho : isMc o cap) (hc : st o 2 = c) (hcc : c < cap)
    (hq : ∀ st' : St, st' o 2 = (c + 1 : Nat) → st' (o + 1) c = v → (∀ l, l < 4 → st' (o + 2) (4 * c + l) = -1) → (∀ q i, ¬ (q = o ∧ i = 2) → ¬ (q = o + 1 ∧ i = c) → ¬ (q = o + 2 ∧ 4 * c ≤ i ∧ i < 4 * c + 4) → st' q i = st q i) → Q none st') : MS (d + 1) 189 [vr o, vi v] st Q := by
  obtain ⟨k0, ⟨k1, l1⟩, ⟨k2, l2⟩, hb⟩ := ho
  have key : ∀ m l : Nat, ∀ s2 : St, l + m = 4 → s2 o 2 = c → s2 (o + 1) c = v → (∀ j, j < l → s2 (o + 2) (4 * c + j) = -1) → (∀ q i, ¬ (q = o + 1 ∧ i = c) → ¬ (q = o + 2 ∧ 4 * c ≤ i ∧ i < 4 * c + 4) → s2 q i = st q i) → AW (P 189) Q (MS d) 0 (fun _ => 0) 4 [vr o, vi v, vi l] [] s2 := by
    intro m
    induction m with
    | zero =>
      intro l s2 g1 g2 g3 g4 g5
      have : l = 4 := by omega
      subst this
      have w : Unit → wr ((c : Int) + 1) = ((c + 1 : Nat) : Int) := fun _ => by rw [wr_id (by omega) (by omega)]; omega
      rw [awu 189 4]
      try simp only [awu 189 6, pe189, xs, i_load, i_loadR, i_inc, lg, lp, true_and, and_true, List.length_cons, List.length_nil, Nat.reduceAdd, Nat.reduceLeDiff, Nat.zero_le, Int.toNat_natCast, natLit, k0, g2, w ()]
      refine ⟨fun _ => hq _ ?_ ?_ (fun l hl => ?_) (fun q i h1 h2 h3 => ?_), fun h => absurd (by decide) h⟩
      · rw [up2_self, upf_s]
      · rw [up2_ne (by omega)]
        exact g3
      · rw [up2_ne (by omega)]
        exact g4 l hl
      · rw [up2_at]
        by_cases z : q = o
        · subst z
          rw [if_pos rfl, if_neg (by omega)]
          exact g5 q i h2 h3
        · rw [if_neg z]
          exact g5 q i h2 h3
    | succ m ih =>
      intro l s2 g1 g2 g3 g4 g5
      have w : Unit → wr ((l : Int) + 1) = ((l + 1 : Nat) : Int) := fun _ => by rw [wr_id (by omega) (by omega)]; omega
      have w4 : Unit → wr ((c : Int) * 4) = ((4 * c : Nat) : Int) := fun _ => by rw [wr_id (by omega) (by omega)]; omega
      have w5 : Unit → wr (((4 * c : Nat) : Int) + (l : Int)) = ((4 * c + l : Nat) : Int) := fun _ => by rw [wr_id (by omega) (by omega)]; omega
      rw [awu 189 4]
      try simp only [awu 189 5, pe189, xs, i_load, i_loadR, i_inc, lg, lp, true_and, and_true, List.length_cons, List.length_nil, Nat.reduceAdd, Nat.reduceLeDiff, Nat.zero_le, Int.toNat_natCast, natLit, k0, k2, l2, g2, w (), w4 (), w5 ()]
      refine ⟨fun h => by omega, fun _ => ⟨by omega, ?_⟩⟩
      refine ih (l + 1) _ (by omega) ?_ ?_ (fun j hj => ?_) (fun q i h2 h3 => ?_)
      · rw [up2_ne (by omega)]
        exact g2
      · rw [up2_ne (by omega)]
        exact g3
      · rw [up2_self]
        by_cases z : j = l
        · subst z
          rw [upf_s]
        · rw [upf_n (by omega)]
          exact g4 j (by omega)
      · rw [up2_at]
        by_cases z : q = o + 2
        · subst z
          rw [if_pos rfl, if_neg (by omega)]
          exact g5 _ i h2 h3
        · rw [if_neg z]
          exact g5 q i h2 h3
  refine MS_v [vr o, vi v, none] rfl rfl k0 rfl ?_
  try simp only [awu 189 0, awu 189 1, awu 189 2, awu 189 3, pe189, xs, i_load, i_loadR, i_inc, lg, lp, true_and, and_true, List.length_cons, List.length_nil, Nat.reduceAdd, Nat.reduceLeDiff, Nat.zero_le, Int.toNat_natCast, natLit, k0, k1, l1, hc, true_or, or_true]
  refine ⟨fun h => by omega, fun _ => ⟨fun _ => ⟨by omega, ?_⟩, fun h => by omega⟩⟩
  refine key 4 0 _ rfl ?_ ?_ (fun j hj => by omega) (fun q i h2 h3 => ?_)
  · rw [up2_ne (by omega)]
    exact hc
  · rw [up2_self, upf_s]
  · rw [up2_at]
    by_cases z : q = o + 1
    · subst z
      rw [if_pos rfl, if_neg (by omega)]
    · rw [if_neg z]
theorem sp_mclink {d o cap c s l : Nat} {v : Int} {st : St} {Q : Rn} (ho : isMc o cap) (hc : st o 2 = c) (hcc : c ≤ cap) (hs : s < c) (hl : l < 4) (hq : Q none (up2 st (o + 2) (4 * s + l) v)) : MS (d + 2) 190 [vr o, vi s, vi l, vi v] st Q := by
  obtain ⟨k0, ⟨k1, l1⟩, ⟨k2, l2⟩, hb⟩ := id ho
  have w4 : Unit → wr ((s : Int) * 4) = ((4 * s : Nat) : Int) := fun _ => by rw [wr_id (by omega) (by omega)]; omega
  have w5 : Unit → wr (((4 * s : Nat) : Int) + (l : Int)) = ((4 * s + l : Nat) : Int) := fun _ => by rw [wr_id (by omega) (by omega)]; omega
  refine MS_v [vr o, vi s, vi l, vi v] rfl rfl k0 rfl ?_
  try simp only [awu 190 0, pe190, xs, i_load, i_loadR, i_inc, lg, lp, true_and, and_true, List.length_cons, List.length_nil, Nat.reduceAdd, Nat.reduceLeDiff, Nat.zero_le, Int.toNat_natCast, natLit, k0]
  refine sp_mchas ho hc hcc ?_
  dsimp only
  rw [if_pos (by omega)]
  try simp only [awu 190 1, awu 190 2, awu 190 3, awu 190 4, pe190, xs, i_load, i_loadR, i_inc, lg, lp, true_and, and_true, List.length_cons, List.length_nil, Nat.reduceAdd, Nat.reduceLeDiff, Nat.zero_le, Int.toNat_natCast, natLit, k0, k2, l2, w4 (), w5 ()]
  exact ⟨fun h => absurd h (by decide), fun _ => ⟨fun h => by omega, fun _ => ⟨fun h => by omega, fun _ => ⟨by omega, hq⟩⟩⟩⟩
def fo (M : MC) (s : Int) (l : Nat) : Int := if 0 ≤ s ∧ s < M.1 then M.2.2 (4 * s.toNat + l) else -1
def inM (M : MC) (s : Int) : Bool := decide (0 ≤ s ∧ s < M.1) && (M.2.1 s.toNat == 1)
theorem fo_b {M : MC} {a l : Nat} {s : Int} (hW : MW a M) (hl : l < 4) : -1 ≤ fo M s l ∧ fo M s l < M.1 := by
  unfold fo
  split
  · exact hW.2.1 _ (by omega)
  · omega
theorem sp_mcfollow {d o cap l a : Nat} {s : Int} {st : St} {M : MC} {Q : Rn} (ho : isMc o cap) (hM : MCc st o cap M) (hW : MW a M) (hl : l < 4) (hq : Q (vi (fo M s l)) st) : MS (d + 2) 191 [vr o, vi s, vi l] st Q := by
  obtain ⟨k0, ⟨k1, l1⟩, ⟨k2, l2⟩, hb⟩ := id ho
  obtain ⟨c1, c2, c3, c4⟩ := hM
  unfold fo at hq
  refine MS_v [vr o, vi s, vi l, none] rfl rfl k0 rfl ?_
  try simp only [awu 191 0, pe191, xs, i_load, i_loadR, i_inc, lg, lp, true_and, and_true, List.length_cons, List.length_nil, Nat.reduceAdd, Nat.reduceLeDiff, Nat.zero_le, Int.toNat_natCast, natLit, k0]
  refine sp_mchas ho c1 c2 ?_
  dsimp only
  by_cases hs : 0 ≤ s ∧ s < M.1
  · rw [if_pos hs]
    rw [if_pos hs] at hq
    obtain ⟨t, rfl⟩ : ∃ t : Nat, s = t := ⟨s.toNat, by omega⟩
    rw [Int.toNat_natCast] at hq
    have w4 : Unit → wr ((t : Int) * 4) = ((4 * t : Nat) : Int) := fun _ => by rw [wr_id (by omega) (by omega)]; omega
    have w5 : Unit → wr (((4 * t : Nat) : Int) + (l : Int)) = ((4 * t + l : Nat) : Int) := fun _ => by rw [wr_id (by omega) (by omega)]; omega
    have e := c4 (4 * t + l) (by omega)
    have hb2 := hW.2.1 (4 * t + l) (by omega)
    try simp only [awu 191 1, awu 191 2, awu 191 3, awu 191 4, pe191, xs, i_load, i_loadR, i_inc, lg, lp, true_and, and_true, List.length_cons, List.length_nil, Nat.reduceAdd, Nat.reduceLeDiff, Nat.zero_le, Int.toNat_natCast, natLit, k0, k2, l2, w4 (), w5 (), e]
    refine ⟨fun h => absurd h (by decide), fun _ => ⟨fun h => by omega, fun _ => ⟨fun _ => ⟨by omega, ?_⟩, fun h => by omega⟩⟩⟩
    refine sp_mchas ho c1 c2 ?_
    dsimp only
    try simp only [awu 191 5, awu 191 6, awu 191 7, pe191, xs, i_load, i_loadR, i_inc, lg, lp, true_and, and_true, List.length_cons, List.length_nil, Nat.reduceAdd, Nat.reduceLeDiff, Nat.zero_le, Int.toNat_natCast, natLit, k0]
    by_cases z : M.2.2 (4 * t + l) = -1
    · rw [if_neg (by omega)]
      rw [z] at hq
      exact ⟨fun _ => hq, fun h => absurd rfl h⟩
    · rw [if_pos (by omega)]
      exact ⟨fun h => absurd h (by decide), fun _ => hq⟩
  · rw [if_neg hs]
    rw [if_neg hs] at hq
    try simp only [awu 191 3, pe191, xs, i_load, i_loadR, i_inc, lg, lp, true_and, and_true, List.length_cons, List.length_nil, Nat.reduceAdd, Nat.reduceLeDiff, Nat.zero_le, Int.toNat_natCast, natLit, k0]
    exact ⟨fun _ => hq, fun h => absurd trivial h⟩
theorem sp_mcin {d o cap : Nat} {s : Int} {st : St} {M : MC} {Q : Rn} (ho : isMc o cap) (hM : MCc st o cap M) (hq : Q (vi (if inM M s then 1 else 0)) st) : MS (d + 2) 192 [vr o, vi s] st Q := by
  obtain ⟨k0, ⟨k1, l1⟩, -, hb⟩ := id ho
  obtain ⟨c1, c2, c3, c4⟩ := hM
  unfold inM at hq
  refine MS_v [vr o, vi s] rfl rfl k0 rfl ?_
  try simp only [awu 192 0, pe192, xs, i_load, i_loadR, i_inc, lg, lp, true_and, and_true, List.length_cons, List.length_nil, Nat.reduceAdd, Nat.reduceLeDiff, Nat.zero_le, Int.toNat_natCast, natLit, k0]
  refine sp_mchas ho c1 c2 ?_
  dsimp only
  by_cases hs : 0 ≤ s ∧ s < M.1
  · rw [if_pos hs]
    rw [decide_eq_true hs, Bool.true_and] at hq
    have e := c3 s.toNat (by omega)
    try simp only [awu 192 1, awu 192 2, awu 192 3, awu 192 4, pe192, xs, i_load, i_loadR, i_inc, lg, lp, true_and, and_true, List.length_cons, List.length_nil, Nat.reduceAdd, Nat.reduceLeDiff, Nat.zero_le, Int.toNat_natCast, natLit, k0, k1, l1, e]
    refine ⟨fun h => absurd h (by decide), fun _ => ⟨by omega, fun h => ?_, fun h => ?_⟩⟩
    · rw [beq_eq_false_iff_ne.mpr h] at hq
      exact ⟨ok01_0, hq⟩
    · have h : M.2.1 s.toNat = 1 := by omega
      rw [h] at hq
      exact ⟨ok01_1, hq⟩
  · rw [if_neg hs]
    rw [decide_eq_false hs, Bool.false_and] at hq
    try simp only [awu 192 3, awu 192 4, pe192, xs, i_load, i_loadR, i_inc, lg, lp, true_and, and_true, List.length_cons, List.length_nil, Nat.reduceAdd, Nat.reduceLeDiff, Nat.zero_le, Int.toNat_natCast, natLit, k0]
    exact ⟨fun _ => ⟨ok01_0, hq⟩, fun h => absurd trivial h⟩
def rn (M : MC) (w : Nat) : Nat → Int
  | 0 => 0
  | p + 1 => fo M (rn M w p) (lt w p)
theorem rn_s {M : MC} {w p : Nat} : rn M w (p + 1) = fo M (rn M w p) (lt w p) := rfl
theorem fo_n {M : MC} {l : Nat} : fo M (-1) l = -1 := by unfold fo; rw [if_neg (by omega)]
theorem rn_n {M : MC} {w p : Nat} (h : rn M w p = -1) : ∀ k, rn M w (p + k) = -1
  | 0 => h
  | k + 1 => by rw [← Nat.add_assoc, rn_s, rn_n h k, fo_n]
def acc (M : MC) (w : Nat) : Bool := inM M (rn M w (wl w))
theorem lt_lt (w p : Nat) : lt w p < 4 := Nat.mod_lt _ (by decide)
theorem sp_mcacc {d o cap a w : Nat} {st : St} {M : MC} {Q : Rn} (ho : isMc o cap) (hM : MCc st o cap M) (hW : MW a M) (hw : wf w) (hq : Q (vi (if acc M w then 1 else 0)) st) : MS (d + 3) 193 [vr o, vi w] st Q := by
  have k0 := ho.1
  have hwl := wf_lt hw
  have hw10 := hw.1
  have fin : ∀ (s : Int) (u : V), inM M s = acc M w → AW (P 193) Q (MS (d + 2)) 0 (fun _ => 0) 4 [vr o, vi w, vi (wl w : Nat), vi s, u] [] st := by
    intro s u hs
    rw [← hs] at hq
    rw [awu 193 4]
    try simp only [awu 193 4, pe193, xs, i_load, i_loadR, i_inc, lg, lp, true_and, and_true, List.length_cons, List.length_nil, Nat.reduceAdd, Nat.reduceLeDiff, Nat.zero_le, Int.toNat_natCast, natLit, k0]
    refine sp_mcin ho hM ?_
    dsimp only
    try simp only [awu 193 4, pe193, xs, i_load, i_loadR, i_inc, lg, lp, true_and, and_true, List.length_cons, List.length_nil, Nat.reduceAdd, Nat.reduceLeDiff, Nat.zero_le, Int.toNat_natCast, natLit, k0]
    refine ⟨?_, hq⟩
    split
    · exact ok01_1
    · exact ok01_0
  have key : ∀ m p : Nat, p + m = wl w → AW (P 193) Q (MS (d + 2)) 0 (fun _ => 0) 1 [vr o, vi w, vi (wl w : Nat), vi (rn M w p), vi p] [] st := by
    intro m
    induction m with
    | zero =>
      intro p g1
      have : p = wl w := by omega
      subst this
      rw [awu 193 1]
      try simp only [awu 193 1, pe193, xs, i_load, i_loadR, i_inc, lg, lp, true_and, and_true, List.length_cons, List.length_nil, Nat.reduceAdd, Nat.reduceLeDiff, Nat.zero_le, Int.toNat_natCast, natLit, k0]
      exact ⟨fun _ => fin _ _ rfl, fun h => absurd (Int.le_refl _) h⟩
    | succ m ih =>
      intro p g1
      have e : Unit → wr ((p : Int) + 1) = ((p + 1 : Nat) : Int) := fun _ => by rw [wr_id (by omega) (by omega)]; omega
      rw [awu 193 1]
      try simp only [awu 193 2, awu 193 3, pe193, xs, i_load, i_loadR, i_inc, lg, lp, true_and, and_true, List.length_cons, List.length_nil, Nat.reduceAdd, Nat.reduceLeDiff, Nat.zero_le, Int.toNat_natCast, natLit, k0]
      refine ⟨fun h => by omega, fun _ => ⟨fun h => ?_, fun _ => ?_⟩⟩
      · refine fin _ _ ?_
        unfold acc
        rw [← g1, rn_n h, h]
      · refine sp_letter (by omega) hw10 (show p < wl w by omega) ?_
        dsimp only
        try simp only [awu 193 3, pe193, xs, i_load, i_loadR, i_inc, lg, lp, true_and, and_true, List.length_cons, List.length_nil, Nat.reduceAdd, Nat.reduceLeDiff, Nat.zero_le, Int.toNat_natCast, natLit, k0]
        refine sp_mcfollow ho hM hW (lt_lt w p) ?_
        dsimp only
        try simp only [awu 193 3, pe193, xs, i_load, i_loadR, i_inc, lg, lp, true_and, and_true, List.length_cons, List.length_nil, Nat.reduceAdd, Nat.reduceLeDiff, Nat.zero_le, Int.toNat_natCast, natLit, k0, e ()]
        exact ih (p + 1) (by omega)
  refine MS_v [vr o, vi w, none, none, none] rfl rfl k0 rfl ?_
  try simp only [awu 193 0, pe193, xs, i_load, i_loadR, i_inc, lg, lp, true_and, and_true, List.length_cons, List.length_nil, Nat.reduceAdd, Nat.reduceLeDiff, Nat.zero_le, Int.toNat_natCast, natLit, k0]
  refine sp_len (by omega) ?_
  dsimp only
  try simp only [awu 193 0, pe193, xs, i_load, i_loadR, i_inc, lg, lp, true_and, and_true, List.length_cons, List.length_nil, Nat.reduceAdd, Nat.reduceLeDiff, Nat.zero_le, Int.toNat_natCast, natLit, k0]
  exact key (wl w) 0 (by omega)
