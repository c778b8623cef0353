/-! the states of the class -/
def isFd (o : Nat) : Prop := kl o = 0 ∧ ar (o + 1) 120 ∧ ar (o + 2) 120 ∧ az (o + 3) 120 ∧ ar (o + 4) 480 ∧ ar (o + 5) 120 ∧ ar (o + 6) 120 ∧ ar (o + 7) 481 ∧ ar (o + 8) 481 ∧ ar (o + 9) 120
theorem isFd_14 : isFd 14 := ⟨rfl, ⟨rfl, rfl⟩, ⟨rfl, rfl⟩, ⟨rfl, rfl⟩, ⟨rfl, rfl⟩, ⟨rfl, rfl⟩, ⟨rfl, rfl⟩, ⟨rfl, rfl⟩, ⟨rfl, rfl⟩, ⟨rfl, rfl⟩⟩
theorem isFd_37 : isFd 37 := ⟨rfl, ⟨rfl, rfl⟩, ⟨rfl, rfl⟩, ⟨rfl, rfl⟩, ⟨rfl, rfl⟩, ⟨rfl, rfl⟩, ⟨rfl, rfl⟩, ⟨rfl, rfl⟩, ⟨rfl, rfl⟩, ⟨rfl, rfl⟩⟩
def CR (st : St) (o n : Nat) (F : FS) : Prop := st o 9 = n ∧ (∀ k, k < n → st (o + 1) k = (F.1 k : Nat) ∧ st (o + 2) k = F.2.1 k ∧ st (o + 3) k = F.2.2.1 k) ∧ (∀ k, k < 4 * n → st (o + 4) k = F.2.2.2 k) ∧ st o 10 = (cR F n : Nat) ∧ st o 11 = (cM F n : Nat)
theorem sp_fname {d o n : Nat} {st : St} {F : FS} {k : Int} {Q : Rn} (ho : isFd o) (hn : n ≤ 120) (hC : CR st o n F) (hq : Q (vi (if 0 ≤ k ∧ k < n ∧ F.1 k.toNat = k.toNat then 1 else 0)) st) : MS (d + 1) 161 [vr o, vi k] st Q := by
  obtain ⟨k0, ⟨k1, l1⟩, -⟩ := ho
  obtain ⟨h9, h1, -⟩ := hC
  refine MS_v [vr o, vi k] rfl rfl k0 rfl ?_
  try simp only [awu 161 0, awu 161 1, awu 161 2, awu 161 3, awu 161 4, awu 161 5, pe161, xs, i_load, i_loadR, i_inc, lg, lp, true_and, and_true, List.length_cons, List.length_nil, Nat.reduceAdd, Nat.reduceLeDiff, Nat.zero_le, Int.toNat_natCast, natLit, k0, k1, l1, h9]
  refine ⟨fun a => ?_, fun a => ⟨fun b => ?_, fun b => ⟨by omega, ?_⟩⟩⟩
  · rw [if_neg (by omega)] at hq
    exact ⟨ok01_0, hq⟩
  · rw [if_neg (by omega)] at hq
    exact ⟨ok01_0, hq⟩
  · rw [(h1 k.toNat (by omega)).1]
    refine ⟨fun g => ?_, fun g => ?_⟩
    · rw [if_neg (by omega)] at hq
      exact ⟨ok01_0, hq⟩
    · rw [if_pos (by omega)] at hq
      exact ⟨ok01_1, hq⟩
/-- whether it is a name -/
def isN (F : FS) (n : Nat) (k : Int) : Prop := 0 ≤ k ∧ k < n ∧ F.1 k.toNat = k.toNat
theorem sp_funl {d o n : Nat} {st : St} {F : FS} {i j : Int} {Q : Rn} (ho : isFd o) (hn : n ≤ 120) (hC : CR st o n F) (h1 : i ≠ j → isN F n i → isN F n j → Q (vi 1) st) (h0 : ¬ (i ≠ j ∧ isN F n i ∧ isN F n j) → Q (vi 0) st) : MS (d + 2) 162 [vr o, vi i, vi j] st Q := by
  have k0 := ho.1
  refine MS_v [vr o, vi i, vi j] rfl rfl k0 rfl ?_
  try simp only [awu 162 0, awu 162 4, awu 162 5, pe162, xs, i_load, i_loadR, i_inc, lg, lp, true_and, and_true, List.length_cons, List.length_nil, Nat.reduceAdd, Nat.reduceLeDiff, Nat.zero_le, Int.toNat_natCast, natLit, k0]
  refine ⟨fun e => ⟨ok01_0, h0 (fun h => h.1 e)⟩, fun e => ?_⟩
  try simp only [awu 162 1, pe162, xs, i_load, i_loadR, i_inc, lg, lp, true_and, and_true, List.length_cons, List.length_nil, Nat.reduceAdd, Nat.reduceLeDiff, Nat.zero_le, Int.toNat_natCast, natLit, k0]
  refine sp_fname ho hn hC ?_
  dsimp only
  by_cases hi : 0 ≤ i ∧ i < n ∧ F.1 i.toNat = i.toNat
  · rw [if_pos hi]
    try simp only [awu 162 2, awu 162 4, awu 162 5, pe162, xs, i_load, i_loadR, i_inc, lg, lp, true_and, and_true, List.length_cons, List.length_nil, Nat.reduceAdd, Nat.reduceLeDiff, Nat.zero_le, Int.toNat_natCast, natLit, k0]
    refine ⟨fun a => absurd a (by decide), fun _ => ?_⟩
    refine sp_fname ho hn hC ?_
    dsimp only
    by_cases hj : 0 ≤ j ∧ j < n ∧ F.1 j.toNat = j.toNat
    · rw [if_pos hj]
      try simp only [awu 162 3, awu 162 4, awu 162 5, pe162, xs, i_load, i_loadR, i_inc, lg, lp, true_and, and_true, List.length_cons, List.length_nil, Nat.reduceAdd, Nat.reduceLeDiff, Nat.zero_le, Int.toNat_natCast, natLit, k0]
      exact ⟨fun a => absurd a (by decide), fun _ => ⟨ok01_1, h1 e hi hj⟩⟩
    · rw [if_neg hj]
      try simp only [awu 162 3, awu 162 4, awu 162 5, pe162, xs, i_load, i_loadR, i_inc, lg, lp, true_and, and_true, List.length_cons, List.length_nil, Nat.reduceAdd, Nat.reduceLeDiff, Nat.zero_le, Int.toNat_natCast, natLit, k0]
      exact ⟨fun _ => ⟨ok01_0, h0 (fun h => hj h.2.2)⟩, fun a => absurd trivial a⟩
  · rw [if_neg hi]
    try simp only [awu 162 2, awu 162 4, awu 162 5, pe162, xs, i_load, i_loadR, i_inc, lg, lp, true_and, and_true, List.length_cons, List.length_nil, Nat.reduceAdd, Nat.reduceLeDiff, Nat.zero_le, Int.toNat_natCast, natLit, k0]
    exact ⟨fun _ => ⟨ok01_0, h0 (fun h => hi h.2.1)⟩, fun a => absurd trivial a⟩
theorem sp_fnof {d o n : Nat} {st : St} {F : FS} {node : Nat} {Q : Rn} (ho : isFd o) (hn : n ≤ 120) (hC : CR st o n F) (hF : FI n F) (hk : node < n) (hq : Q (vi (rt F.1 node : Nat)) st) : MS (d + 1) 163 [vr o, vi node] st Q := by
  obtain ⟨k0, ⟨k1, l1⟩, -⟩ := ho
  obtain ⟨h9, h1, -⟩ := hC
  refine MS_v [vr o, vi node, none, none] rfl rfl k0 rfl ?_
  try simp only [awu 163 0, pe163, xs, i_load, i_loadR, i_inc, lg, lp, true_and, and_true, List.length_cons, List.length_nil, Nat.reduceAdd, Nat.reduceLeDiff, Nat.zero_le, Int.toNat_natCast, natLit, k0]
  have key : ∀ m k s : Nat, k ≤ m → k < n → s + k < 120 → rt F.1 k = rt F.1 node → AW (P 163) Q (MS d) 0 (fun _ => 0) 1 [vr o, vi node, vi k, vi s] [] st := by
    intro m
    induction m with
    | zero =>
      intro k s g1 g2 g3 g4
      have hu := hF.1 k g2
      have h0 : rt F.1 k = k := rt_self (by omega)
      rw [← g4, h0] at hq
      rw [awu 163 1]
      try simp only [awu 163 2, awu 163 3, awu 163 4, awu 163 5, awu 163 6, pe163, xs, i_load, i_loadR, i_inc, lg, lp, true_and, and_true, List.length_cons, List.length_nil, Nat.reduceAdd, Nat.reduceLeDiff, Nat.zero_le, Int.toNat_natCast, natLit, k0, k1, l1, h9, (h1 k g2).1]
      refine ⟨fun _ => hq, fun _ => ⟨fun _ => hq, fun _ => ⟨fun _ => hq, fun _ => ⟨by omega, fun _ => hq, fun h => ?_⟩⟩⟩⟩
      exact absurd (by omega) h
    | succ m ih =>
      intro k s g1 g2 g3 g4
      have hu := hF.1 k g2
      have ew : Unit → wr ((s : Int) + 1) = ((s + 1 : Nat) : Int) := fun _ => by rw [wr_id (by omega) (by omega)]; omega
      rw [awu 163 1]
      try simp only [awu 163 2, awu 163 3, awu 163 4, awu 163 5, awu 163 6, pe163, xs, i_load, i_loadR, i_inc, lg, lp, true_and, and_true, List.length_cons, List.length_nil, Nat.reduceAdd, Nat.reduceLeDiff, Nat.zero_le, Int.toNat_natCast, natLit, k0, k1, l1, h9, (h1 k g2).1, ew ()]
      refine ⟨fun h => by omega, fun _ => ⟨fun h => by omega, fun _ => ⟨fun h => by omega, fun _ => ⟨by omega, fun h => ?_, fun h => ⟨by omega, ?_⟩⟩⟩⟩⟩
      · have h0 : rt F.1 k = k := rt_self (by omega)
        rw [← g4, h0] at hq
        exact hq
      · have hlt : F.1 k < k := by omega
        exact ih (F.1 k) (s + 1) (by omega) (by omega) (by omega) (by rw [← rt_eq hlt]; exact g4)
  exact key node node 0 (Nat.le_refl _) hk (by omega) rfl
theorem sp_fnofN {d o n : Nat} {st : St} {F : FS} {Q : Rn} (ho : isFd o) (hC : CR st o n F) (hq : Q (vi (-1)) st) : MS (d + 1) 163 [vr o, vi (-1)] st Q := by
  obtain ⟨k0, -⟩ := ho
  refine MS_v [vr o, vi (-1), none, none] rfl rfl k0 rfl ?_
  try simp only [awu 163 0, awu 163 1, awu 163 2, awu 163 6, pe163, xs, i_load, i_loadR, i_inc, lg, lp, true_and, and_true, List.length_cons, List.length_nil, Nat.reduceAdd, Nat.reduceLeDiff, Nat.zero_le, Int.toNat_natCast, natLit, k0]
  exact ⟨fun h => by omega, fun _ => ⟨fun _ => hq, fun h => by omega⟩⟩
theorem sp_fisRed {d o n : Nat} {st : St} {F : FS} {k : Int} {Q : Rn} (ho : isFd o) (hn : n ≤ 120) (hC : CR st o n F) (hF : FI n F) (h1 : isN F n k → Q (vi (F.2.2.1 k.toNat)) st) (h0 : ¬ isN F n k → Q (vi 0) st) : MS (d + 2) 164 [vr o, vi k] st Q := by
  obtain ⟨k0, -, -, ⟨k3, l3⟩, -⟩ := id ho
  refine MS_v [vr o, vi k] rfl rfl k0 rfl ?_
  try simp only [awu 164 0, pe164, xs, i_load, i_loadR, i_inc, lg, lp, true_and, and_true, List.length_cons, List.length_nil, Nat.reduceAdd, Nat.reduceLeDiff, Nat.zero_le, Int.toNat_natCast, natLit, k0]
  refine sp_fname ho hn hC ?_
  dsimp only
  by_cases hk : 0 ≤ k ∧ k < n ∧ F.1 k.toNat = k.toNat
  · rw [if_pos hk]
    have e3 := (hC.2.1 k.toNat (by omega)).2.2
    have h1 := h1 hk
    try simp only [awu 164 1, awu 164 2, awu 164 3, awu 164 4, pe164, xs, i_load, i_loadR, i_inc, lg, lp, true_and, and_true, List.length_cons, List.length_nil, Nat.reduceAdd, Nat.reduceLeDiff, Nat.zero_le, Int.toNat_natCast, natLit, k0, k3, l3, e3]
    refine ⟨fun a => absurd a (by decide), fun _ => ⟨by omega, ?_⟩⟩
    rcases hF.2.2.1 k.toNat (by omega) with e | e
    · rw [e] at h1 ⊢
      exact ⟨fun _ => ⟨ok01_0, h1⟩, fun a => absurd rfl a⟩
    · rw [e] at h1 ⊢
      exact ⟨fun a => absurd a (by decide), fun _ => ⟨ok01_1, h1⟩⟩
  · rw [if_neg hk]
    try simp only [awu 164 1, awu 164 2, awu 164 3, awu 164 4, pe164, xs, i_load, i_loadR, i_inc, lg, lp, true_and, and_true, List.length_cons, List.length_nil, Nat.reduceAdd, Nat.reduceLeDiff, Nat.zero_le, Int.toNat_natCast, natLit, k0, k3, l3]
    exact ⟨fun _ => ⟨ok01_0, h0 hk⟩, fun a => absurd trivial a⟩
def rdn (F : FS) (k : Nat) (v : Int) : FS := (F.1, F.2.1, upf F.2.2.1 k v, F.2.2.2)
theorem sp_fredden {d o n k : Nat} {st : St} {F : FS} {v : Int} {Q : Rn} (ho : isFd o) (hn : n ≤ 120) (hC : CR st o n F) (hv : ok01 v) (hk : k < n) (hu : F.1 k = k) (hq : Q none (up2 st (o + 3) k v)) : MS (d + 2) 165 [vr o, vi k, vi v] st Q := by
  obtain ⟨k0, -, -, ⟨k3, l3⟩, -⟩ := id ho
  refine MS_v [vr o, vi k, vi v] rfl rfl k0 rfl ?_
  try simp only [awu 165 0, pe165, xs, i_load, i_loadR, i_inc, lg, lp, true_and, and_true, List.length_cons, List.length_nil, Nat.reduceAdd, Nat.reduceLeDiff, Nat.zero_le, Int.toNat_natCast, natLit, k0]
  refine sp_fname ho hn hC ?_
  dsimp only
  rw [if_pos ⟨by omega, by omega, by rw [Int.toNat_natCast]; exact hu⟩]
  try simp only [awu 165 1, awu 165 2, pe165, xs, i_load, i_loadR, i_inc, lg, lp, true_and, and_true, List.length_cons, List.length_nil, Nat.reduceAdd, Nat.reduceLeDiff, Nat.zero_le, Int.toNat_natCast, natLit, k0, k3, l3]
  exact ⟨fun a => absurd a (by decide), fun _ => ⟨by omega, hv, hq⟩⟩
theorem CR_rdn {st : St} {o n k : Nat} {F : FS} {v : Int} (hC : CR st o n F) : CR (up2 st (o + 3) k v) o n (rdn F k v) := by
  obtain ⟨h1, h2, h3, h4, h5⟩ := hC
  refine ⟨by rw [up2_ne (by omega)]; exact h1, fun i hi => ?_, fun i hi => by rw [up2_ne (by omega)]; exact h3 i hi, by rw [up2_ne (by omega)]; exact h4, by rw [up2_ne (by omega)]; exact h5⟩
  obtain ⟨q1, q2, q3⟩ := h2 i hi
  rw [up2_ne (by omega), up2_ne (by omega), up2_self]
  refine ⟨q1, q2, ?_⟩
  show upf (st (o + 3)) k v i = upf F.2.2.1 k v i
  unfold upf
  split
  · rfl
  · exact q3
/-- where an arrow leads -/
def fl (F : FS) (n : Nat) (k : Int) (l : Nat) : Int := if 0 ≤ k ∧ k < n ∧ F.1 k.toNat = k.toNat ∧ F.2.2.2 (4 * k.toNat + l) ≠ -1 then (rt F.1 (F.2.2.2 (4 * k.toNat + l)).toNat : Int) else -1
theorem sp_ffollow {d o n l : Nat} {st : St} {F : FS} {k : Int} {Q : Rn} (ho : isFd o) (hn : n ≤ 120) (hC : CR st o n F) (hF : FI n F) (hl : l < 4) (hq : Q (vi (fl F n k l)) st) : MS (d + 2) 166 [vr o, vi k, vi l] st Q := by
  obtain ⟨k0, -, -, -, ⟨k4, l4⟩, -⟩ := id ho
  refine MS_v [vr o, vi k, vi l] rfl rfl k0 rfl ?_
  try simp only [awu 166 0, pe166, xs, i_load, i_loadR, i_inc, lg, lp, true_and, and_true, List.length_cons, List.length_nil, Nat.reduceAdd, Nat.reduceLeDiff, Nat.zero_le, Int.toNat_natCast, natLit, k0]
  refine sp_fname ho hn hC ?_
  dsimp only
  unfold fl at hq
  by_cases hk : 0 ≤ k ∧ k < n ∧ F.1 k.toNat = k.toNat
  · rw [if_pos hk]
    obtain ⟨a1, a2, a3⟩ := hk
    obtain ⟨kk, rfl⟩ : ∃ kk : Nat, k = kk := ⟨k.toNat, by omega⟩
    rw [Int.toNat_natCast] at a3 hq
    have e4 := hC.2.2.1 (4 * kk + l) (by omega)
    have e1 : Unit → wr ((kk : Int) * 4) = ((4 * kk : Nat) : Int) := fun _ => by rw [wr_id (by omega) (by omega)]; omega
    have e2 : Unit → wr (((4 * kk : Nat) : Int) + (l : Int)) = ((4 * kk + l : Nat) : Int) := fun _ => by rw [wr_id (by omega) (by omega)]; omega
    have hb := hF.2.2.2 (4 * kk + l) (by omega)
    try simp only [awu 166 1, awu 166 2, awu 166 3, awu 166 4, pe166, xs, i_load, i_loadR, i_inc, lg, lp, true_and, and_true, List.length_cons, List.length_nil, Nat.reduceAdd, Nat.reduceLeDiff, Nat.zero_le, Int.toNat_natCast, natLit, k0, k4, l4, e1 (), e2 (), e4]
    refine ⟨fun a => absurd a (by decide), fun _ => ⟨fun h => by omega, fun _ => ⟨fun _ => ⟨by omega, ?_⟩, fun h => by omega⟩⟩⟩
    by_cases h1 : F.2.2.2 (4 * kk + l) = -1
    · rw [if_neg (fun h => h.2.2.2 h1)] at hq
      rw [h1]
      refine sp_fnofN ho hC ?_
      dsimp only
      exact hq
    · rw [if_pos ⟨a1, a2, a3, h1⟩] at hq
      have e5 : F.2.2.2 (4 * kk + l) = (((F.2.2.2 (4 * kk + l)).toNat : Nat) : Int) := by omega
      rw [e5]
      refine sp_fnof ho hn hC hF (by omega) ?_
      dsimp only
      exact hq
  · rw [if_neg hk]
    rw [if_neg (fun h => hk ⟨h.1, h.2.1, h.2.2.1⟩)] at hq
    try simp only [awu 166 1, awu 166 2, awu 166 3, pe166, xs, i_load, i_loadR, i_inc, lg, lp, true_and, and_true, List.length_cons, List.length_nil, Nat.reduceAdd, Nat.reduceLeDiff, Nat.zero_le, Int.toNat_natCast, natLit, k0]
    exact ⟨fun _ => hq, fun a => absurd trivial a⟩
