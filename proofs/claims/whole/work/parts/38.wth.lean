/-! what a merge is worth (class); names (reference) -/
def wth (how : Int) (F F' : FS) (n : Nat) : Int := if how = 1 then (cM F n : Int) - cM F' n else if how = 2 then (cR F n : Int) - cR F' n else 0
def scr (how : Int) (F : FS) (n i j : Nat) : Int := match mg F i j with
  | none => -1
  | some F' => wth how F F' n
theorem sp_fworth {d o n i j J : Nat} {how : Int} {st : St} {F : FS} {Q : Rn} (ho : isFd o) (hn : n ≤ 120) (hC : CR st o n F) (hF : FI n F) (hi : i < n) (hj : j < n) (hJ : st o 12 = J) (hJR : J + cR F n = n)
    (hq : ∀ st' : St, CR st' o n F → st' o 12 = J → (∀ q, q < J → st' (o + 5) q = st (o + 5) q ∧ st' (o + 6) q = st (o + 6) q) → (∀ q, q < o ∨ o + 9 ≤ q → st' q = st q) → Q (vi (scr how F n i j)) st') : MS (d + 3) 170 [vr o, vi how, vi i, vi j] st Q := by
  have k0 := ho.1
  obtain ⟨h9, -, -, h10, h11⟩ := id hC
  refine MS_v [vr o, vi how, vi i, vi j, none, none, none, none] rfl rfl k0 rfl ?_
  try simp only [awu 170 0, pe170, xs, i_load, i_loadR, i_inc, lg, lp, true_and, and_true, List.length_cons, List.length_nil, Nat.reduceAdd, Nat.reduceLeDiff, Nat.zero_le, Int.toNat_natCast, natLit, k0, hJ, h10, h11]
  refine sp_fjoin ho hn hC hF hi hj hJ hJR (fun F' s2 k g1 g2 g3 g4 g5 g6 => ?_) (fun s2 g1 g2 g3 g5 g6 => ?_)
  · dsimp only
    have hcl := Sg_len g4
    have c1 : cR F n ≤ n := cn_le n
    have c2 : cM F n ≤ n := cn_le n
    have c3 : cM F' n ≤ n := cn_le n
    have e10 := g2.2.2.2.1
    have e11 := g2.2.2.2.2
    have es : scr how F n i j = wth how F F' n := by unfold scr; rw [g1]
    have w1 : Unit → wr ((cM F n : Int) - (cM F' n : Nat)) = (cM F n : Int) - (cM F' n : Nat) := fun _ => by rw [wr_id (by omega) (by omega)]
    have w2 : Unit → wr ((cR F n : Int) - (cR F' n : Nat)) = (cR F n : Int) - (cR F' n : Nat) := fun _ => by rw [wr_id (by omega) (by omega)]
    have fin : ∀ v : Int, v = wth how F F' n → AW (P 170) Q (MS (d + 2)) 0 (fun _ => 0) 6 [vr o, vi how, vi i, vi j, vi J, vi (cR F n : Nat), vi (cM F n : Nat), vi v] [] s2 := by
      intro v hv
      rw [awu 170 6]
      try simp only [awu 170 6, pe170, xs, i_load, i_loadR, i_inc, lg, lp, true_and, and_true, List.length_cons, List.length_nil, Nat.reduceAdd, Nat.reduceLeDiff, Nat.zero_le, Int.toNat_natCast, natLit, k0]
      refine sp_ftake ho hn g2 g3 (by omega) g4 (fun s4 y1 y2 y3 y4 => ?_)
      dsimp only
      rw [hv, ← es]
      refine hq s4 y1 y2 (fun q hq => ?_) (fun q hq => ?_)
      · rw [y4 (o + 5) (by omega), y4 (o + 6) (by omega)]
        exact g5 q hq
      · rw [y4 q (by omega)]
        exact g6 q hq
    try simp only [awu 170 1, awu 170 2, awu 170 3, awu 170 4, awu 170 5, pe170, xs, i_load, i_loadR, i_inc, lg, lp, true_and, and_true, List.length_cons, List.length_nil, Nat.reduceAdd, Nat.reduceLeDiff, Nat.zero_le, Int.toNat_natCast, natLit, k0, e10, e11, w1 (), w2 ()]
    unfold wth at fin
    refine ⟨fun _ => ⟨fun h => ⟨fun h2 => ?_, fun h2 => ?_⟩, fun h => ?_⟩, fun h => absurd (by decide) h⟩
    · exact fin 0 (by rw [if_neg h, if_neg h2])
    · exact fin _ (by rw [if_neg h, if_pos (by omega)])
    · exact fin _ (by rw [if_pos (by omega)])
  · dsimp only
    have es : scr how F n i j = -1 := by unfold scr; rw [g1]
    try simp only [awu 170 1, awu 170 2, pe170, xs, i_load, i_loadR, i_inc, lg, lp, true_and, and_true, List.length_cons, List.length_nil, Nat.reduceAdd, Nat.reduceLeDiff, Nat.zero_le, Int.toNat_natCast, natLit, k0]
    refine ⟨fun h => absurd trivial h, fun _ => ?_⟩
    rw [← es]
    exact hq s2 g2 g3 g5 g6
/-! the reference -/
def MR (st : St) (n a : Nat) (F : FS) : Prop := st 99 14 = n ∧ st 99 2 = a ∧ (∀ k, k < n → st 109 k = (if F.1 k = k then -1 else (F.1 k : Int)) ∧ st 110 k = F.2.1 k ∧ st 111 k = F.2.2.1 k) ∧ (∀ k, k < 4 * n → st 112 k = F.2.2.2 k) ∧ st 99 19 = (cR F n : Nat)
def LA (n a : Nat) (F : FS) : Prop := ∀ k l, k < n → a ≤ l → l < 4 → F.2.2.2 (4 * k + l) = -1
theorem LA_ab {n a x y : Nat} {F : FS} (h : LA n a F) (hx : x < n) (hy : y < n) : LA n a (ab F x y) := by
  intro k l hk h1 h2
  show abk F x y 4 (4 * k + l) = -1
  unfold abk
  split
  · rename_i q
    have : k = x := by omega
    subst this
    rw [show 4 * y + (4 * k + l - 4 * k) = 4 * y + l by omega]
    exact h y l hy h1 h2
  · exact h k l hk h1 h2
theorem sp_mnof {d n a : Nat} {st : St} {F : FS} {node : Nat} {Q : Rn} (hn : n ≤ 120) (hC : MR st n a F) (hF : FI n F) (hk : node < n) (hq : Q (vi (rt F.1 node : Nat)) st) : MS (d + 1) 61 [vr 99, vi node] st Q := by
  have k0 : kl 99 = 12 := rfl
  have k1 : kl 109 = 50 := rfl
  have l1 : len 109 = 161 := rfl
  obtain ⟨-, -, h1, -⟩ := hC
  refine MS_v [vr 99, vi node, none] rfl rfl rfl rfl ?_
  try simp only [awu 61 0, pe61, xs, i_load, i_loadR, i_inc, lg, lp, true_and, and_true, List.length_cons, List.length_nil, Nat.reduceAdd, Nat.reduceLeDiff, Nat.zero_le, Int.toNat_natCast, natLit, k0]
  have key : ∀ m k : Nat, k ≤ m → k < n → rt F.1 k = rt F.1 node → AW (P 61) Q (MS d) 0 (fun _ => 0) 1 [vr 99, vi node, vi k] [] st := by
    intro m
    induction m with
    | zero =>
      intro k g1 g2 g4
      have hu := hF.1 k g2
      have h0 : rt F.1 k = k := rt_self (by omega)
      rw [← g4, h0] at hq
      have e := (h1 k g2).1
      rw [if_pos (by omega)] at e
      rw [awu 61 1]
      try simp only [awu 61 3, pe61, xs, i_load, i_loadR, i_inc, lg, lp, true_and, and_true, List.length_cons, List.length_nil, Nat.reduceAdd, Nat.reduceLeDiff, Nat.zero_le, Int.toNat_natCast, natLit, k0, k1, l1, e]
      exact ⟨by omega, fun _ => hq, fun h => absurd trivial h⟩
    | succ m ih =>
      intro k g1 g2 g4
      have hu := hF.1 k g2
      have e := (h1 k g2).1
      by_cases hr : F.1 k = k
      · have h0 : rt F.1 k = k := rt_self (by omega)
        rw [← g4, h0] at hq
        rw [if_pos hr] at e
        rw [awu 61 1]
        try simp only [awu 61 3, pe61, xs, i_load, i_loadR, i_inc, lg, lp, true_and, and_true, List.length_cons, List.length_nil, Nat.reduceAdd, Nat.reduceLeDiff, Nat.zero_le, Int.toNat_natCast, natLit, k0, k1, l1, e]
        exact ⟨by omega, fun _ => hq, fun h => absurd trivial h⟩
      · rw [if_neg hr] at e
        rw [awu 61 1]
        try simp only [awu 61 2, awu 61 3, pe61, xs, i_load, i_loadR, i_inc, lg, lp, true_and, and_true, List.length_cons, List.length_nil, Nat.reduceAdd, Nat.reduceLeDiff, Nat.zero_le, Int.toNat_natCast, natLit, k0, k1, l1, e]
        refine ⟨by omega, fun h => by omega, fun _ => ⟨by omega, ?_⟩⟩
        exact ih (F.1 k) (by omega) (by omega) (by rw [← rt_eq (by omega)]; exact g4)
  exact key node node (Nat.le_refl _) hk rfl
theorem sp_mname {d n a : Nat} {st : St} {F : FS} {k : Int} {Q : Rn} (hn : n ≤ 120) (hC : MR st n a F) (h1 : isN F n k → Q (vi 1) st) (h0 : ¬ isN F n k → Q (vi 0) st) : MS (d + 2) 62 [vr 99, vi k] st Q := by
  have k0 : kl 99 = 12 := rfl
  have k1 : kl 109 = 50 := rfl
  have l1 : len 109 = 161 := rfl
  obtain ⟨h14, -, ht, -⟩ := hC
  have ew : Unit → wr ((n : Int) - 1) = (n : Int) - 1 := fun _ => by rw [wr_id (by omega) (by omega)]
  refine MS_v [vr 99, vi k] rfl rfl rfl rfl ?_
  try simp only [awu 62 0, pe62, xs, i_load, i_loadR, i_inc, lg, lp, true_and, and_true, List.length_cons, List.length_nil, Nat.reduceAdd, Nat.reduceLeDiff, Nat.zero_le, Int.toNat_natCast, natLit, k0, h14, ew ()]
  refine sp_isIn ?_
  dsimp only
  by_cases hk : 0 ≤ k ∧ k < n
  · rw [if_pos (by omega)]
    have e := (ht k.toNat (by omega)).1
    try simp only [awu 62 1, awu 62 2, awu 62 3, awu 62 4, pe62, xs, i_load, i_loadR, i_inc, lg, lp, true_and, and_true, List.length_cons, List.length_nil, Nat.reduceAdd, Nat.reduceLeDiff, Nat.zero_le, Int.toNat_natCast, natLit, k0, k1, l1, e]
    refine ⟨fun h => absurd h (by decide), fun _ => ⟨by omega, ?_⟩⟩
    by_cases hr : F.1 k.toNat = k.toNat
    · rw [if_pos hr]
      exact ⟨fun h => absurd rfl h, fun _ => ⟨ok01_1, h1 ⟨hk.1, hk.2, hr⟩⟩⟩
    · rw [if_neg hr]
      exact ⟨fun _ => ⟨ok01_0, h0 (fun z => hr z.2.2)⟩, fun h => by omega⟩
  · rw [if_neg (by omega)]
    try simp only [awu 62 1, awu 62 2, awu 62 3, awu 62 4, pe62, xs, i_load, i_loadR, i_inc, lg, lp, true_and, and_true, List.length_cons, List.length_nil, Nat.reduceAdd, Nat.reduceLeDiff, Nat.zero_le, Int.toNat_natCast, natLit, k0, k1, l1]
    exact ⟨fun _ => ⟨ok01_0, h0 (fun z => hk ⟨z.1, z.2.1⟩)⟩, fun h => absurd trivial h⟩
theorem sp_mtwo {d n a : Nat} {st : St} {F : FS} {i j : Int} {Q : Rn} (hn : n ≤ 120) (hC : MR st n a F) (h1 : i ≠ j → isN F n i → isN F n j → Q (vi 1) st) (h0 : ¬ (i ≠ j ∧ isN F n i ∧ isN F n j) → Q (vi 0) st) : MS (d + 3) 91 [vr 99, vi i, vi j] st Q := by
  have k0 : kl 99 = 12 := rfl
  refine MS_v [vr 99, vi i, vi j] rfl rfl rfl rfl ?_
  try simp only [awu 91 0, pe91, xs, i_load, i_loadR, i_inc, lg, lp, true_and, and_true, List.length_cons, List.length_nil, Nat.reduceAdd, Nat.reduceLeDiff, Nat.zero_le, Int.toNat_natCast, natLit, k0]
  refine sp_mname hn hC (fun hi => ?_) (fun hi => ?_)
  · dsimp only
    try simp only [awu 91 1, awu 91 2, awu 91 3, awu 91 4, awu 91 5, pe91, xs, i_load, i_loadR, i_inc, lg, lp, true_and, and_true, List.length_cons, List.length_nil, Nat.reduceAdd, Nat.reduceLeDiff, Nat.zero_le, Int.toNat_natCast, natLit, k0]
    refine ⟨fun h => absurd h (by decide), fun _ => ?_⟩
    refine sp_mname hn hC (fun hj => ?_) (fun hj => ?_)
    · dsimp only
      try simp only [awu 91 1, awu 91 2, awu 91 3, awu 91 4, awu 91 5, pe91, xs, i_load, i_loadR, i_inc, lg, lp, true_and, and_true, List.length_cons, List.length_nil, Nat.reduceAdd, Nat.reduceLeDiff, Nat.zero_le, Int.toNat_natCast, natLit, k0]
      refine ⟨fun h => absurd h (by decide), fun _ => ⟨fun e => ⟨ok01_0, h0 (fun z => z.1 e)⟩, fun e => ⟨ok01_1, h1 e hi hj⟩⟩⟩
    · dsimp only
      try simp only [awu 91 1, awu 91 2, awu 91 3, awu 91 4, awu 91 5, pe91, xs, i_load, i_loadR, i_inc, lg, lp, true_and, and_true, List.length_cons, List.length_nil, Nat.reduceAdd, Nat.reduceLeDiff, Nat.zero_le, Int.toNat_natCast, natLit, k0]
      exact ⟨fun _ => ⟨ok01_0, h0 (fun z => hj z.2.2)⟩, fun h => absurd trivial h⟩
  · dsimp only
    try simp only [awu 91 1, awu 91 2, awu 91 3, awu 91 4, awu 91 5, pe91, xs, i_load, i_loadR, i_inc, lg, lp, true_and, and_true, List.length_cons, List.length_nil, Nat.reduceAdd, Nat.reduceLeDiff, Nat.zero_le, Int.toNat_natCast, natLit, k0]
    exact ⟨fun _ => ⟨ok01_0, h0 (fun z => hi z.2.1)⟩, fun h => absurd trivial h⟩
