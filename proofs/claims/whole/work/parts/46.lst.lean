/-! steps of the class -/
theorem cn_0 {p : Nat → Bool} : ∀ {k : Nat}, (∀ j, j < k → p j = false) → cn p k = 0
  | 0, _ => rfl
  | k + 1, h => by
    rw [cn_s, h k (by omega), cn_0 (fun j hj => h j (by omega))]
    rfl
theorem cn_inj {p : Nat → Bool} {i j : Nat} (hi : p i = true) (hj : p j = true) (h : cn p i = cn p j) : i = j := by
  rcases Nat.lt_trichotomy i j with z | z | z
  · have := cn_lt z hi
    omega
  · exact z
  · have := cn_lt z hj
    omega
theorem sp_doFirst {d o n b : Nat} {st : St} {F0 F : FS} {D : List Dd} {Q : Rn} (ho : isLn o) (hn : n ≤ 120) (hC : LC st o n F0 D F) (hP : PT st o n F) (hD : D.length < 200) (hb : b < n) (hbl : blB F n b = true)
    (hq : ∀ st' : St, LC st' o n F0 ((stpF F n).1 :: D) (stpF F n).2 → FrL o st st' → Q none st') : MS (d + 4) 179 [vr o] st Q := by
  obtain ⟨k0, hf, ⟨k11, l11⟩, ⟨k12, l12⟩, -⟩ := id ho
  have hF := hC.2.1
  obtain ⟨b, hfs⟩ : ∃ b, fs (blB F n) n = some b := by
    cases e : fs (blB F n) n with
    | none => rw [fs_none.mp e b hb] at hbl; exact (nomatch hbl)
    | some k => exact ⟨k, rfl⟩
  obtain ⟨hb, hbl, hbf⟩ := fs_some.mp hfs
  obtain ⟨ub, rb⟩ := nrB_d hF hb (blB_nr hbl)
  have hb0 : cn (blB F n) b = 0 := cn_0 hbf
  have key : ∀ m j : Nat, ∀ s2 : St, j + m = cn (rdB F) n → LC s2 o n F0 D F → FrL o st s2 → (∀ r, r < n → rdB F r = true → cn (rdB F) r < j → mg F b r = none) → AW (P 179) Q (MS (d + 3)) 0 (fun _ => 0) 1 [vr o, vi j] [] s2 := by
    intro m
    induction m with
    | zero =>
      intro j s2 g1 g2 g3 g4
      have p2 := PT_fr g3 hP
      have e12 : s2 (o + 12) 0 = (b : Nat) := by
        have := p2.2.2.2 b hb hbl
        rw [hb0] at this
        exact this
      have e8 := p2.1
      rw [awu 179 1]
      try simp only [awu 179 5, pe179, xs, i_load, i_loadR, i_inc, lg, lp, true_and, and_true, List.length_cons, List.length_nil, Nat.reduceAdd, Nat.reduceLeDiff, Nat.zero_le, Int.toNat_natCast, natLit, k0, k12, l12, e8, Int.toNat_zero, e12]
      refine ⟨fun _ => ⟨by omega, ?_⟩, fun h => by omega⟩
      refine sp_doRedden ho hn g2 hD hb ub rb (fun s3 y1 y2 => ?_)
      dsimp only
      refine hq s3 ?_ (FrL_t g3 y2)
      have e : stpF F n = ((b, -1, 0), rdn F b 1) := by
        unfold stpF
        rw [hfs]
        dsimp only
        rw [fs_none.mpr (fun r hr => ?_)]
        cases hr2 : rdB F r
        · rfl
        · rw [g4 r hr hr2 (by have := cn_lt hr hr2; omega)]
          rfl
      rw [e]
      exact y1
    | succ m ih =>
      intro j s2 g1 g2 g3 g4
      have p2 := PT_fr g3 hP
      have e12 : s2 (o + 12) 0 = (b : Nat) := by
        have := p2.2.2.2 b hb hbl
        rw [hb0] at this
        exact this
      have e8 := p2.1
      have hc : cn (rdB F) n ≤ n := cn_le n
      obtain ⟨r, hr, hrd, hrj⟩ := cn_ix (show j < cn (rdB F) n by omega)
      have e11 : s2 (o + 11) j = (r : Nat) := by
        have := p2.2.2.1 r hr hrd
        rw [hrj] at this
        exact this
      obtain ⟨ur, rr⟩ := (rdB_d (n := n)).mp hrd
      have hbr : b ≠ r := fun e => by rw [e] at rb; omega
      have w : Unit → wr ((j : Int) + 1) = ((j + 1 : Nat) : Int) := fun _ => by rw [wr_id (by omega) (by omega)]; omega
      rw [awu 179 1]
      try simp only [awu 179 2, pe179, xs, i_load, i_loadR, i_inc, lg, lp, true_and, and_true, List.length_cons, List.length_nil, Nat.reduceAdd, Nat.reduceLeDiff, Nat.zero_le, Int.toNat_natCast, natLit, k0, k12, l12, k11, l11, e8, Int.toNat_zero, e12, e11]
      refine ⟨fun h => by omega, fun _ => ⟨by omega, by omega, ?_⟩⟩
      refine sp_doMerge ho hn g2 hD hb hr hbr ub ur (fun F' s3 y1 y2 y3 => ?_) (fun s3 y1 y2 y3 => ?_)
      · dsimp only
        try simp only [awu 179 3, pe179, xs, i_load, i_loadR, i_inc, lg, lp, true_and, and_true, List.length_cons, List.length_nil, Nat.reduceAdd, Nat.reduceLeDiff, Nat.zero_le, Int.toNat_natCast, natLit, k0]
        refine ⟨fun h => absurd h (by decide), fun _ => hq s3 ?_ (FrL_t g3 y3)⟩
        have e : stpF F n = ((b, (r : Int), 0), F') := by
          unfold stpF
          rw [hfs]
          dsimp only
          have : fs (fun r => rdB F r && (mg F b r).isSome) n = some r := fs_some.mpr ⟨hr, by rw [hrd, y1]; rfl, fun i hi => by
            cases hi2 : rdB F i
            · rfl
            · rw [g4 i (by omega) hi2 (by have := cn_lt hi hi2; omega)]
              rfl⟩
          rw [this]
          dsimp only
          rw [y1]
          rfl
        rw [e]
        exact y2
      · dsimp only
        try simp only [awu 179 4, pe179, xs, i_load, i_loadR, i_inc, lg, lp, true_and, and_true, List.length_cons, List.length_nil, Nat.reduceAdd, Nat.reduceLeDiff, Nat.zero_le, Int.toNat_natCast, natLit, k0, w ()]
        refine ⟨fun _ => ih (j + 1) s3 (by omega) y2 (FrL_t g3 y3) (fun i h1 h2 h3 => ?_), fun h => absurd trivial h⟩
        rcases Nat.lt_or_ge (cn (rdB F) i) j with z | z
        · exact g4 i h1 h2 z
        · have : i = r := cn_inj h2 hrd (by omega)
          rw [this]
          exact y1
  refine MS_v [vr o, none] rfl rfl k0 rfl ?_
  try simp only [awu 179 0, pe179, xs, i_load, i_loadR, i_inc, lg, lp, true_and, and_true, List.length_cons, List.length_nil, Nat.reduceAdd, Nat.reduceLeDiff, Nat.zero_le, Int.toNat_natCast, natLit, k0]
  exact key (cn (rdB F) n) 0 st (by omega) hC FrL_r (fun r _ _ h => by omega)
def cmb (p : Int × Int × Int) (b : Int) (r : Int × Int) : Int × Int × Int := if p.1 < r.1 then (r.1, b, r.2) else p
theorem cmb_s {p : Int × Int × Int} {b : Int} {r : Int × Int} {v k : Int} : cmb p b (if r.1 < v then (v, k) else r) = if (cmb p b r).1 < v then (v, b, k) else cmb p b r := by
  unfold cmb
  by_cases h1 : r.1 < v
  · rw [if_pos h1]
    dsimp only
    by_cases h2 : p.1 < r.1
    · rw [if_pos h2, if_pos (show p.1 < v by omega), if_pos h1]
    · rw [if_neg h2]
  · rw [if_neg h1]
    by_cases h2 : p.1 < r.1
    · rw [if_pos h2, if_neg h1]
    · rw [if_neg h2, if_neg (by omega)]
set_option maxHeartbeats 1000000 in
theorem sp_doBest {d o n b : Nat} {how : Int} {st : St} {F0 F : FS} {D : List Dd} {Q : Rn} (ho : isLn o) (hn : n ≤ 120) (hC : LC st o n F0 D F) (hP : PT st o n F) (hD : D.length < 200) (hb : b < n) (hbl : blB F n b = true)
    (hq : ∀ st' : St, LC st' o n F0 ((stpB how F n).1 :: D) (stpB how F n).2 → FrL o st st' → Q none st') : MS (d + 4) 180 [vr o, vi how] st Q := by
  obtain ⟨k0, hf, ⟨k11, l11⟩, ⟨k12, l12⟩, -⟩ := id ho
  have k1 := hf.1
  have hF := hC.2.1
  have hcr : cn (rdB F) n ≤ n := cn_le n
  have hcb : cn (blB F n) n ≤ n := cn_le n
  have fw : ∀ (s2 s3 : St) (J : Nat), LC s2 o n F0 D F → s2 (o + 1) 12 = J → CR s3 (o + 1) n F → s3 (o + 1) 12 = J → (∀ q, q < J → s3 (o + 1 + 5) q = s2 (o + 1 + 5) q ∧ s3 (o + 1 + 6) q = s2 (o + 1 + 6) q) → (∀ q, q < o + 1 ∨ o + 1 + 9 ≤ q → s3 q = s2 q) → LC s3 o n F0 D F ∧ FrL o s2 s3 := by
    intro s2 s3 J g1 g2 g3 g4 g5 g6
    obtain ⟨c1, c2, ⟨J', j1, j2, j3⟩, c4, c5⟩ := g1
    have : J' = J := by omega
    subst this
    refine ⟨⟨g3, c2, ⟨J', g4, j2, CD_congr (fun q hq => ?_) g5 j3⟩, ?_, c5⟩, ⟨fun q hq => g6 q (by omega), ?_, ?_, g6 _ (by omega), g6 _ (by omega)⟩⟩
    · rw [g6 _ (by omega), g6 _ (by omega), g6 _ (by omega), g6 _ (by omega)]
      exact ⟨rfl, rfl, rfl, rfl⟩
    · rw [g6 o (by omega)]
      exact c4
    · rw [g6 o (by omega)]
    · rw [g6 o (by omega)]
  have keyr : ∀ (bb t : Nat) (p : Int × Int × Int), bb < n → blB F n bb = true → cn (blB F n) bb = t → (∀ (s2 : St) (u7 u8 : V), LC s2 o n F0 D F → FrL o st s2 → AW (P 180) Q (MS (d + 3)) 0 (fun _ => 0) 11 [vr o, vi how, vi (cmb p bb (rowM how F n bb n)).1, vi (cmb p bb (rowM how F n bb n)).2.1, vi (cmb p bb (rowM how F n bb n)).2.2, vi t, vi (if (rowM how F n bb n).1 = -1 then 0 else 1), u7, u8] [] s2) → ∀ m j : Nat, ∀ (k : Nat) (s2 : St) (u8 : V), j + m = cn (rdB F) n → k ≤ n → cn (rdB F) k = j → LC s2 o n F0 D F → FrL o st s2 → AW (P 180) Q (MS (d + 3)) 0 (fun _ => 0) 3 [vr o, vi how, vi (cmb p bb (rowM how F n bb k)).1, vi (cmb p bb (rowM how F n bb k)).2.1, vi (cmb p bb (rowM how F n bb k)).2.2, vi t, vi (if (rowM how F n bb k).1 = -1 then 0 else 1), vi j, u8] [] s2 := by
    intro bb t p hbb hbbl hbt hcont m
    induction m with
    | zero =>
      intro j k s2 u8 g1 g2 g3 g4 g5
      have p2 := PT_fr g5 hP
      have e8 := p2.1
      have er : rowM how F n bb k = rowM how F n bb n := cn_eq' (p := rdB F) (rowM how F n bb) (fun i hi => by rw [rowM_s, hi]; rfl) (by omega)
      rw [er]
      rw [awu 180 3]
      try simp only [awu 180 3, pe180, xs, i_load, i_loadR, i_inc, lg, lp, true_and, and_true, List.length_cons, List.length_nil, Nat.reduceAdd, Nat.reduceLeDiff, Nat.zero_le, Int.toNat_natCast, natLit, k0, e8]
      exact ⟨fun _ => hcont s2 _ _ g4 g5, fun h => by omega⟩
    | succ m ih =>
      intro j k s2 u8 g1 g2 g3 g4 g5
      have p2 := PT_fr g5 hP
      have e8 := p2.1
      obtain ⟨r, hr, hrd, hrj⟩ := cn_ix (show j < cn (rdB F) n by omega)
      have e11 : s2 (o + 11) j = (r : Nat) := by
        have := p2.2.2.1 r hr hrd
        rw [hrj] at this
        exact this
      have e12 : s2 (o + 12) t = (bb : Nat) := by
        have := p2.2.2.2 bb hbb hbbl
        rw [hbt] at this
        exact this
      have htb : t < n := by have := cn_lt hbb hbbl; omega
      have er : rowM how F n bb k = rowM how F n bb r := cn_eq' (p := rdB F) (rowM how F n bb) (fun i hi => by rw [rowM_s, hi]; rfl) (by omega)
      rw [er]
      have es : rowM how F n bb (r + 1) = if (rowM how F n bb r).1 < scr how F n bb r then (scr how F n bb r, (r : Int)) else rowM how F n bb r := by
        rw [rowM_s, hrd, Bool.true_and]
        by_cases z : (rowM how F n bb r).1 < scr how F n bb r
        · rw [if_pos (decide_eq_true z), if_pos z]
        · rw [if_neg (by simpa using z), if_neg z]
      have hrb := rowM_1 (how := how) hF hbb r (by omega)
      have hsb := (scr_b (how := how) hF hbb hr).2
      have w : Unit → wr ((j : Int) + 1) = ((j + 1 : Nat) : Int) := fun _ => by rw [wr_id (by omega) (by omega)]; omega
      have ih := fun s3 g4 g5 => ih (j + 1) (r + 1) s3 (vi (scr how F n bb r)) (by omega) (by omega) (by rw [cn_s, hrd, hrj]; rfl) g4 g5
      rw [es, cmb_s] at ih
      obtain ⟨c1, c2, ⟨J, j1, j2, j3⟩, c4, c5⟩ := id g4
      rw [awu 180 3]
      try simp only [awu 180 4, pe180, xs, i_load, i_loadR, i_inc, lg, lp, true_and, and_true, List.length_cons, List.length_nil, Nat.reduceAdd, Nat.reduceLeDiff, Nat.zero_le, Int.toNat_natCast, natLit, k0, k11, l11, k12, l12, e8, e11, e12]
      refine ⟨fun h => by omega, fun _ => ⟨by omega, by omega, ?_⟩⟩
      refine sp_fworth hf hn c1 c2 hbb hr j1 j2 (fun s3 y1 y2 y3 y4 => ?_)
      dsimp only
      obtain ⟨z1, z2⟩ := fw s2 s3 J g4 j1 y1 y2 y3 y4
      have ih := ih s3 z1 (FrL_t g5 z2)
      have p3 := PT_fr (FrL_t g5 z2) hP
      have e11 : s3 (o + 11) j = (r : Nat) := by
        have := p3.2.2.1 r hr hrd
        rw [hrj] at this
        exact this
      have e12 : s3 (o + 12) t = (bb : Nat) := by
        have := p3.2.2.2 bb hbb hbbl
        rw [hbt] at this
        exact this
      generalize scr how F n bb r = v at *
      generalize rowM how F n bb r = row at *
      have b10 : ∀ f : Int, f = (if (if row.1 < v then (v, (r : Int)) else row).1 = -1 then 0 else 1) → AW (P 180) Q (MS (d + 3)) 0 (fun _ => 0) 8 [vr o, vi how, vi (cmb p bb row).1, vi (cmb p bb row).2.1, vi (cmb p bb row).2.2, vi t, vi (if row.1 = -1 then 0 else 1), vi j, vi v] [vi f] s3 := by
        intro f hf
        rw [← hf] at ih
        rw [awu 180 8]
        try simp only [awu 180 9, awu 180 10, pe180, xs, i_load, i_loadR, i_inc, lg, lp, true_and, and_true, List.length_cons, List.length_nil, Nat.reduceAdd, Nat.reduceLeDiff, Nat.zero_le, Int.toNat_natCast, natLit, k0, k11, l11, k12, l12, e11, e12, w ()]
        refine ⟨fun h => ?_, fun h => ⟨by omega, by omega, ?_⟩⟩
        · rw [if_neg (by omega)] at ih
          exact ih
        · rw [if_pos (by omega)] at ih
          exact ih
      try simp only [awu 180 5, awu 180 6, awu 180 7, pe180, xs, i_load, i_loadR, i_inc, lg, lp, true_and, and_true, List.length_cons, List.length_nil, Nat.reduceAdd, Nat.reduceLeDiff, Nat.zero_le, Int.toNat_natCast, natLit, k0]
      refine ⟨fun h => ?_, fun h => ⟨fun h2 => ?_, fun h2 => ?_⟩⟩
      · refine b10 1 ?_
        by_cases z : row.1 = -1
        · rw [if_pos z] at h
          exact absurd rfl h
        · by_cases y : row.1 < v
          · rw [if_pos y, if_neg (by dsimp only; omega)]
          · rw [if_neg y, if_neg z]
      · refine b10 0 ?_
        by_cases z : row.1 = -1
        · rw [if_neg (show ¬ row.1 < v by omega), if_pos z]
        · rw [if_neg z] at h
          exact absurd h (by decide)
      · refine b10 1 ?_
        by_cases z : row.1 = -1
        · rw [if_pos (show row.1 < v by omega), if_neg (by dsimp only; omega)]
        · rw [if_neg z] at h
          exact absurd h (by decide)
  have key : ∀ m t : Nat, ∀ (k : Nat) (s2 : St) (u6 u7 u8 : V), t + m = cn (blB F n) n → k ≤ n → cn (blB F n) k = t → (∀ i, i < n → blB F n i = true → cn (blB F n) i < t → (rowM how F n i n).1 ≠ -1) → LC s2 o n F0 D F → FrL o st s2 → AW (P 180) Q (MS (d + 3)) 0 (fun _ => 0) 1 [vr o, vi how, vi (bstM how F n k).1, vi (bstM how F n k).2.1, vi (bstM how F n k).2.2, vi t, u6, u7, u8] [] s2 := by
    intro m
    induction m with
    | zero =>
      intro t k s2 u6 u7 u8 g1 g2 g3 g4 g5 g6
      have p2 := PT_fr g6 hP
      have e9 := p2.2.1
      have er : bstM how F n k = bstM how F n n := cn_eq' (p := blB F n) (bstM how F n) (fun i hi => by rw [bstM_s, hi]; rfl) (by omega)
      rw [er]
      have hnone : fs (fun b => blB F n b && (rowM how F n b n).1 == -1) n = none := fs_none.mpr (fun i hi => by
        cases hi2 : blB F n i
        · rfl
        · have := g4 i hi hi2 (by have := cn_lt hi hi2; omega)
          simp [this])
      rcases bstM_d (how := how) hF n (Nat.le_refl _) with ⟨e1, e2⟩ | ⟨b', r', h1, h2, h3, h4, h5, h6⟩
      · exact absurd (e2 b hb hbl) (g4 b hb hbl (by have := cn_lt hb hbl; omega))
      · obtain ⟨ub, rb⟩ := nrB_d hF h1 (blB_nr h3)
        obtain ⟨ur, rr⟩ := (rdB_d (n := n)).mp h4
        have hbr : b' ≠ r' := fun e => by rw [e] at rb; omega
        have es : stpB how F n = ((b', (r' : Int), scr how F n b' r'), (mg F b' r').getD F) := by
          unfold stpB
          rw [hnone]
          dsimp only
          rw [h5]
          dsimp only
          rw [Int.toNat_natCast, Int.toNat_natCast]
        rw [es] at hq
        rw [h5]
        dsimp only
        rw [awu 180 1]
        try simp only [awu 180 14, pe180, xs, i_load, i_loadR, i_inc, lg, lp, true_and, and_true, List.length_cons, List.length_nil, Nat.reduceAdd, Nat.reduceLeDiff, Nat.zero_le, Int.toNat_natCast, natLit, k0, e9]
        refine ⟨fun _ => ?_, fun h => by omega⟩
        refine sp_doMerge ho hn g5 hD h1 h2 hbr ub ur (fun F' s3 y1 y2 y3 => ?_) (fun s3 y1 y2 y3 => absurd y1 h6)
        dsimp only
        try simp only [awu 180 14, pe180, xs, i_load, i_loadR, i_inc, lg, lp, true_and, and_true, List.length_cons, List.length_nil, Nat.reduceAdd, Nat.reduceLeDiff, Nat.zero_le, Int.toNat_natCast, natLit, k0]
        rw [y1] at hq
        exact hq s3 y2 (FrL_t g6 y3)
    | succ m ih =>
      intro t k s2 u6 u7 u8 g1 g2 g3 g4 g5 g6
      have p2 := PT_fr g6 hP
      have e9 := p2.2.1
      obtain ⟨bb, hbb, hbbl, hbt⟩ := cn_ix (show t < cn (blB F n) n by omega)
      have er : bstM how F n k = bstM how F n bb := cn_eq' (p := blB F n) (bstM how F n) (fun i hi => by rw [bstM_s, hi]; rfl) (by omega)
      rw [er]
      have es : bstM how F n (bb + 1) = cmb (bstM how F n bb) bb (rowM how F n bb n) := by
        rw [bstM_s, hbbl, Bool.true_and]
        unfold cmb
        by_cases z : (bstM how F n bb).1 < (rowM how F n bb n).1
        · rw [if_pos (decide_eq_true z), if_pos z]
        · rw [if_neg (by simpa using z), if_neg z]
      have ih := fun s2 u6 u7 u8 g4 g5 g6 => ih (t + 1) (bb + 1) s2 u6 u7 u8 (by omega) (by omega) (by rw [cn_s, hbbl, hbt]; rfl) g4 g5 g6
      rw [es] at ih
      have w : Unit → wr ((t : Int) + 1) = ((t + 1 : Nat) : Int) := fun _ => by rw [wr_id (by omega) (by omega)]; omega
      have hk := keyr bb t (bstM how F n bb) hbb hbbl hbt (fun s3 u7 u8 y1 y2 => by
        have p3 := PT_fr y2 hP
        have e12 : s3 (o + 12) t = (bb : Nat) := by
          have := p3.2.2.2 bb hbb hbbl
          rw [hbt] at this
          exact this
        have htb : t < n := by have := cn_lt hbb hbbl; omega
        rw [awu 180 11]
        try simp only [awu 180 12, awu 180 13, pe180, xs, i_load, i_loadR, i_inc, lg, lp, true_and, and_true, List.length_cons, List.length_nil, Nat.reduceAdd, Nat.reduceLeDiff, Nat.zero_le, Int.toNat_natCast, natLit, k0, k12, l12, e12, w ()]
        by_cases z : (rowM how F n bb n).1 = -1
        · refine ⟨fun h => by rw [if_pos z] at h; exact absurd rfl h, fun _ => ⟨by omega, ?_⟩⟩
          obtain ⟨ub, rb⟩ := nrB_d hF hbb (blB_nr hbbl)
          have es : stpB how F n = ((bb, -1, 0), rdn F bb 1) := by
            unfold stpB
            have : fs (fun b => blB F n b && (rowM how F n b n).1 == -1) n = some bb := fs_some.mpr ⟨hbb, by rw [hbbl, z]; rfl, fun i hi => by
              cases hi2 : blB F n i
              · rfl
              · have := g4 i (by omega) hi2 (by have := cn_lt hi hi2; omega)
                simp [this]⟩
            rw [this]
          rw [es] at hq
          refine sp_doRedden ho hn y1 hD hbb ub rb (fun s4 x1 x2 => ?_)
          dsimp only
          exact hq s4 x1 (FrL_t y2 x2)
        · refine ⟨fun _ => ?_, fun h => by rw [if_neg z] at h; exact absurd h (by decide)⟩
          refine ih s3 _ _ _ (fun i h1 h2 h3 => ?_) y1 y2
          rcases Nat.lt_or_ge (cn (blB F n) i) t with y | y
          · exact g4 i h1 h2 y
          · have : i = bb := cn_inj h2 hbbl (by omega)
            rw [this]
            exact z) (cn (rdB F) n) 0 0 s2 u8 (by omega) (Nat.zero_le _) rfl g5 g6
      have hc0 : cmb (bstM how F n bb) bb (rowM how F n bb 0) = bstM how F n bb := by
        unfold cmb rowM
        rw [if_neg]
        dsimp only
        rcases bstM_d (how := how) hF bb (by omega) with ⟨e1, -⟩ | ⟨b', r', h1, h2, h3, h4, h5, h6⟩
        · rw [e1]; decide
        · rw [h5]
          have := (scr_b (how := how) hF (show b' < n by omega) h2).2
          dsimp only
          omega
      rw [hc0] at hk
      rw [awu 180 1]
      try simp only [awu 180 2, pe180, xs, i_load, i_loadR, i_inc, lg, lp, true_and, and_true, List.length_cons, List.length_nil, Nat.reduceAdd, Nat.reduceLeDiff, Nat.zero_le, Int.toNat_natCast, natLit, k0, e9]
      exact ⟨fun h => by omega, fun _ => hk⟩
  refine MS_v [vr o, vi how, none, none, none, none, none, none, none] rfl rfl k0 rfl ?_
  try simp only [awu 180 0, pe180, xs, i_load, i_loadR, i_inc, lg, lp, true_and, and_true, List.length_cons, List.length_nil, Nat.reduceAdd, Nat.reduceLeDiff, Nat.zero_le, Int.toNat_natCast, natLit, k0]
  exact key (cn (blB F n) n) 0 0 st none none none (by omega) (Nat.zero_le _) rfl (fun i _ _ h => by omega) hC FrL_r
theorem sp_doStep {d o n b : Nat} {how : Int} {st : St} {F0 F : FS} {D : List Dd} {Q : Rn} (ho : isLn o) (hn : n ≤ 120) (hC : LC st o n F0 D F) (hP : PT st o n F) (hD : D.length < 200) (hb : b < n) (hbl : blB F n b = true)
    (hq : ∀ st' : St, LC st' o n F0 ((stp how F n).1 :: D) (stp how F n).2 → FrL o st st' → Q none st') : MS (d + 5) 178 [vr o, vi how] st Q := by
  obtain ⟨k0, hf, -⟩ := id ho
  unfold stp at hq
  refine MS_v [vr o, vi how] rfl rfl k0 rfl ?_
  try simp only [awu 178 0, awu 178 1, awu 178 2, pe178, xs, i_load, i_loadR, i_inc, lg, lp, true_and, and_true, List.length_cons, List.length_nil, Nat.reduceAdd, Nat.reduceLeDiff, Nat.zero_le, Int.toNat_natCast, natLit, k0]
  refine ⟨fun h => ?_, fun h => ?_⟩
  · rw [if_neg h] at hq
    refine sp_doBest ho hn hC hP hD hb hbl (fun s2 y1 y2 => ?_)
    dsimp only
    try simp only [awu 178 3, pe178, xs, i_load, i_loadR, i_inc, lg, lp, true_and, and_true, List.length_cons, List.length_nil, Nat.reduceAdd, Nat.reduceLeDiff, Nat.zero_le, Int.toNat_natCast, natLit, k0]
    exact hq s2 y1 y2
  · rw [if_pos (by omega)] at hq
    refine sp_doFirst ho hn hC hP hD hb hbl (fun s2 y1 y2 => ?_)
    dsimp only
    try simp only [awu 178 3, pe178, xs, i_load, i_loadR, i_inc, lg, lp, true_and, and_true, List.length_cons, List.length_nil, Nat.reduceAdd, Nat.reduceLeDiff, Nat.zero_le, Int.toNat_natCast, natLit, k0]
    exact hq s2 y1 y2
