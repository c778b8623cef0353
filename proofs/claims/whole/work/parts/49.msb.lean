/-! the best step, learning, replay: the reference -/
theorem gap {α : Type} {p : Nat → Bool} (g : Nat → α) (hg : ∀ k, p k = false → g (k + 1) = g k) : ∀ m fr, (∀ j, fr ≤ j → j < fr + m → p j = false) → g (fr + m) = g fr
  | 0, _, _ => rfl
  | m + 1, fr, h => by
    rw [show fr + (m + 1) = (fr + m) + 1 from rfl, hg _ (h _ (by omega) (by omega))]
    exact gap g hg m fr (fun j h1 h2 => h j h1 (by omega))
set_option maxHeartbeats 1000000 in
theorem sp_stepBest {d n q b : Nat} {how : Int} {st : St} {F : FS} {D : List Dd} {Q : Rn} (hn : n ≤ 120) (hq4 : q ≤ 4) (hC : LM st n q D F) (hD : D.length < 200) (hh : 0 ≤ how ∧ how ≤ 2) (hb : b < n) (hbl : blB F n b = true)
    (hq : ∀ st' : St, LM st' n q ((stpB how F n).1 :: D) (stpB how F n).2 → FrD st st' → Q (vi (cR (stpB how F n).2 n : Nat)) st') : MS (d + 5) 74 [vr 99, vi how] st Q := by
  have k0 : kl 99 = 12 := rfl
  have k11 : kl 111 = 52 := rfl
  have l11 : len 111 = 161 := rfl
  have hF := hC.2.1
  have hL := hC.2.2.1
  have keyr : ∀ (bb : Nat) (p : Int × Int × Int), bb < n → blB F n bb = true → (∀ (s2 : St) (u9 : V), LM s2 n q D F → FrD st s2 → AW (P 74) Q (MS (d + 4)) 0 (fun _ => 0) 12 [vr 99, vi how, vi p.1, vi p.2.1, vi p.2.2, vi bb, vi (rowM how F n bb n).1, vi (rowM how F n bb n).2, vi n, u9] [] s2) → ∀ m r : Nat, ∀ (s2 : St) (u9 : V), r + m = n → LM s2 n q D F → FrD st s2 → AW (P 74) Q (MS (d + 4)) 0 (fun _ => 0) 3 [vr 99, vi how, vi p.1, vi p.2.1, vi p.2.2, vi bb, vi (rowM how F n bb r).1, vi (rowM how F n bb r).2, vi r, u9] [] s2 := by
    intro bb p hbb hbbl hcont m
    induction m with
    | zero =>
      intro r s2 u9 g1 g2 g3
      have : r = n := by omega
      subst this
      have h14 := g2.1.1
      rw [awu 74 3]
      try simp only [awu 74 3, pe74, xs, i_load, i_loadR, i_inc, lg, lp, true_and, and_true, List.length_cons, List.length_nil, Nat.reduceAdd, Nat.reduceLeDiff, Nat.zero_le, Int.toNat_natCast, natLit, k0, h14]
      exact ⟨fun _ => hcont s2 _ g2 g3, fun h => by omega⟩
    | succ m ih =>
      intro r s2 u9 g1 g2 g3
      have hr : r < n := by omega
      have h14 := g2.1.1
      have w : Unit → wr ((r : Int) + 1) = ((r + 1 : Nat) : Int) := fun _ => by rw [wr_id (by omega) (by omega)]; omega
      obtain ⟨m1, m2⟩ := sp_mred (d := d) (kk := 0) (b1 := 0) (b2 := 0) (b3 := 0) hn g2.1 hF hr
      have hrb := rowM_1 (how := how) hF hbb r (by omega)
      have nxt : ∀ (s3 : St) (v : Int) , LM s3 n q D F → FrD st s3 → (v = if rdB F r then scr how F n bb r else -1) → AW (P 74) Q (MS (d + 4)) 0 (fun _ => 0) 8 [vr 99, vi how, vi p.1, vi p.2.1, vi p.2.2, vi bb, vi (rowM how F n bb r).1, vi (rowM how F n bb r).2, vi r, u9] [vi v] s3 := by
        intro s3 v y1 y2 y3
        have ih := ih (r + 1) s3 (vi v) (by omega) y1 y2
        have es : rowM how F n bb (r + 1) = if (rowM how F n bb r).1 < v then (v, (r : Int)) else rowM how F n bb r := by
          rw [rowM_s, y3]
          cases hrd : rdB F r
          · simp only [Bool.false_and, Bool.false_eq_true, if_false]
            rw [if_neg (by omega)]
          · simp only [Bool.true_and, if_true, decide_eq_true_eq]
        rw [es] at ih
        rw [awu 74 8]
        try simp only [awu 74 9, awu 74 10, awu 74 11, pe74, xs, i_load, i_loadR, i_inc, lg, lp, true_and, and_true, List.length_cons, List.length_nil, Nat.reduceAdd, Nat.reduceLeDiff, Nat.zero_le, Int.toNat_natCast, natLit, k0, w ()]
        refine ⟨fun h => ?_, fun h => ?_⟩
        · rw [if_pos (by omega)] at ih
          exact ih
        · rw [if_neg (by omega)] at ih
          exact ih
      rw [awu 74 3]
      try simp only [awu 74 4, pe74, xs, i_load, i_loadR, i_inc, lg, lp, true_and, and_true, List.length_cons, List.length_nil, Nat.reduceAdd, Nat.reduceLeDiff, Nat.zero_le, Int.toNat_natCast, natLit, k0, h14]
      refine ⟨fun h => by omega, fun _ => ?_⟩
      refine sp_mname hn g2.1 (fun h => ?_) (fun h => ?_)
      · rw [isN_nat hr] at h
        dsimp only
        try simp only [awu 74 5, awu 74 6, awu 74 7, pe74, xs, i_load, i_loadR, i_inc, lg, lp, true_and, and_true, List.length_cons, List.length_nil, Nat.reduceAdd, Nat.reduceLeDiff, Nat.zero_le, Int.toNat_natCast, natLit, k0, k11, l11, m1 h]
        refine ⟨fun h => absurd h (by decide), fun _ => ⟨by omega, ?_⟩⟩
        by_cases hrd : rdB F r = true
        · rw [if_pos hrd]
          refine ⟨fun h => absurd h (by decide), fun _ => ?_⟩
          obtain ⟨J, j1, j2⟩ := g2.2.2.2.1
          refine sp_scoreOf hn hq4 g2.1 hF hL hbb hr j1 j2 hh (fun s3 y1 y2 y3 => ?_)
          dsimp only
          try simp only [awu 74 6, pe74, xs, i_load, i_loadR, i_inc, lg, lp, true_and, and_true, List.length_cons, List.length_nil, Nat.reduceAdd, Nat.reduceLeDiff, Nat.zero_le, Int.toNat_natCast, natLit, k0]
          exact nxt s3 _ (LM_M g2 j1 y1 y2 y3) (FrD_t g3 (FrM_D y3)) (by rw [if_pos hrd])
        · rw [if_neg hrd]
          exact ⟨fun _ => nxt s2 _ g2 g3 (by rw [if_neg hrd]), fun h => absurd rfl h⟩
      · rw [isN_nat hr] at h
        dsimp only
        try simp only [awu 74 7, pe74, xs, i_load, i_loadR, i_inc, lg, lp, true_and, and_true, List.length_cons, List.length_nil, Nat.reduceAdd, Nat.reduceLeDiff, Nat.zero_le, Int.toNat_natCast, natLit, k0]
        exact ⟨fun _ => nxt s2 _ g2 g3 (by rw [m2 h]; rfl), fun h => absurd trivial h⟩
  have key : ∀ m fr : Nat, ∀ (s2 : St) (x : Int) (u6 u7 u8 u9 : V), fr + m = n → LB (blB F n) n fr x → (∀ i, i < fr → blB F n i = true → (rowM how F n i n).1 ≠ -1) → LM s2 n q D F → FrD st s2 → AW (P 74) Q (MS (d + 4)) 0 (fun _ => 0) 1 [vr 99, vi how, vi (bstM how F n fr).1, vi (bstM how F n fr).2.1, vi (bstM how F n fr).2.2, vi x, u6, u7, u8, u9] [] s2 := by
    intro m
    induction m using Nat.strongRecOn with
    | ind m ih =>
      intro fr s2 x u6 u7 u8 u9 g1 g2 g3 g4 g5
      rcases g2 with ⟨hx, h2⟩ | ⟨bb, hx, h2, hbb, hbbl, h5⟩
      · subst hx
        have er : bstM how F n n = bstM how F n fr := by
          have := gap (p := blB F n) (bstM how F n) (fun i hi => by rw [bstM_s, hi]; rfl) m fr (fun j h1 h3 => h2 j h1 (by omega))
          rw [g1] at this
          exact this
        rw [← er]
        have all : ∀ i, i < n → blB F n i = true → (rowM how F n i n).1 ≠ -1 := fun i h1 h3 => by
          rcases Nat.lt_or_ge i fr with z | z
          · exact g3 i z h3
          · rw [h2 i z h1] at h3
            exact (nomatch h3)
        have hnone : fs (fun b => blB F n b && (rowM how F n b n).1 == -1) n = none := fs_none.mpr (fun i hi => by
          cases hi2 : blB F n i
          · rfl
          · have := all i hi hi2
            simp [this])
        rcases bstM_d (how := how) hF n (Nat.le_refl _) with ⟨e1, e2⟩ | ⟨b', r', h1, h2, h3, h4, h5, h6⟩
        · exact absurd (e2 b hb hbl) (all b hb hbl)
        · obtain ⟨F', hF'⟩ := Option.ne_none_iff_exists'.mp h6
          have es : stpB how F n = ((b', (r' : Int), scr how F n b' r'), F') := by
            unfold stpB
            rw [hnone]
            dsimp only
            rw [h5]
            dsimp only
            rw [Int.toNat_natCast, Int.toNat_natCast, hF']
            rfl
          rw [es] at hq
          rw [h5]
          dsimp only
          rw [awu 74 1]
          try simp only [awu 74 18, pe74, xs, i_load, i_loadR, i_inc, lg, lp, true_and, and_true, List.length_cons, List.length_nil, Nat.reduceAdd, Nat.reduceLeDiff, Nat.zero_le, Int.toNat_natCast, natLit, k0]
          refine ⟨fun _ => ?_, fun h => absurd trivial h⟩
          refine sp_mergeNow hn hq4 g4 hD h1 h2 hF' (fun s3 y1 y2 => ?_)
          dsimp only
          try simp only [awu 74 18, pe74, xs, i_load, i_loadR, i_inc, lg, lp, true_and, and_true, List.length_cons, List.length_nil, Nat.reduceAdd, Nat.reduceLeDiff, Nat.zero_le, Int.toNat_natCast, natLit, k0]
          exact hq s3 y1 (FrD_t g5 y2)
      · subst hx
        have er : bstM how F n bb = bstM how F n fr := by
          have := gap (p := blB F n) (bstM how F n) (fun i hi => by rw [bstM_s, hi]; rfl) (bb - fr) fr (fun j h1 h3 => h5 j h1 (by omega))
          rw [show fr + (bb - fr) = bb by omega] at this
          exact this
        rw [← er]
        have bef : ∀ i, i < bb → blB F n i = true → (rowM how F n i n).1 ≠ -1 := fun i h1 h3 => by
          rcases Nat.lt_or_ge i fr with z | z
          · exact g3 i z h3
          · rw [h5 i z h1] at h3
            exact (nomatch h3)
        have es : bstM how F n (bb + 1) = if (bstM how F n bb).1 < (rowM how F n bb n).1 then ((rowM how F n bb n).1, (bb : Int), (rowM how F n bb n).2) else bstM how F n bb := by
          rw [bstM_s, hbbl]
          simp only [Bool.true_and, decide_eq_true_eq]
        have w : Unit → wr ((bb : Int) + 1) = ((bb + 1 : Nat) : Int) := fun _ => by rw [wr_id (by omega) (by omega)]; omega
        have hk := keyr bb (bstM how F n bb) hbb hbbl (fun s3 u9 y1 y2 => by
          rw [awu 74 12]
          try simp only [awu 74 13, awu 74 14, awu 74 15, awu 74 16, pe74, xs, i_load, i_loadR, i_inc, lg, lp, true_and, and_true, List.length_cons, List.length_nil, Nat.reduceAdd, Nat.reduceLeDiff, Nat.zero_le, Int.toNat_natCast, natLit, k0]
          refine ⟨fun h => ?_, fun h => ?_⟩
          · have nx : ∀ u9 : V, AW (P 74) Q (MS (d + 4)) 0 (fun _ => 0) 17 [vr 99, vi how, vi (bstM how F n (bb + 1)).1, vi (bstM how F n (bb + 1)).2.1, vi (bstM how F n (bb + 1)).2.2, vi bb, vi (rowM how F n bb n).1, vi (rowM how F n bb n).2, vi n, u9] [] s3 := by
              intro u9
              rw [awu 74 17]
              try simp only [awu 74 17, pe74, xs, i_load, i_loadR, i_inc, lg, lp, true_and, and_true, List.length_cons, List.length_nil, Nat.reduceAdd, Nat.reduceLeDiff, Nat.zero_le, Int.toNat_natCast, natLit, k0, w ()]
              refine sp_lblue hn hq4 y1.1 hF hL (show bb + 1 ≤ n by omega) (fun x hx => ?_)
              dsimp only
              try simp only [awu 74 17, pe74, xs, i_load, i_loadR, i_inc, lg, lp, true_and, and_true, List.length_cons, List.length_nil, Nat.reduceAdd, Nat.reduceLeDiff, Nat.zero_le, Int.toNat_natCast, natLit, k0]
              refine ih (n - (bb + 1)) (by omega) (bb + 1) s3 x _ _ _ _ (by omega) hx (fun i h1 h3 => ?_) y1 y2
              rcases Nat.lt_or_ge i bb with z | z
              · exact bef i z h3
              · have : i = bb := by omega
                subst this
                exact h
            rw [es] at nx
            refine ⟨fun h3 => ?_, fun h3 => ?_⟩
            · rw [if_pos (by omega)] at nx
              exact nx _
            · rw [if_neg (by omega)] at nx
              exact nx _
          · have hz : (rowM how F n bb n).1 = -1 := by omega
            have es : stpB how F n = ((bb, -1, 0), rdn F bb 1) := by
              unfold stpB
              have : fs (fun b => blB F n b && (rowM how F n b n).1 == -1) n = some bb := fs_some.mpr ⟨hbb, by rw [hbbl, hz]; rfl, fun i hi => by
                cases hi2 : blB F n i
                · rfl
                · have := bef i hi hi2
                  simp [this]⟩
              rw [this]
            rw [es] at hq
            refine sp_mredden hn y1 hD hbb (fun s4 x1 x2 => ?_)
            dsimp only
            try simp only [awu 74 13, pe74, xs, i_load, i_loadR, i_inc, lg, lp, true_and, and_true, List.length_cons, List.length_nil, Nat.reduceAdd, Nat.reduceLeDiff, Nat.zero_le, Int.toNat_natCast, natLit, k0]
            exact hq s4 x1 (FrD_t y2 x2)) n 0 s2 u9 (by omega) g4 g5
        rw [awu 74 1]
        try simp only [awu 74 2, pe74, xs, i_load, i_loadR, i_inc, lg, lp, true_and, and_true, List.length_cons, List.length_nil, Nat.reduceAdd, Nat.reduceLeDiff, Nat.zero_le, Int.toNat_natCast, natLit, k0]
        exact ⟨fun h => by omega, fun _ => hk⟩
  refine MS_v [vr 99, vi how, none, none, none, none, none, none, none, none] rfl rfl rfl rfl ?_
  try simp only [awu 74 0, pe74, xs, i_load, i_loadR, i_inc, lg, lp, true_and, and_true, List.length_cons, List.length_nil, Nat.reduceAdd, Nat.reduceLeDiff, Nat.zero_le, Int.toNat_natCast, natLit, k0]
  refine sp_lblue hn hq4 hC.1 hF hL (Nat.zero_le _) (fun x hx => ?_)
  dsimp only
  try simp only [awu 74 0, pe74, xs, i_load, i_loadR, i_inc, lg, lp, true_and, and_true, List.length_cons, List.length_nil, Nat.reduceAdd, Nat.reduceLeDiff, Nat.zero_le, Int.toNat_natCast, natLit, k0]
  exact key n 0 st x none none none none (by omega) hx (fun i hi => by omega) hC FrD_r
theorem sp_stepNow {d n q b : Nat} {how : Int} {st : St} {F : FS} {D : List Dd} {Q : Rn} (hn : n ≤ 120) (hq4 : q ≤ 4) (hC : LM st n q D F) (hD : D.length < 200) (hh : 0 ≤ how ∧ how ≤ 2) (hb : b < n) (hbl : blB F n b = true)
    (hq : ∀ st' : St, LM st' n q ((stp how F n).1 :: D) (stp how F n).2 → FrD st st' → Q (vi (cR (stp how F n).2 n : Nat)) st') : MS (d + 6) 75 [vr 99, vi how] st Q := by
  have k0 : kl 99 = 12 := rfl
  unfold stp at hq
  refine MS_v [vr 99, vi how] rfl rfl rfl rfl ?_
  try simp only [awu 75 0, awu 75 1, awu 75 2, pe75, xs, i_load, i_loadR, i_inc, lg, lp, true_and, and_true, List.length_cons, List.length_nil, Nat.reduceAdd, Nat.reduceLeDiff, Nat.zero_le, Int.toNat_natCast, natLit, k0]
  refine ⟨fun h => ?_, fun h => ?_⟩
  · rw [if_neg h] at hq
    refine sp_stepBest hn hq4 hC hD hh hb hbl (fun s2 y1 y2 => ?_)
    dsimp only
    try simp only [awu 75 3, pe75, xs, i_load, i_loadR, i_inc, lg, lp, true_and, and_true, List.length_cons, List.length_nil, Nat.reduceAdd, Nat.reduceLeDiff, Nat.zero_le, Int.toNat_natCast, natLit, k0]
    exact hq s2 y1 y2
  · rw [if_pos (by omega)] at hq
    refine sp_stepFirst hn hq4 hC hD hb hbl (fun s2 y1 y2 => ?_)
    dsimp only
    try simp only [awu 75 3, pe75, xs, i_load, i_loadR, i_inc, lg, lp, true_and, and_true, List.length_cons, List.length_nil, Nat.reduceAdd, Nat.reduceLeDiff, Nat.zero_le, Int.toNat_natCast, natLit, k0]
    exact hq s2 y1 y2
theorem MR_0 {st st' : St} {n q : Nat} {F0 : FS} (h14 : st' 99 14 = n) (h2 : st' 99 2 = q) (h : FS0 st' n) (h0 : T0 n F0 (st' 106) (st' 108)) : MR st' n q F0 := by
  obtain ⟨a1, a2, a3, a4⟩ := h
  refine ⟨h14, h2, fun k hk => ?_, fun k hk => ?_, ?_⟩
  · obtain ⟨b1, b2, b3⟩ := a1 k hk
    obtain ⟨c1, c2, c3⟩ := h0.1 k hk
    rw [if_pos c1, c2, c3]
    exact ⟨b1, b2, b3⟩
  · rw [a2 k hk, h0.2 k hk]
  · rw [a3, cR_T0 h0]
theorem sp_mlearn {d n q : Nat} {how : Int} {st : St} {F0 : FS} {Q : Rn} (hn : n ≤ 120) (hq4 : q ≤ 4) (h14 : st 99 14 = n) (h2 : st 99 2 = q) (h0 : T0 n F0 (st 106) (st 108)) (hF : FI n F0) (hL : LA n q F0) (hh : 0 ≤ how ∧ how ≤ 2)
    (hq : ∀ st' : St, LM st' n q (lrn how n 200 ([], F0)).1 (lrn how n 200 ([], F0)).2 → FrD st st' → Q none st') : MS (d + 7) 76 [vr 99, vi how] st Q := by
  have k0 : kl 99 = 12 := rfl
  have key : ∀ m : Nat, ∀ (s2 : St) (D : List Dd) (F : FS) (u : V), NR F n ≤ m → D.length + NR F n ≤ 120 → LM s2 n q D F → FrD st s2 → lrn how n m (D, F) = lrn how n 200 ([], F0) → AW (P 76) Q (MS (d + 6)) 0 (fun _ => 0) 1 [vr 99, vi how, u] [] s2 := by
    intro m
    have fin : ∀ (m : Nat) (s2 : St) (D : List Dd) (F : FS) (u : V), LM s2 n q D F → FrD st s2 → lrn how n m (D, F) = lrn how n 200 ([], F0) → (∀ k, k < n → blB F n k = false) → AW (P 76) Q (MS (d + 6)) 0 (fun _ => 0) 3 [vr 99, vi how, u] [] s2 := by
      intro m s2 D F u g3 g4 g5 g6
      have e : lrn how n m (D, F) = (D, F) := by
        cases m with
        | zero => rfl
        | succ m => rw [lrn_s, if_pos (cn_0 g6)]
      rw [e] at g5
      rw [← g5] at hq
      rw [awu 76 3]
      try simp only [awu 76 3, pe76, xs, i_load, i_loadR, i_inc, lg, lp, true_and, and_true, List.length_cons, List.length_nil, Nat.reduceAdd, Nat.reduceLeDiff, Nat.zero_le, Int.toNat_natCast, natLit, k0]
      exact hq s2 g3 g4
    induction m with
    | zero =>
      intro s2 D F u g1 g2 g3 g4 g5
      rw [awu 76 1]
      try simp only [awu 76 1, pe76, xs, i_load, i_loadR, i_inc, lg, lp, true_and, and_true, List.length_cons, List.length_nil, Nat.reduceAdd, Nat.reduceLeDiff, Nat.zero_le, Int.toNat_natCast, natLit, k0]
      refine sp_lblue hn hq4 g3.1 g3.2.1 g3.2.2.1 (Nat.zero_le _) (fun x hx => ?_)
      dsimp only
      try simp only [awu 76 2, pe76, xs, i_load, i_loadR, i_inc, lg, lp, true_and, and_true, List.length_cons, List.length_nil, Nat.reduceAdd, Nat.reduceLeDiff, Nat.zero_le, Int.toNat_natCast, natLit, k0]
      rcases hx with ⟨hx, h2⟩ | ⟨bb, hx, h2, hbb, hbbl, h5⟩
      · subst hx
        exact ⟨fun _ => fin 0 s2 D F u g3 g4 g5 (fun k hk => h2 k (Nat.zero_le _) hk), fun h => absurd rfl h⟩
      · have := (stp_ok (how := how) g3.2.1 hbb hbbl).2
        omega
    | succ m ih =>
      intro s2 D F u g1 g2 g3 g4 g5
      rw [awu 76 1]
      try simp only [awu 76 1, pe76, xs, i_load, i_loadR, i_inc, lg, lp, true_and, and_true, List.length_cons, List.length_nil, Nat.reduceAdd, Nat.reduceLeDiff, Nat.zero_le, Int.toNat_natCast, natLit, k0]
      refine sp_lblue hn hq4 g3.1 g3.2.1 g3.2.2.1 (Nat.zero_le _) (fun x hx => ?_)
      dsimp only
      try simp only [awu 76 2, pe76, xs, i_load, i_loadR, i_inc, lg, lp, true_and, and_true, List.length_cons, List.length_nil, Nat.reduceAdd, Nat.reduceLeDiff, Nat.zero_le, Int.toNat_natCast, natLit, k0]
      rcases hx with ⟨hx, h2⟩ | ⟨bb, hx, h2, hbb, hbbl, h5⟩
      · subst hx
        exact ⟨fun _ => fin (m + 1) s2 D F u g3 g4 g5 (fun k hk => h2 k (Nat.zero_le _) hk), fun h => absurd rfl h⟩
      · have hnr := (stp_ok (how := how) g3.2.1 hbb hbbl).2
        have hne : cn (blB F n) n ≠ 0 := by
          have := cn_lt hbb hbbl
          omega
        rw [lrn_s, if_neg hne] at g5
        refine ⟨fun h => by omega, fun _ => ?_⟩
        refine sp_stepNow hn hq4 g3 (by omega) hh hbb hbbl (fun s3 y1 y2 => ?_)
        dsimp only
        try simp only [awu 76 2, pe76, xs, i_load, i_loadR, i_inc, lg, lp, true_and, and_true, List.length_cons, List.length_nil, Nat.reduceAdd, Nat.reduceLeDiff, Nat.zero_le, Int.toNat_natCast, natLit, k0]
        exact ih s3 _ _ _ (by omega) (by simp; omega) y1 (FrD_t g4 y2) g5
  refine MS_v [vr 99, vi how, none] rfl rfl rfl rfl ?_
  try simp only [awu 76 0, pe76, xs, i_load, i_loadR, i_inc, lg, lp, true_and, and_true, List.length_cons, List.length_nil, Nat.reduceAdd, Nat.reduceLeDiff, Nat.zero_le, Int.toNat_natCast, natLit, k0]
  refine sp_mlays h14 hn (fun s2 y1 y2 => ?_)
  dsimp only
  have e19 : s2 99 19 = n := y1.2.2.1
  have f3 : ∀ a b, ¬ (a = 99 ∧ b = 29) → up2 s2 99 29 0 a b = s2 a b := fun a b h => by
    rw [up2_at]
    by_cases e : a = 99
    · subst e
      rw [if_pos rfl, if_neg (by omega)]
    · rw [if_neg e]
  have e29 : up2 s2 99 29 0 99 29 = 0 := by rw [up2_self, upf_s]
  try simp only [awu 76 0, pe76, xs, i_load, i_loadR, i_inc, lg, lp, true_and, and_true, List.length_cons, List.length_nil, Nat.reduceAdd, Nat.reduceLeDiff, Nat.zero_le, Int.toNat_natCast, natLit, k0, f3 99 19 (by omega)]
  generalize up2 s2 99 29 0 = s3 at *
  have h6 : s3 106 = st 106 := funext (fun z => by rw [f3 _ _ (by omega), y2 _ _ (by omega) (by omega)])
  have h8 : s3 108 = st 108 := funext (fun z => by rw [f3 _ _ (by omega), y2 _ _ (by omega) (by omega)])
  have z0 : FS0 s3 n := by
    obtain ⟨a1, a2, a3, a4⟩ := y1
    refine ⟨fun k hk => ?_, fun k hk => ?_, by rw [f3 _ _ (by omega)]; exact a3, by rw [f3 _ _ (by omega)]; exact a4⟩
    · rw [f3 _ _ (by omega), f3 _ _ (by omega), f3 _ _ (by omega), f3 _ _ (by omega)]
      exact a1 k hk
    · rw [f3 _ _ (by omega), f3 _ _ (by omega)]
      exact a2 k hk
  have mr : MR s3 n q F0 := MR_0 (st := st) (by rw [f3 _ _ (by omega), y2 _ _ (by omega) (by omega)]; exact h14) (by rw [f3 _ _ (by omega), y2 _ _ (by omega) (by omega)]; exact h2) z0 (by rw [h6, h8]; exact h0)
  have hNR : NR F0 n ≤ n := cn_le n
  refine key 200 s3 [] F0 _ (by omega) (by simp; omega) ⟨mr, hF, hL, ⟨0, z0.2.2.2, by rw [cR_T0 h0]; omega⟩, fun k hk => by simp at hk, e29, by simp⟩ (fun a b h => ?_) rfl
  rw [f3 _ _ (by omega), y2 _ _ (by omega) (by omega)]
theorem Rp_dr {n : Nat} {F0 : FS} : ∀ {D : List Dd} {F : FS} (k : Nat), Rp n F0 D F → ∃ M, Rp n F0 (D.drop k) M
  | D, F, 0, h => ⟨F, h⟩
  | [], F, k + 1, h => ⟨F, h⟩
  | e :: D, F, k + 1, h => by
    obtain ⟨M, h1, -⟩ := h
    exact Rp_dr k h1
theorem sp_redo {d n q : Nat} {st : St} {F0 F : FS} {D : List Dd} {Q : Rn} (hn : n ≤ 120) (hq4 : q ≤ 4) (h14 : st 99 14 = n) (h2 : st 99 2 = q) (h0 : T0 n F0 (st 106) (st 108)) (hF : FI n F0) (hL : LA n q F0) (hR : Rp n F0 D F) (hA : DA (st 118) D) (hD : D.length ≤ 200)
    (hq : ∀ st' : St, LM st' n q D F → FrD st st' → Q none st') : MS (d + 4) 77 [vr 99, vi (D.length : Nat)] st Q := by
  have k0 : kl 99 = 12 := rfl
  have k11 : kl 111 = 52 := rfl
  have l11 : len 111 = 161 := rfl
  have k18 : kl 118 = 50 := rfl
  have l18 : len 118 = 800 := rfl
  generalize hcl : D.length = c at *
  have key : ∀ m k : Nat, ∀ (s2 : St) (G : FS) (u : V), k + m = c → Rp n F0 (D.drop m) G → MR s2 n q G → (∃ J : Nat, s2 99 24 = J ∧ J + cR G n = n) → FrD st s2 → s2 118 = st 118 → AW (P 77) Q (MS (d + 3)) 0 (fun _ => 0) 1 [vr 99, vi (c : Nat), vi k, u] [] s2 := by
    intro m
    induction m with
    | zero =>
      intro k s2 G u g1 g2 g3 g4 g5 g6
      have : k = c := by omega
      subst this
      have e : G = F := Rp_u g2 hR
      subst e
      obtain ⟨i1, i2⟩ := Rp_I hF hL hR
      rw [awu 77 1]
      try simp only [awu 77 6, pe77, xs, i_load, i_loadR, i_inc, lg, lp, true_and, and_true, List.length_cons, List.length_nil, Nat.reduceAdd, Nat.reduceLeDiff, Nat.zero_le, Int.toNat_natCast, natLit, k0]
      refine ⟨fun _ => ?_, fun h => absurd (Int.le_refl _) h⟩
      have f3 : ∀ a b, ¬ (a = 99 ∧ b = 29) → up2 s2 99 29 (k : Int) a b = s2 a b := fun a b h => by
        rw [up2_at]
        by_cases e : a = 99
        · subst e
          rw [if_pos rfl, if_neg (by omega)]
        · rw [if_neg e]
      refine hq _ ⟨MR_congr g3 (f3 _ _ (by omega)) (f3 _ _ (by omega)) (f3 _ _ (by omega)) (fun j h1 h2 => by funext z; exact f3 _ _ (by omega)), i1, i2, ?_, ?_, ?_, by omega⟩ (fun a b h => ?_)
      · obtain ⟨J, j1, j2⟩ := g4
        exact ⟨J, by rw [f3 _ _ (by omega)]; exact j1, j2⟩
      · rw [up2_ne (by decide), g6]
        exact hA
      · rw [up2_self, upf_s, hcl]
      · rw [f3 _ _ (by omega)]
        exact g5 a b h
    | succ m ih =>
      intro k s2 G u g1 g2 g3 g4 g5 g6
      have w : Unit → wr ((k : Int) + 1) = ((k + 1 : Nat) : Int) := fun _ => by rw [wr_id (by omega) (by omega)]; omega
      have w4 : Unit → wr (4 * (k : Int)) = ((4 * k : Nat) : Int) := fun _ => by rw [wr_id (by omega) (by omega)]; omega
      have w1 : Unit → wr (((4 * k : Nat) : Int) + 1) = ((4 * k + 1 : Nat) : Int) := fun _ => by rw [wr_id (by omega) (by omega)]; omega
      have w2 : Unit → wr (((4 * k : Nat) : Int) + 2) = ((4 * k + 2 : Nat) : Int) := fun _ => by rw [wr_id (by omega) (by omega)]; omega
      obtain ⟨a0, a1, a2, -⟩ := hA k (by omega)
      rw [hcl, show c - 1 - k = m by omega] at a0 a1 a2
      obtain ⟨i1, i2⟩ := Rp_I hF hL g2
      have hdrop : D.drop m = (D.getD m (0, 0, 0)) :: D.drop (m + 1) := by
        rw [List.drop_eq_getElem_cons (by omega)]
        congr 1
        rw [List.getD_eq_getElem?_getD, List.getElem?_eq_getElem (by omega)]
        rfl
      obtain ⟨G', hG'⟩ := Rp_dr m hR
      have hG'' := hG'
      rw [hdrop] at hG''
      obtain ⟨M, m1, m2⟩ := hG''
      have e : M = G := Rp_u m1 g2
      subst e
      rw [← g6] at a0 a1 a2
      generalize D.getD m (0, 0, 0) = e at *
      rw [awu 77 1]
      try simp only [awu 77 2, pe77, xs, i_load, i_loadR, i_inc, lg, lp, true_and, and_true, List.length_cons, List.length_nil, Nat.reduceAdd, Nat.reduceLeDiff, Nat.zero_le, Int.toNat_natCast, natLit, k0, k18, l18, w4 (), a0]
      refine ⟨fun h => by omega, fun _ => ⟨by omega, ?_⟩⟩
      rcases m2 with ⟨b1, b2, b3, b4, b5⟩ | ⟨jj, b1, b2, b3, b4⟩
      · rw [if_pos b1]
        refine ⟨fun _ => ?_, fun h => absurd (by decide) h⟩
        try simp only [awu 77 4, awu 77 5, pe77, xs, i_load, i_loadR, i_inc, lg, lp, true_and, and_true, List.length_cons, List.length_nil, Nat.reduceAdd, Nat.reduceLeDiff, Nat.zero_le, Int.toNat_natCast, natLit, k0, k18, l18, k11, l11, w4 (), w1 (), a1, w ()]
        refine ⟨by omega, by omega, ok01_1, ?_⟩
        have m3 := MR_rdn (k := e.1) (v := 1) g3
        rw [← b5] at m3
        have hcr : cR G' n = cR M n := by rw [b5]; rfl
        refine ih (k + 1) _ G' _ (by omega) hG' m3 ?_ (fun a b h => ?_) ?_
        · obtain ⟨J, j1, j2⟩ := g4
          exact ⟨J, by rw [up2_ne (by decide)]; exact j1, by omega⟩
        · rw [up2_ne (by omega)]
          exact g5 a b h
        · rw [up2_ne (by decide)]
          exact g6
      · rw [if_neg (by omega)]
        refine ⟨fun h => absurd rfl h, fun _ => ?_⟩
        try simp only [awu 77 3, pe77, xs, i_load, i_loadR, i_inc, lg, lp, true_and, and_true, List.length_cons, List.length_nil, Nat.reduceAdd, Nat.reduceLeDiff, Nat.zero_le, Int.toNat_natCast, natLit, k0, k18, l18, w4 (), w1 (), w2 (), a1, a2]
        refine ⟨by omega, by omega, ?_⟩
        rw [b1]
        obtain ⟨J, j1, j2⟩ := g4
        refine sp_merges hn hq4 g3 i1 i2 b2 b3 j1 j2 (fun F2 s3 k y1 y2 y3 y4 y5 y6 => ?_) (fun s3 y1 => by rw [b4] at y1; exact (nomatch y1))
        have e2 : G' = F2 := Option.some.inj (b4.symm.trans y1)
        subst e2
        have hl := Sm_len y4
        dsimp only
        try simp only [awu 77 3, awu 77 5, pe77, xs, i_load, i_loadR, i_inc, lg, lp, true_and, and_true, List.length_cons, List.length_nil, Nat.reduceAdd, Nat.reduceLeDiff, Nat.zero_le, Int.toNat_natCast, natLit, k0, w ()]
        refine ih _ s3 G' _ (by omega) hG' y2 ⟨J + k, y3, by omega⟩ (FrD_t g5 (FrM_D y6)) ?_
        rw [← g6]
        funext z
        exact y6 _ _ (by omega)
  refine MS_v [vr 99, vi (c : Nat), none, none] rfl rfl rfl rfl ?_
  try simp only [awu 77 0, pe77, xs, i_load, i_loadR, i_inc, lg, lp, true_and, and_true, List.length_cons, List.length_nil, Nat.reduceAdd, Nat.reduceLeDiff, Nat.zero_le, Int.toNat_natCast, natLit, k0]
  refine sp_mlays h14 hn (fun s2 y1 y2 => ?_)
  dsimp only
  have h6 : s2 106 = st 106 := funext (fun z => by rw [y2 _ _ (by omega) (by omega)])
  have h8 : s2 108 = st 108 := funext (fun z => by rw [y2 _ _ (by omega) (by omega)])
  have mr : MR s2 n q F0 := MR_0 (st := st) (by rw [y2 _ _ (by omega) (by omega)]; exact h14) (by rw [y2 _ _ (by omega) (by omega)]; exact h2) y1 (by rw [h6, h8]; exact h0)
  try simp only [awu 77 0, pe77, xs, i_load, i_loadR, i_inc, lg, lp, true_and, and_true, List.length_cons, List.length_nil, Nat.reduceAdd, Nat.reduceLeDiff, Nat.zero_le, Int.toNat_natCast, natLit, k0]
  refine key c 0 s2 F0 none (by omega) ?_ mr ⟨0, y1.2.2.2, by rw [cR_T0 h0]; omega⟩ (fun a b h => ?_) ?_
  · rw [List.drop_eq_nil_of_le (by omega)]
    rfl
  · rw [y2 _ _ (by omega) (by omega)]
  · funext z
    rw [y2 _ _ (by omega) (by omega)]
