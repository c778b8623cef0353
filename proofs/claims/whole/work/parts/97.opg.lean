/-! calls on both: taken, apart, both, tight -/
theorem Pk_no {f : Nat → Nat} {b k n : Nat} (h : Pk f b k n) (h' : sN f b ≤ k) : False := by
  have h1 := sN_mono (f := f) b (s := n + 1) h.1
  have h2 := h.2.2
  omega
theorem Min_LR {st st' : St} {tp : Nat × (Nat → Int)} {a : Nat} {ex : TE} {tn : TN} {D : List Dd} {F : FS} {M1 M2 M3 : MC} {L L' : List Nat} {t : Nat} {fa : Int} (h : Min st tp a ex tn D F M1 M2 M3 L t fa) (e : ∀ q i, rM q i → q ≠ 144 → ¬ (q = 99 ∧ i = 62) → st' q i = st q i) (h1 : WRm st' L') : Min st' tp a ex tn D F M1 M2 M3 L' t fa := by
  have h0 := Min_congr (st' := fun q i => if q = 144 ∨ (q = 99 ∧ i = 62) then st q i else st' q i) h (fun q i hr => by
    show (if q = 144 ∨ (q = 99 ∧ i = 62) then st q i else st' q i) = st q i
    by_cases z : q = 144 ∨ (q = 99 ∧ i = 62)
    · rw [if_pos z]
    · rw [if_neg z]
      exact e q i hr (fun h => z (Or.inl h)) (fun h => z (Or.inr h)))
  refine Min_L h0 (fun q i a b => ?_) h1
  show st' q i = (if q = 144 ∨ (q = 99 ∧ i = 62) then st q i else st' q i)
  rw [if_neg (fun h => h.elim a b)]
theorem o_taken {m x : Int} {st : St} (ix : InR x) (h : INV st) : OPr 31 141 [vi m, vi x] st := by
  obtain ⟨tp, a, ex, tn, D, F, M1, M2, M3, L, t, fa, hC, hM, hP⟩ := h
  refine opp rl2 rl2 ?_
  have k3 : kl 3 = 5 := rfl
  refine MS_v [vr 0, vi m, vi x, none] rfl rfl rfl rfl ?_
  try simp only [awu 31 0, pe31, xs, i_load, i_loadR, i_inc, lg, lp, true_and, and_true, List.length_cons, List.length_nil, Nat.reduceAdd, Nat.reduceLeDiff, Nat.zero_le, Int.toNat_natCast, natLit, cK0]
  refine sp_isThere (Cin_X hC hP) ?_
  dsimp only
  have no : ¬ (0 < (mof F tn.1 M1 M2 M3 m).1 ∧ 0 ≤ x) → QC st 141 [vi m, vi x] (vi (-1)) st := by
    intro hn
    refine ⟨_, tp, a, ex, tn, D, F, M1, M2, M3, L, t, fa, rfl, hC, hP, fun s hs => ?_⟩
    have hM := Min_s hM hs
    refine MS_v [vr 99, vi m, vi x, none, none, none, none, none] rfl rfl rfl rfl ?_
    try simp only [awu 141 0, pe141, xs, i_load, i_loadR, i_inc, lg, lp, true_and, and_true, List.length_cons, List.length_nil, Nat.reduceAdd, Nat.reduceLeDiff, Nat.zero_le, Int.toNat_natCast, natLit, mK0]
    refine MM hM hP (fun s2 z' hM _ _ => ?_) (fun _ => ?_)
    · dsimp only
      try simp only [awu 141 1, awu 141 2, pe141, xs, i_load, i_loadR, i_inc, lg, lp, true_and, and_true, List.length_cons, List.length_nil, Nat.reduceAdd, Nat.reduceLeDiff, Nat.zero_le, Int.toNat_natCast, natLit, mK0]
      exact ⟨fun h => absurd h (by decide), fun _ => ⟨fun h => absurd ⟨z', h⟩ hn, fun _ => hM⟩⟩
    · dsimp only
      try simp only [awu 141 2, pe141, xs, i_load, i_loadR, i_inc, lg, lp, true_and, and_true, List.length_cons, List.length_nil, Nat.reduceAdd, Nat.reduceLeDiff, Nat.zero_le, Int.toNat_natCast, natLit, mK0]
      exact ⟨fun _ => hM, fun h => absurd trivial h⟩
  by_cases z : 0 < (mof F tn.1 M1 M2 M3 m).1
  · rw [if_pos z]
    obtain ⟨k, rfl, hk⟩ := mof_n z
    try simp only [awu 31 1, awu 31 2, pe31, xs, i_load, i_loadR, i_inc, lg, lp, true_and, and_true, List.length_cons, List.length_nil, Nat.reduceAdd, Nat.reduceLeDiff, Nat.zero_le, Int.toNat_natCast, natLit, cK0]
    refine ⟨fun h => absurd h (by decide), fun _ => ⟨fun h => ?_, fun h => no (by omega)⟩⟩
    obtain ⟨n, rfl⟩ : ∃ n : Nat, x = n := ⟨x.toNat, by omega⟩
    have hn31 : n < 2 ^ 31 := by
      have := ix.2
      omega
    try simp only [awu 31 3, pe31, xs, i_load, i_loadR, i_inc, lg, lp, true_and, and_true, List.length_cons, List.length_nil, Nat.reduceAdd, Nat.reduceLeDiff, Nat.zero_le, Int.toNat_natCast, natLit, cK0, Nat.zero_add]
    refine CM hC hP z (fun s1 hC hN => ?_)
    dsimp only
    have e := hC.2.1
    try simp only [awu 31 3, pe31, xs, i_load, i_loadR, i_inc, lg, lp, true_and, and_true, List.length_cons, List.length_nil, Nat.reduceAdd, Nat.reduceLeDiff, Nat.zero_le, Int.toNat_natCast, natLit, cK0, e, Nat.zero_add]
    have ob := oof_b k
    refine sp_wordTaken (oof_c k) (by omega) hN (pM2 hP) z (pMW hP) hP.2.1.2 hn31 (fun s3 j w ls y1 y2 y3 y4 y5 f3 => ?_) (fun s3 y1 f3 => ?_)
    · dsimp only
      have hC := Cin_cut (Cin_congr (st' := s3) hC (fun q i hr => by rw [f3 q (by unfold rC at hr; omega)]))
      try simp only [awu 31 3, awu 31 5, pe31, xs, i_load, i_loadR, i_inc, lg, lp, true_and, and_true, List.length_cons, List.length_nil, Nat.reduceAdd, Nat.reduceLeDiff, Nat.zero_le, Int.toNat_natCast, natLit, cK0, Nat.zero_add]
      refine ⟨fun _ => ?_, fun h => by omega⟩
      refine sp_cut k3 ?_
      dsimp only
      try simp only [awu 31 5, pe31, xs, i_load, i_loadR, i_inc, lg, lp, true_and, and_true, List.length_cons, List.length_nil, Nat.reduceAdd, Nat.reduceLeDiff, Nat.zero_le, Int.toNat_natCast, natLit, cK0, Nat.zero_add]
      refine sp_putWord hC.2.2.2.2.2.2.1 y3 (fun s5 g1 g2 => ?_)
      dsimp only
      have hC := Cin_L hC g2 g1
      try simp only [awu 31 5, pe31, xs, i_load, i_loadR, i_inc, lg, lp, true_and, and_true, List.length_cons, List.length_nil, Nat.reduceAdd, Nat.reduceLeDiff, Nat.zero_le, Int.toNat_natCast, natLit, cK0, k3, g1.1, Nat.zero_add]
      have hl : (wdL w (wl w)).length = wl w := wdL_len _
      have hw10 := y3.1
      refine ⟨_, tp, a, ex, tn, D, F, M1, M2, M3, _, t, fa, rfl, hC, Pur_L hP (by omega), fun s hs => ?_⟩
      have hM := Min_s hM hs
      refine MS_v [vr 99, vi k, vi n, none, none, none, none, none] rfl rfl rfl rfl ?_
      try simp only [awu 141 0, pe141, xs, i_load, i_loadR, i_inc, lg, lp, true_and, and_true, List.length_cons, List.length_nil, Nat.reduceAdd, Nat.reduceLeDiff, Nat.zero_le, Int.toNat_natCast, natLit, mK0]
      refine MM hM hP (fun s2 _ hM hN _ => ?_) (fun z' => absurd z z')
      dsimp only
      rw [Int.toNat_natCast] at hN
      try simp only [awu 141 1, pe141, xs, i_load, i_loadR, i_inc, lg, lp, true_and, and_true, List.length_cons, List.length_nil, Nat.reduceAdd, Nat.reduceLeDiff, Nat.zero_le, Int.toNat_natCast, natLit, mK0]
      refine ⟨fun h => absurd h (by decide), fun _ => ⟨fun _ => ?_, fun h => by omega⟩⟩
      refine sp_mtaken hN (by omega) (pMW hP) hP.2.1.2 z hM.2.1 hn31 (fun s4 j' ls' w1 w2 w3 w4 => ?_) (fun s4 w1 _ => ?_)
      · have ej := Pk_u w1 y1
        subst ej
        have el := Tw_u w2 y2
        subst el
        exact ⟨by rw [hl, y4], Min_LR hM (fun q i hr h1 h2 => w4 q i (by unfold rM at hr; omega) h1 h2) (by rw [y4, y5]; exact w3)⟩
      · exact (Pk_no y1 w1).elim
    · dsimp only
      try simp only [awu 31 3, awu 31 4, pe31, xs, i_load, i_loadR, i_inc, lg, lp, true_and, and_true, List.length_cons, List.length_nil, Nat.reduceAdd, Nat.reduceLeDiff, Nat.zero_le, Int.toNat_natCast, natLit, cK0, Nat.zero_add]
      refine ⟨fun h => absurd trivial h, fun _ => ?_⟩
      refine ⟨_, tp, a, ex, tn, D, F, M1, M2, M3, L, t, fa, rfl, Cin_congr hC (fun q i hr => by rw [f3 q (by unfold rC at hr; omega)]), hP, fun s hs => ?_⟩
      have hM := Min_s hM hs
      refine MS_v [vr 99, vi k, vi n, none, none, none, none, none] rfl rfl rfl rfl ?_
      try simp only [awu 141 0, pe141, xs, i_load, i_loadR, i_inc, lg, lp, true_and, and_true, List.length_cons, List.length_nil, Nat.reduceAdd, Nat.reduceLeDiff, Nat.zero_le, Int.toNat_natCast, natLit, mK0]
      refine MM hM hP (fun s2 _ hM hN _ => ?_) (fun z' => absurd z z')
      dsimp only
      rw [Int.toNat_natCast] at hN
      try simp only [awu 141 1, pe141, xs, i_load, i_loadR, i_inc, lg, lp, true_and, and_true, List.length_cons, List.length_nil, Nat.reduceAdd, Nat.reduceLeDiff, Nat.zero_le, Int.toNat_natCast, natLit, mK0]
      refine ⟨fun h => absurd h (by decide), fun _ => ⟨fun _ => ?_, fun h => by omega⟩⟩
      refine sp_mtaken hN (by omega) (pMW hP) hP.2.1.2 z hM.2.1 hn31 (fun s4 j' ls' w1 w2 w3 w4 => ?_) (fun s4 w1 f4 => ?_)
      · exact (Pk_no w1 y1).elim
      · exact ⟨rfl, Min_congr hM (fun q i hr => by rw [f4 q (by unfold rM at hr; omega)])⟩
  · rw [if_neg z]
    try simp only [awu 31 2, pe31, xs, i_load, i_loadR, i_inc, lg, lp, true_and, and_true, List.length_cons, List.length_nil, Nat.reduceAdd, Nat.reduceLeDiff, Nat.zero_le, Int.toNat_natCast, natLit, cK0]
    exact ⟨fun _ => no (fun h => z h.1), fun h => absurd trivial h⟩
theorem o_apart {m x : Int} {st : St} (h : INV st) : OPr 37 131 [vi m, vi x] st := by
  obtain ⟨tp, a, ex, tn, D, F, M1, M2, M3, L, t, fa, hC, hM, hP⟩ := h
  refine opp rl2 rl2 ?_
  have k3 : kl 3 = 5 := rfl
  refine MS_v [vr 0, vi m, vi x, none] rfl rfl rfl rfl ?_
  try simp only [awu 37 0, pe37, xs, i_load, i_loadR, i_inc, lg, lp, true_and, and_true, List.length_cons, List.length_nil, Nat.reduceAdd, Nat.reduceLeDiff, Nat.zero_le, Int.toNat_natCast, natLit, cK0]
  refine sp_isThere (Cin_X hC hP) ?_
  dsimp only
  have no : ¬ (0 < (mof F tn.1 M1 M2 M3 m).1 ∧ 0 < (mof F tn.1 M1 M2 M3 x).1) → QC st 131 [vi m, vi x] (vi (-1)) st := by
    intro hn
    refine ⟨_, tp, a, ex, tn, D, F, M1, M2, M3, L, t, fa, rfl, hC, hP, fun s hs => ?_⟩
    have hM := Min_s hM hs
    refine MS_v [vr 99, vi m, vi x, none, none, none] rfl rfl rfl rfl ?_
    try simp only [awu 131 0, pe131, xs, i_load, i_loadR, i_inc, lg, lp, true_and, and_true, List.length_cons, List.length_nil, Nat.reduceAdd, Nat.reduceLeDiff, Nat.zero_le, Int.toNat_natCast, natLit, mK0]
    refine sp_areM hM hP (fun s2 z1 z2 _ _ _ => absurd ⟨z1, z2⟩ hn) (fun s2 _ hM => ?_)
    dsimp only
    try simp only [awu 131 1, pe131, xs, i_load, i_loadR, i_inc, lg, lp, true_and, and_true, List.length_cons, List.length_nil, Nat.reduceAdd, Nat.reduceLeDiff, Nat.zero_le, Int.toNat_natCast, natLit, mK0]
    exact ⟨fun h => absurd trivial h, fun _ => hM⟩
  by_cases z : 0 < (mof F tn.1 M1 M2 M3 m).1
  · rw [if_pos z]
    try simp only [awu 37 1, pe37, xs, i_load, i_loadR, i_inc, lg, lp, true_and, and_true, List.length_cons, List.length_nil, Nat.reduceAdd, Nat.reduceLeDiff, Nat.zero_le, Int.toNat_natCast, natLit, cK0]
    refine ⟨fun h => absurd h (by decide), fun _ => ?_⟩
    refine sp_isThere (Cin_X hC hP) ?_
    dsimp only
    by_cases zx : 0 < (mof F tn.1 M1 M2 M3 x).1
    · rw [if_pos zx]
      obtain ⟨k, rfl, hk⟩ := mof_n z
      obtain ⟨o, rfl, ho⟩ := mof_n zx
      try simp only [awu 37 3, pe37, xs, i_load, i_loadR, i_inc, lg, lp, true_and, and_true, List.length_cons, List.length_nil, Nat.reduceAdd, Nat.reduceLeDiff, Nat.zero_le, Int.toNat_natCast, natLit, cK0, Nat.zero_add]
      refine ⟨fun _ => ?_, fun h => absurd h (by decide)⟩
      refine CM hC hP z (fun s1 hC hN => ?_)
      dsimp only
      try simp only [awu 37 3, pe37, xs, i_load, i_loadR, i_inc, lg, lp, true_and, and_true, List.length_cons, List.length_nil, Nat.reduceAdd, Nat.reduceLeDiff, Nat.zero_le, Int.toNat_natCast, natLit, cK0, Nat.zero_add]
      refine CM2 hC hP z zx hN (fun s2 hC hN hO => ?_)
      dsimp only
      have e := hC.2.1
      try simp only [awu 37 3, pe37, xs, i_load, i_loadR, i_inc, lg, lp, true_and, and_true, List.length_cons, List.length_nil, Nat.reduceAdd, Nat.reduceLeDiff, Nat.zero_le, Int.toNat_natCast, natLit, cK0, e, Nat.zero_add]
      have ob := oof_b k
      have ob' := oof_b o
      refine sp_findApart (oof_c k) (oof_c o) (by omega) (by omega) hN hO (pMW hP) (pMW hP) z zx (pM2 hP) (pM2 hP) hP.2.1.2 (fun s3 n j W y1 y2 y3 y4 y5 y6 f3 => ?_) (fun s3 y1 f3 => ?_)
      · dsimp only
        have hC := Cin_congr hC (fun q i hr => f3 q i (by unfold rC at hr; omega) (by unfold rC at hr; omega) (by unfold rC at hr; omega) (by unfold rC at hr; omega) (by unfold rC at hr; omega))
        try simp only [awu 37 3, awu 37 5, pe37, xs, i_load, i_loadR, i_inc, lg, lp, true_and, and_true, List.length_cons, List.length_nil, Nat.reduceAdd, Nat.reduceLeDiff, Nat.zero_le, Int.toNat_natCast, natLit, cK0, Nat.zero_add]
        refine ⟨fun _ => ?_, fun h => by omega⟩
        refine sp_writeWay hP.2.1.2 y1 y2 y3 y4 y6 (fun s5 g1 g2 => ?_)
        dsimp only
        have hC := Cin_L hC g2 g1
        try simp only [awu 37 5, pe37, xs, i_load, i_loadR, i_inc, lg, lp, true_and, and_true, List.length_cons, List.length_nil, Nat.reduceAdd, Nat.reduceLeDiff, Nat.zero_le, Int.toNat_natCast, natLit, cK0, k3, g1.1, Nat.zero_add]
        have hl : ((W j).map (fun l => 97 + l)).length = (W j).length := List.length_map _
        refine ⟨_, tp, a, ex, tn, D, F, M1, M2, M3, _, t, fa, rfl, hC, Pur_L hP (by omega), fun s hs => ?_⟩
        have hM := Min_s hM hs
        refine MS_v [vr 99, vi k, vi o, none, none, none] rfl rfl rfl rfl ?_
        try simp only [awu 131 0, pe131, xs, i_load, i_loadR, i_inc, lg, lp, true_and, and_true, List.length_cons, List.length_nil, Nat.reduceAdd, Nat.reduceLeDiff, Nat.zero_le, Int.toNat_natCast, natLit, mK0]
        refine sp_areM hM hP (fun s2 _ _ hM hN hO => ?_) (fun s2 z' _ => absurd ⟨z, zx⟩ z')
        dsimp only
        rw [Int.toNat_natCast] at hN hO
        try simp only [pe131, xs, i_load, i_loadR, i_inc, lg, lp, true_and, and_true, List.length_cons, List.length_nil, Nat.reduceAdd, Nat.reduceLeDiff, Nat.zero_le, Int.toNat_natCast, natLit, mK0]
        refine ⟨fun _ => ?_, fun h => absurd h (by decide)⟩
        refine sp_mapart hk ho hN hO (pMW hP) (pMW hP) z zx hP.2.1.2 hM.2.1 (fun w hw => by rw [AP_u hP.2.1.2 hw y5]; omega) (fun s4 w w1 w2 w3 => ?_) (fun s4 w1 _ => absurd y5.2.1 (w1 _ y5.1))
        have ew := AP_u hP.2.1.2 w1 y5
        subst ew
        exact ⟨by rw [hl], Min_LR hM (fun q i hr h1 h2 => w3 q i (by unfold rM at hr; omega) (by unfold rM at hr; omega) h1) w2⟩
      · dsimp only
        try simp only [awu 37 3, awu 37 4, pe37, xs, i_load, i_loadR, i_inc, lg, lp, true_and, and_true, List.length_cons, List.length_nil, Nat.reduceAdd, Nat.reduceLeDiff, Nat.zero_le, Int.toNat_natCast, natLit, cK0, Nat.zero_add]
        refine ⟨fun h => absurd trivial h, fun _ => ?_⟩
        refine ⟨_, tp, a, ex, tn, D, F, M1, M2, M3, L, t, fa, rfl, Cin_congr hC (fun q i hr => f3 q i (by unfold rC at hr; omega) (by unfold rC at hr; omega) (by unfold rC at hr; omega) (by unfold rC at hr; omega) (by unfold rC at hr; omega)), hP, fun s hs => ?_⟩
        have hM := Min_s hM hs
        refine MS_v [vr 99, vi k, vi o, none, none, none] rfl rfl rfl rfl ?_
        try simp only [awu 131 0, pe131, xs, i_load, i_loadR, i_inc, lg, lp, true_and, and_true, List.length_cons, List.length_nil, Nat.reduceAdd, Nat.reduceLeDiff, Nat.zero_le, Int.toNat_natCast, natLit, mK0]
        refine sp_areM hM hP (fun s2 _ _ hM hN hO => ?_) (fun s2 z' _ => absurd ⟨z, zx⟩ z')
        dsimp only
        rw [Int.toNat_natCast] at hN hO
        try simp only [pe131, xs, i_load, i_loadR, i_inc, lg, lp, true_and, and_true, List.length_cons, List.length_nil, Nat.reduceAdd, Nat.reduceLeDiff, Nat.zero_le, Int.toNat_natCast, natLit, mK0]
        refine ⟨fun _ => ?_, fun h => absurd h (by decide)⟩
        refine sp_mapart hk ho hN hO (pMW hP) (pMW hP) z zx hP.2.1.2 hM.2.1 (fun w hw => absurd hw.2.1 (y1 w hw.1)) (fun s4 w w1 _ _ => absurd w1.2.1 (y1 w w1.1)) (fun s4 _ f4 => ⟨rfl, Min_congr hM (fun q i hr => f4 q i (by unfold rM at hr; omega) (by unfold rM at hr; omega))⟩)
    · rw [if_neg zx]
      try simp only [awu 37 2, pe37, xs, i_load, i_loadR, i_inc, lg, lp, true_and, and_true, List.length_cons, List.length_nil, Nat.reduceAdd, Nat.reduceLeDiff, Nat.zero_le, Int.toNat_natCast, natLit, cK0]
      exact ⟨fun h => absurd trivial h, fun _ => no (fun h => zx h.2)⟩
  · rw [if_neg z]
    try simp only [awu 37 2, pe37, xs, i_load, i_loadR, i_inc, lg, lp, true_and, and_true, List.length_cons, List.length_nil, Nat.reduceAdd, Nat.reduceLeDiff, Nat.zero_le, Int.toNat_natCast, natLit, cK0]
    exact ⟨fun _ => no (fun h => z h.1), fun h => absurd trivial h⟩
