/-! calls on both: the learner -/
section HT
variable {st : St} {tp : Nat × (Nat → Int)} {a : Nat} {ex : TE} {tn : TN} {D D' : List Dd} {F F' : FS} {M1 M2 M3 : MC} {L : List Nat} {t : Nat} {fa : Int}
theorem Pur_D {s' : St} (p : Pur tp a ex tn D F M1 M2 M3 L t) (h : LC s' 13 tn.1 (cF0 ex tn) D' F') : Pur tp a ex tn D' F' M1 M2 M3 L t := by
  obtain ⟨-, -, ⟨J, -, -, h1⟩, -⟩ := h
  exact ⟨p.1, p.2.1, p.2.2.1, p.2.2.2.1, CD_Rp h1, p.2.2.2.2.2⟩
theorem Cin_D {st' : St} (h : Cin st tp a ex tn D F M1 M2 M3 L t fa) (h1 : LC st' 13 tn.1 (cF0 ex tn) D' F') (e : ∀ q, q < 13 ∨ 30 < q → st' q = st q) : Cin st' tp a ex tn D' F' M1 M2 M3 L t fa := ⟨cp1 h (fun q i hx => by rw [e q (by omega)]), cp2 h (fun q i hx => by rw [e q (by omega)]), cp3 h (fun q i hx => by rw [e q (by omega)]), cp4 h (fun q i hx => by rw [e q (by omega)]), h1, ⟨cp6 h (fun q i hx => by rw [e q (by omega)]), cp7 h (fun q i hx => by rw [e q (by omega)]), cp8 h (fun q i hx => by rw [e q (by omega)])⟩, cp9 h (fun q i hx => by rw [e q (by omega)]), cp10 h (fun q i hx => by rw [e q (by omega)]), cp11 h (fun q i hx => by rw [e q (by omega)])⟩
theorem Min_D {st' : St} (h : Min st tp a ex tn D F M1 M2 M3 L t fa) (h1 : LM st' tn.1 a D' F') (e : FrD st st') : Min st' tp a ex tn D' F' M1 M2 M3 L t fa := ⟨mp1 h (fun q i hx => e q i (by omega)), mp2 h (fun q i hx => e q i (by omega)), mp3 h (fun q i hx => e q i (by omega)), mp4 h (fun q i hx => e q i (by omega)), h1, ⟨mp6 h (fun q i hx => e q i (by omega)), mp7 h (fun q i hx => e q i (by omega)), mp8 h (fun q i hx => e q i (by omega))⟩, mp9 h (fun q i hx => e q i (by omega)), mp10 h (fun q i hx => e q i (by omega)), mp11 h (fun q i hx => e q i (by omega))⟩
theorem LC_w {st' : St} {n J : Nat} {F0 : FS} (h : LC st 13 n F0 D F) (hJ : st 14 12 = J) (h1 : CR st' 14 n F) (h2 : st' 14 12 = J) (h3 : ∀ q, q < J → st' 19 q = st 19 q ∧ st' 20 q = st 20 q) (h4 : ∀ q, q < 14 ∨ 23 ≤ q → st' q = st q) : LC st' 13 n F0 D F := by
  obtain ⟨-, g2, ⟨J', j1, j2, j3⟩, g4, g5⟩ := h
  have eJ : J' = J := by
    have j1 : st 14 12 = (J' : Int) := j1
    omega
  subst eJ
  exact ⟨h1, g2, ⟨J', h2, j2, CD_congr (fun i _ => ⟨by rw [h4 (13 + 14) (by omega)], by rw [h4 (13 + 15) (by omega)], by rw [h4 (13 + 16) (by omega)], by rw [h4 (13 + 17) (by omega)]⟩) (fun i hi => h3 i hi) j3⟩, by rw [h4 13 (by omega)]; exact g4, g5⟩
end HT
theorem sp_isWay {d : Nat} {st : St} {v : Int} {Q : Rn} (hq : Q (vi (if 0 ≤ v ∧ v ≤ 2 then 1 else 0)) st) : MS (d + 1) 18 [vi v] st Q := by
  refine MS_s [vi v] rfl rfl rfl rfl ?_
  try simp only [awu 18 0, awu 18 1, awu 18 2, awu 18 3, awu 18 4, pe18, xs, i_load, i_loadR, i_inc, lg, lp, true_and, and_true, List.length_cons, List.length_nil, Nat.reduceAdd, Nat.reduceLeDiff, Nat.zero_le, Int.toNat_natCast, natLit]
  refine ⟨fun h => ?_, fun h => ⟨fun g => ?_, fun g => ?_⟩⟩
  · rw [if_neg (by omega)] at hq
    exact ⟨ok01_0, hq⟩
  · rw [if_neg (by omega)] at hq
    exact ⟨ok01_0, hq⟩
  · rw [if_pos (by omega)] at hq
    exact ⟨ok01_1, hq⟩
theorem sp_isHow {d : Nat} {st : St} {v : Int} {Q : Rn} (hq : Q (vi (if 0 ≤ v ∧ v ≤ 2 then 1 else 0)) st) : MS (d + 2) 79 [vi v] st Q := by
  refine MS_s [vi v] rfl rfl rfl rfl ?_
  try simp only [awu 79 0, pe79, xs, i_load, i_loadR, i_inc, lg, lp, true_and, and_true, List.length_cons, List.length_nil, Nat.reduceAdd, Nat.reduceLeDiff, Nat.zero_le, Int.toNat_natCast, natLit]
  refine sp_isIn ?_
  dsimp only
  try simp only [awu 79 0, pe79, xs, i_load, i_loadR, i_inc, lg, lp, true_and, and_true, List.length_cons, List.length_nil, Nat.reduceAdd, Nat.reduceLeDiff, Nat.zero_le, Int.toNat_natCast, natLit]
  refine ⟨?_, hq⟩
  split
  · exact ok01_1
  · exact ok01_0
theorem o_score {w x y : Int} {st : St} (h : INV st) : OPr 12 92 [vi w, vi x, vi y] st := by
  obtain ⟨tp, a, ex, tn, D, F, M1, M2, M3, L, t, fa, hC, hM, hP⟩ := h
  refine opp rl3 rl3 ?_
  have k13 : kl 13 = 1 := rfl
  have hn := hP.2.2.2.1.1
  have hL5 := hC.2.2.2.2.1
  have no : ¬ ((0 ≤ w ∧ w ≤ 2) ∧ x ≠ y ∧ isN F tn.1 x ∧ isN F tn.1 y) → QC st 92 [vi w, vi x, vi y] (vi (-2)) st := by
    intro hno
    refine ⟨_, tp, a, ex, tn, D, F, M1, M2, M3, L, t, fa, rfl, hC, hP, fun s hs => ?_⟩
    have hM := Min_s hM hs
    refine MS_v [vr 99, vi w, vi x, vi y] rfl rfl rfl rfl ?_
    try simp only [awu 92 0, pe92, xs, i_load, i_loadR, i_inc, lg, lp, true_and, and_true, List.length_cons, List.length_nil, Nat.reduceAdd, Nat.reduceLeDiff, Nat.zero_le, Int.toNat_natCast, natLit, mK0]
    refine sp_isHow ?_
    dsimp only
    by_cases z : 0 ≤ w ∧ w ≤ 2
    · rw [if_pos z]
      try simp only [awu 92 1, pe92, xs, i_load, i_loadR, i_inc, lg, lp, true_and, and_true, List.length_cons, List.length_nil, Nat.reduceAdd, Nat.reduceLeDiff, Nat.zero_le, Int.toNat_natCast, natLit, mK0]
      refine ⟨fun h => absurd h (by decide), fun _ => ?_⟩
      refine sp_mtwo hn hM.2.2.2.2.1.1 (fun a1 a2 a3 => absurd ⟨z, a1, a2, a3⟩ hno) (fun _ => ?_)
      dsimp only
      try simp only [awu 92 3, awu 92 4, pe92, xs, i_load, i_loadR, i_inc, lg, lp, true_and, and_true, List.length_cons, List.length_nil, Nat.reduceAdd, Nat.reduceLeDiff, Nat.zero_le, Int.toNat_natCast, natLit, mK0]
      exact ⟨fun _ => hM, fun h => absurd trivial h⟩
    · rw [if_neg z]
      try simp only [awu 92 3, awu 92 4, pe92, xs, i_load, i_loadR, i_inc, lg, lp, true_and, and_true, List.length_cons, List.length_nil, Nat.reduceAdd, Nat.reduceLeDiff, Nat.zero_le, Int.toNat_natCast, natLit, mK0]
      exact ⟨fun _ => hM, fun h => absurd trivial h⟩
  refine MS_v [vr 0, vi w, vi x, vi y] rfl rfl rfl rfl ?_
  try simp only [awu 12 0, pe12, xs, i_load, i_loadR, i_inc, lg, lp, true_and, and_true, List.length_cons, List.length_nil, Nat.reduceAdd, Nat.reduceLeDiff, Nat.zero_le, Int.toNat_natCast, natLit, cK0]
  refine sp_isWay ?_
  dsimp only
  by_cases z : 0 ≤ w ∧ w ≤ 2
  · rw [if_pos z]
    try simp only [awu 12 1, pe12, xs, i_load, i_loadR, i_inc, lg, lp, true_and, and_true, List.length_cons, List.length_nil, Nat.reduceAdd, Nat.reduceLeDiff, Nat.zero_le, Int.toNat_natCast, natLit, cK0, k13, Nat.zero_add, Nat.reduceAdd]
    refine ⟨fun h => absurd h (by decide), fun _ => ?_⟩
    refine sp_funl isFd_14 hn hL5.1 (fun a1 a2 a3 => ?_) (fun hno => ?_)
    · dsimp only
      try simp only [awu 12 3, pe12, xs, i_load, i_loadR, i_inc, lg, lp, true_and, and_true, List.length_cons, List.length_nil, Nat.reduceAdd, Nat.reduceLeDiff, Nat.zero_le, Int.toNat_natCast, natLit, cK0, k13, Nat.zero_add, Nat.reduceAdd]
      refine ⟨fun _ => ?_, fun h => absurd h (by decide)⟩
      obtain ⟨i, rfl⟩ : ∃ i : Nat, x = i := ⟨x.toNat, by have := a2.1; omega⟩
      obtain ⟨j, rfl⟩ : ∃ j : Nat, y = j := ⟨y.toNat, by have := a3.1; omega⟩
      have hi := a2.2.1
      have hj := a3.2.1
      obtain ⟨J, j1, j2, j3⟩ := hL5.2.2.1
      refine sp_fworth isFd_14 hn hL5.1 hL5.2.1 (by omega) (by omega) j1 j2 (fun s1 y1 y2 y3 y4 => ?_)
      dsimp only
      try simp only [awu 12 3, pe12, xs, i_load, i_loadR, i_inc, lg, lp, true_and, and_true, List.length_cons, List.length_nil, Nat.reduceAdd, Nat.reduceLeDiff, Nat.zero_le, Int.toNat_natCast, natLit, cK0]
      have hC := Cin_D hC (LC_w hL5 j1 y1 y2 y3 y4) (fun q hq => y4 q (by omega))
      refine ⟨_, tp, a, ex, tn, D, F, M1, M2, M3, L, t, fa, rfl, hC, hP, fun s hs => ?_⟩
      have hM := Min_s hM hs
      refine MS_v [vr 99, vi w, vi i, vi j] rfl rfl rfl rfl ?_
      try simp only [awu 92 0, pe92, xs, i_load, i_loadR, i_inc, lg, lp, true_and, and_true, List.length_cons, List.length_nil, Nat.reduceAdd, Nat.reduceLeDiff, Nat.zero_le, Int.toNat_natCast, natLit, mK0]
      refine sp_isHow ?_
      dsimp only
      rw [if_pos z]
      try simp only [awu 92 1, pe92, xs, i_load, i_loadR, i_inc, lg, lp, true_and, and_true, List.length_cons, List.length_nil, Nat.reduceAdd, Nat.reduceLeDiff, Nat.zero_le, Int.toNat_natCast, natLit, mK0]
      refine ⟨fun h => absurd h (by decide), fun _ => ?_⟩
      refine sp_mtwo hn hM.2.2.2.2.1.1 (fun _ _ _ => ?_) (fun h => absurd ⟨a1, a2, a3⟩ h)
      dsimp only
      try simp only [awu 92 2, pe92, xs, i_load, i_loadR, i_inc, lg, lp, true_and, and_true, List.length_cons, List.length_nil, Nat.reduceAdd, Nat.reduceLeDiff, Nat.zero_le, Int.toNat_natCast, natLit, mK0]
      refine ⟨fun h => absurd h (by decide), fun _ => ?_⟩
      obtain ⟨g1, g2, g3, ⟨J', g4, g5⟩, g6, g7, g8⟩ := hM.2.2.2.2.1
      refine sp_scoreOf hn hP.2.1.2 g1 g2 g3 (by omega) (by omega) g4 g5 z (fun s2 v1 v2 v3 => ?_)
      dsimp only
      try simp only [awu 92 2, awu 92 4, pe92, xs, i_load, i_loadR, i_inc, lg, lp, true_and, and_true, List.length_cons, List.length_nil, Nat.reduceAdd, Nat.reduceLeDiff, Nat.zero_le, Int.toNat_natCast, natLit, mK0]
      refine Min_D hM ⟨v1, g2, g3, ⟨J', v2, g5⟩, DA_congr g6 (fun i _ => v3 118 i (by omega)), ?_, g8⟩ (FrM_D v3)
      rw [v3 99 29 (by omega)]
      exact g7
    · dsimp only
      try simp only [awu 12 2, pe12, xs, i_load, i_loadR, i_inc, lg, lp, true_and, and_true, List.length_cons, List.length_nil, Nat.reduceAdd, Nat.reduceLeDiff, Nat.zero_le, Int.toNat_natCast, natLit, cK0]
      exact ⟨fun h => absurd trivial h, fun _ => no (fun h => hno h.2)⟩
  · rw [if_neg z]
    try simp only [awu 12 2, pe12, xs, i_load, i_loadR, i_inc, lg, lp, true_and, and_true, List.length_cons, List.length_nil, Nat.reduceAdd, Nat.reduceLeDiff, Nat.zero_le, Int.toNat_natCast, natLit, cK0]
    exact ⟨fun _ => no (fun h => z h.1), fun h => absurd trivial h⟩
theorem o_merge {x y : Int} {st : St} (h : INV st) : OPr 13 93 [vi x, vi y] st := by
  obtain ⟨tp, a, ex, tn, D, F, M1, M2, M3, L, t, fa, hC, hM, hP⟩ := h
  refine opp rl2 rl2 ?_
  have k13 : kl 13 = 1 := rfl
  have k14 : kl 14 = 0 := rfl
  have hn := hP.2.2.2.1.1
  have hL5 := hC.2.2.2.2.1
  refine MS_v [vr 0, vi x, vi y] rfl rfl rfl rfl ?_
  try simp only [awu 13 0, pe13, xs, i_load, i_loadR, i_inc, lg, lp, true_and, and_true, List.length_cons, List.length_nil, Nat.reduceAdd, Nat.reduceLeDiff, Nat.zero_le, Int.toNat_natCast, natLit, cK0, k13, Nat.zero_add, Nat.reduceAdd]
  refine sp_funl isFd_14 hn hL5.1 (fun a1 a2 a3 => ?_) (fun hno => ?_)
  · dsimp only
    have e10 := hL5.2.2.2.1
    try simp only [awu 13 2, awu 13 3, pe13, xs, i_load, i_loadR, i_inc, lg, lp, true_and, and_true, List.length_cons, List.length_nil, Nat.reduceAdd, Nat.reduceLeDiff, Nat.zero_le, Int.toNat_natCast, natLit, cK0, k13, e10, Nat.zero_add, Nat.reduceAdd]
    refine ⟨fun _ => ⟨fun h200 => ?_, fun h200 => ?_⟩, fun h => absurd h (by decide)⟩
    · obtain ⟨i, rfl⟩ : ∃ i : Nat, x = i := ⟨x.toNat, by have := a2.1; omega⟩
      obtain ⟨j, rfl⟩ : ∃ j : Nat, y = j := ⟨y.toNat, by have := a3.1; omega⟩
      have hi := a2.2.1
      have hj := a3.2.1
      have ui := a2.2.2
      have uj := a3.2.2
      rw [Int.toNat_natCast] at ui uj
      try simp only [awu 13 4, pe13, xs, i_load, i_loadR, i_inc, lg, lp, true_and, and_true, List.length_cons, List.length_nil, Nat.reduceAdd, Nat.reduceLeDiff, Nat.zero_le, Int.toNat_natCast, natLit, cK0, k13, e10, Nat.zero_add, Nat.reduceAdd]
      refine sp_doMerge isLn_13 hn hL5 (by omega) (by omega) (by omega) (by omega) ui uj (fun F' s1 y1 y2 y3 => ?_) (fun s1 y1 y2 y3 => ?_)
      · dsimp only
        have e10' := y2.1.2.2.2.1
        try simp only [awu 13 5, awu 13 7, pe13, xs, i_load, i_loadR, i_inc, lg, lp, true_and, and_true, List.length_cons, List.length_nil, Nat.reduceAdd, Nat.reduceLeDiff, Nat.zero_le, Int.toNat_natCast, natLit, cK0, k13, k14, e10', Nat.zero_add, Nat.reduceAdd]
        refine ⟨fun h => absurd h (by decide), fun _ => ?_⟩
        refine ⟨_, tp, a, ex, tn, _, F', M1, M2, M3, L, t, fa, rfl, Cin_D hC y2 (fun q hq => y3.1 q (by omega)), Pur_D hP y2, fun s hs => ?_⟩
        have hM := Min_s hM hs
        have e29 := hM.2.2.2.2.1.2.2.2.2.2.1
        refine MS_v [vr 99, vi i, vi j] rfl rfl rfl rfl ?_
        try simp only [awu 93 0, pe93, xs, i_load, i_loadR, i_inc, lg, lp, true_and, and_true, List.length_cons, List.length_nil, Nat.reduceAdd, Nat.reduceLeDiff, Nat.zero_le, Int.toNat_natCast, natLit, mK0]
        refine sp_mtwo hn hM.2.2.2.2.1.1 (fun _ _ _ => ?_) (fun h => absurd ⟨a1, a2, a3⟩ h)
        dsimp only
        try simp only [awu 93 2, awu 93 4, pe93, xs, i_load, i_loadR, i_inc, lg, lp, true_and, and_true, List.length_cons, List.length_nil, Nat.reduceAdd, Nat.reduceLeDiff, Nat.zero_le, Int.toNat_natCast, natLit, mK0, e29]
        refine ⟨fun _ => ⟨fun _ => ?_, fun h => by omega⟩, fun h => absurd h (by decide)⟩
        obtain ⟨g1, g2, g3, ⟨J', g4, g5⟩, g6, g7, g8⟩ := hM.2.2.2.2.1
        refine sp_scoreOf hn hP.2.1.2 g1 g2 g3 (by omega) (by omega) g4 g5 (by decide) (fun s2 v1 v2 v3 => ?_)
        dsimp only
        have hLM : LM s2 tn.1 a D F := ⟨v1, g2, g3, ⟨J', v2, g5⟩, DA_congr g6 (fun i _ => v3 118 i (by omega)), by rw [v3 99 29 (by omega)]; exact g7, g8⟩
        have hM2 := Min_D hM hLM (FrM_D v3)
        have hs : scr 0 F tn.1 i j ≠ -1 := by
          unfold scr
          rw [y1]
          show wth 0 F F' tn.1 ≠ -1
          unfold wth
          rw [if_neg (by decide), if_neg (by decide)]
          decide
        try simp only [awu 93 4, awu 93 6, pe93, xs, i_load, i_loadR, i_inc, lg, lp, true_and, and_true, List.length_cons, List.length_nil, Nat.reduceAdd, Nat.reduceLeDiff, Nat.zero_le, Int.toNat_natCast, natLit, mK0]
        refine ⟨fun _ => ?_, fun h => (h hs).elim⟩
        refine sp_mergeNow hn hP.2.1.2 hLM (by omega) (by omega) (by omega) y1 (fun s3 u1 u2 => ?_)
        dsimp only
        try simp only [awu 93 7, pe93, xs, i_load, i_loadR, i_inc, lg, lp, true_and, and_true, List.length_cons, List.length_nil, Nat.reduceAdd, Nat.reduceLeDiff, Nat.zero_le, Int.toNat_natCast, natLit, mK0]
        exact Min_D hM2 u1 u2
      · dsimp only
        try simp only [awu 13 6, awu 13 7, pe13, xs, i_load, i_loadR, i_inc, lg, lp, true_and, and_true, List.length_cons, List.length_nil, Nat.reduceAdd, Nat.reduceLeDiff, Nat.zero_le, Int.toNat_natCast, natLit, cK0, k13, k14, Nat.zero_add, Nat.reduceAdd]
        refine ⟨fun _ => ?_, fun h => absurd trivial h⟩
        refine ⟨_, tp, a, ex, tn, D, F, M1, M2, M3, L, t, fa, rfl, Cin_D hC y2 (fun q hq => y3.1 q (by omega)), hP, fun s hs => ?_⟩
        have hM := Min_s hM hs
        have e29 := hM.2.2.2.2.1.2.2.2.2.2.1
        refine MS_v [vr 99, vi i, vi j] rfl rfl rfl rfl ?_
        try simp only [awu 93 0, pe93, xs, i_load, i_loadR, i_inc, lg, lp, true_and, and_true, List.length_cons, List.length_nil, Nat.reduceAdd, Nat.reduceLeDiff, Nat.zero_le, Int.toNat_natCast, natLit, mK0]
        refine sp_mtwo hn hM.2.2.2.2.1.1 (fun _ _ _ => ?_) (fun h => absurd ⟨a1, a2, a3⟩ h)
        dsimp only
        try simp only [awu 93 2, awu 93 4, pe93, xs, i_load, i_loadR, i_inc, lg, lp, true_and, and_true, List.length_cons, List.length_nil, Nat.reduceAdd, Nat.reduceLeDiff, Nat.zero_le, Int.toNat_natCast, natLit, mK0, e29]
        refine ⟨fun _ => ⟨fun _ => ?_, fun h => by omega⟩, fun h => absurd h (by decide)⟩
        obtain ⟨g1, g2, g3, ⟨J', g4, g5⟩, g6, g7, g8⟩ := hM.2.2.2.2.1
        refine sp_scoreOf hn hP.2.1.2 g1 g2 g3 (by omega) (by omega) g4 g5 (by decide) (fun s2 v1 v2 v3 => ?_)
        dsimp only
        have hLM : LM s2 tn.1 a D F := ⟨v1, g2, g3, ⟨J', v2, g5⟩, DA_congr g6 (fun i _ => v3 118 i (by omega)), by rw [v3 99 29 (by omega)]; exact g7, g8⟩
        have hs : scr 0 F tn.1 i j = -1 := by
          unfold scr
          rw [y1]
        rw [hs]
        try simp only [awu 93 4, awu 93 5, awu 93 7, pe93, xs, i_load, i_loadR, i_inc, lg, lp, true_and, and_true, List.length_cons, List.length_nil, Nat.reduceAdd, Nat.reduceLeDiff, Nat.zero_le, Int.toNat_natCast, natLit, mK0]
        exact ⟨fun h => absurd trivial h, fun _ => Min_D hM hLM (FrM_D v3)⟩
    · refine ⟨_, tp, a, ex, tn, D, F, M1, M2, M3, L, t, fa, rfl, hC, hP, fun s hs => ?_⟩
      have hM := Min_s hM hs
      have e29 := hM.2.2.2.2.1.2.2.2.2.2.1
      have h200' := hL5.2.2.2.2
      refine MS_v [vr 99, vi x, vi y] rfl rfl rfl rfl ?_
      try simp only [awu 93 0, pe93, xs, i_load, i_loadR, i_inc, lg, lp, true_and, and_true, List.length_cons, List.length_nil, Nat.reduceAdd, Nat.reduceLeDiff, Nat.zero_le, Int.toNat_natCast, natLit, mK0]
      refine sp_mtwo hn hM.2.2.2.2.1.1 (fun _ _ _ => ?_) (fun h => absurd ⟨a1, a2, a3⟩ h)
      dsimp only
      try simp only [awu 93 2, awu 93 3, pe93, xs, i_load, i_loadR, i_inc, lg, lp, true_and, and_true, List.length_cons, List.length_nil, Nat.reduceAdd, Nat.reduceLeDiff, Nat.zero_le, Int.toNat_natCast, natLit, mK0, e29]
      exact ⟨fun _ => ⟨fun h => by omega, fun _ => hM⟩, fun h => absurd h (by decide)⟩
  · dsimp only
    try simp only [awu 13 1, pe13, xs, i_load, i_loadR, i_inc, lg, lp, true_and, and_true, List.length_cons, List.length_nil, Nat.reduceAdd, Nat.reduceLeDiff, Nat.zero_le, Int.toNat_natCast, natLit, cK0]
    refine ⟨fun h => absurd trivial h, fun _ => ?_⟩
    refine ⟨_, tp, a, ex, tn, D, F, M1, M2, M3, L, t, fa, rfl, hC, hP, fun s hs => ?_⟩
    have hM := Min_s hM hs
    refine MS_v [vr 99, vi x, vi y] rfl rfl rfl rfl ?_
    try simp only [awu 93 0, pe93, xs, i_load, i_loadR, i_inc, lg, lp, true_and, and_true, List.length_cons, List.length_nil, Nat.reduceAdd, Nat.reduceLeDiff, Nat.zero_le, Int.toNat_natCast, natLit, mK0]
    refine sp_mtwo hn hM.2.2.2.2.1.1 (fun a1 a2 a3 => absurd ⟨a1, a2, a3⟩ hno) (fun _ => ?_)
    dsimp only
    try simp only [awu 93 1, pe93, xs, i_load, i_loadR, i_inc, lg, lp, true_and, and_true, List.length_cons, List.length_nil, Nat.reduceAdd, Nat.reduceLeDiff, Nat.zero_le, Int.toNat_natCast, natLit, mK0]
    exact ⟨fun h => absurd trivial h, fun _ => hM⟩
