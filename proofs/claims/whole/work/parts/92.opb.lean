/-! calls on both: what a machine is asked -/
def cK0 : kl 0 = 11 := rfl
def mK19 : kl 119 = 50 := rfl
def mL19 : len 119 = 5 := rfl
theorem mof_n {F : FS} {n : Nat} {M1 M2 M3 : MC} {m : Int} (h : 0 < (mof F n M1 M2 M3 m).1) : ∃ k : Nat, m = k ∧ k ≤ 3 := ⟨m.toNat, by have := mof_r h; omega, by have := mof_r h; omega⟩
section HQ
variable {st : St} {tp : Nat × (Nat → Int)} {a : Nat} {ex : TE} {tn : TN} {D : List Dd} {F : FS} {M1 M2 M3 : MC} {L : List Nat} {t : Nat} {fa : Int}
theorem pFI (p : Pur tp a ex tn D F M1 M2 M3 L t) : FI tn.1 F ∧ LA tn.1 a F := Rp_I cF0_FI (cF0_LA p.2.1.2 p.2.2.2.1) p.2.2.2.2.1
theorem pMW {m : Int} (p : Pur tp a ex tn D F M1 M2 M3 L t) : MW a (mof F tn.1 M1 M2 M3 m) := mof_W (pFI p).1 (pFI p).2 p.2.2.2.2.2.1.1 p.2.2.2.2.2.1.2.1 p.2.2.2.2.2.1.2.2
theorem pM2 {m : Int} (p : Pur tp a ex tn D F M1 M2 M3 L t) : (mof F tn.1 M1 M2 M3 m).1 ≤ 200 := by
  obtain ⟨h1, h2, h3, -⟩ := p.2.2.2.2.2.2.1
  have hn := p.2.2.2.1.1
  unfold mof
  split
  · have : (tlM F tn.1).1 ≤ tn.1 := cn_le _
    omega
  · split
    · omega
    · split
      · omega
      · split
        · exact h3
        · exact Nat.zero_le _
theorem CM {d : Nat} {m : Int} {Q : Rn} (hC : Cin st tp a ex tn D F M1 M2 M3 L t fa) (p : Pur tp a ex tn D F M1 M2 M3 L t) (hm : 0 < (mof F tn.1 M1 M2 M3 m).1)
    (hq : ∀ st' : St, Cin st' tp a ex tn D F M1 M2 M3 L t fa → MCc st' (oof m) (cof m) (mof F tn.1 M1 M2 M3 m) → Q (vr (oof m)) st') : MS (d + 4) 42 [vr 0, vi m] st Q :=
  sp_machine (Cin_X hC p) hm (fun s1 _ h2 h3 => hq s1 (Cin_congr hC (fun q i hr => by rw [h3 q (by unfold rC at hr; omega) (by unfold rC at hr; omega) (by unfold rC at hr; omega) (by unfold rC at hr; omega)])) h2)
theorem MM {d : Nat} {m : Int} {Q : Rn} (hM : Min st tp a ex tn D F M1 M2 M3 L t fa) (p : Pur tp a ex tn D F M1 M2 M3 L t)
    (h1 : ∀ st' : St, 0 < (mof F tn.1 M1 M2 M3 m).1 → Min st' tp a ex tn D F M1 M2 M3 L t fa → MCm st' m.toNat (mof F tn.1 M1 M2 M3 m) → FrN st st' → Q (vi 1) st')
    (h0 : ¬ 0 < (mof F tn.1 M1 M2 M3 m).1 → Q (vi 0) st) : MS (d + 3) 102 [vr 99, vi m] st Q :=
  sp_isMach (Min_X hM p) (fun s1 z _ h2 h3 => h1 s1 z (Min_congr hM (fun q i hr => h3 q i (by unfold rM at hr; omega) (by unfold rM at hr; omega) (by unfold rM at hr; omega) (by unfold rM at hr; omega))) h2 h3) h0
end HQ
theorem o_states {m : Int} {st : St} (h : INV st) : OPr 28 105 [vi m] st := by
  obtain ⟨tp, a, ex, tn, D, F, M1, M2, M3, L, t, fa, hC, hM, hP⟩ := h
  refine opp rl1 rl1 ?_
  refine MS_v [vr 0, vi m] rfl rfl rfl rfl ?_
  try simp only [awu 28 0, pe28, xs, i_load, i_loadR, i_inc, lg, lp, true_and, and_true, List.length_cons, List.length_nil, Nat.reduceAdd, Nat.reduceLeDiff, Nat.zero_le, Int.toNat_natCast, natLit, cK0]
  refine sp_isThere (Cin_X hC hP) ?_
  dsimp only
  by_cases z : 0 < (mof F tn.1 M1 M2 M3 m).1
  · rw [if_pos z]
    obtain ⟨k, rfl, hk⟩ := mof_n z
    try simp only [awu 28 1, pe28, xs, i_load, i_loadR, i_inc, lg, lp, true_and, and_true, List.length_cons, List.length_nil, Nat.reduceAdd, Nat.reduceLeDiff, Nat.zero_le, Int.toNat_natCast, natLit, cK0]
    refine ⟨fun h => absurd h (by decide), fun _ => ?_⟩
    refine CM hC hP z (fun s1 hC hN => ?_)
    dsimp only
    have ko := (oof_c k).1
    try simp only [awu 28 1, awu 28 3, pe28, xs, i_load, i_loadR, i_inc, lg, lp, true_and, and_true, List.length_cons, List.length_nil, Nat.reduceAdd, Nat.reduceLeDiff, Nat.zero_le, Int.toNat_natCast, natLit, ko, hN.1]
    refine ⟨_, tp, a, ex, tn, D, F, M1, M2, M3, L, t, fa, rfl, hC, hP, fun s hs => ?_⟩
    have hM := Min_s hM hs
    refine MS_v [vr 99, vi k] rfl rfl rfl rfl ?_
    try simp only [awu 105 0, pe105, xs, i_load, i_loadR, i_inc, lg, lp, true_and, and_true, List.length_cons, List.length_nil, Nat.reduceAdd, Nat.reduceLeDiff, Nat.zero_le, Int.toNat_natCast, natLit, mK0]
    refine MM hM hP (fun s2 _ hM hN _ => ?_) (fun z' => absurd z z')
    dsimp only
    rw [Int.toNat_natCast] at hN
    try simp only [awu 105 1, awu 105 3, pe105, xs, i_load, i_loadR, i_inc, lg, lp, true_and, and_true, List.length_cons, List.length_nil, Nat.reduceAdd, Nat.reduceLeDiff, Nat.zero_le, Int.toNat_natCast, natLit, mK0, mK19, mL19, hN.1]
    exact ⟨fun h => absurd h (by decide), fun _ => ⟨by omega, hM⟩⟩
  · rw [if_neg z]
    try simp only [awu 28 2, awu 28 3, pe28, xs, i_load, i_loadR, i_inc, lg, lp, true_and, and_true, List.length_cons, List.length_nil, Nat.reduceAdd, Nat.reduceLeDiff, Nat.zero_le, Int.toNat_natCast, natLit, cK0]
    refine ⟨fun _ => ?_, fun h => absurd trivial h⟩
    refine ⟨_, tp, a, ex, tn, D, F, M1, M2, M3, L, t, fa, rfl, hC, hP, fun s hs => ?_⟩
    have hM := Min_s hM hs
    refine MS_v [vr 99, vi m] rfl rfl rfl rfl ?_
    try simp only [awu 105 0, pe105, xs, i_load, i_loadR, i_inc, lg, lp, true_and, and_true, List.length_cons, List.length_nil, Nat.reduceAdd, Nat.reduceLeDiff, Nat.zero_le, Int.toNat_natCast, natLit, mK0]
    refine MM hM hP (fun s2 z' _ _ _ => absurd z' z) (fun _ => ?_)
    dsimp only
    try simp only [awu 105 2, awu 105 3, pe105, xs, i_load, i_loadR, i_inc, lg, lp, true_and, and_true, List.length_cons, List.length_nil, Nat.reduceAdd, Nat.reduceLeDiff, Nat.zero_le, Int.toNat_natCast, natLit, mK0]
    exact ⟨fun _ => hM, fun h => absurd trivial h⟩
theorem o_useful {m : Int} {st : St} (h : INV st) : OPr 33 144 [vi m] st := by
  obtain ⟨tp, a, ex, tn, D, F, M1, M2, M3, L, t, fa, hC, hM, hP⟩ := h
  refine opp rl1 rl1 ?_
  refine MS_v [vr 0, vi m] rfl rfl rfl rfl ?_
  try simp only [awu 33 0, pe33, xs, i_load, i_loadR, i_inc, lg, lp, true_and, and_true, List.length_cons, List.length_nil, Nat.reduceAdd, Nat.reduceLeDiff, Nat.zero_le, Int.toNat_natCast, natLit, cK0]
  refine sp_isThere (Cin_X hC hP) ?_
  dsimp only
  by_cases z : 0 < (mof F tn.1 M1 M2 M3 m).1
  · rw [if_pos z]
    obtain ⟨k, rfl, hk⟩ := mof_n z
    try simp only [awu 33 1, pe33, xs, i_load, i_loadR, i_inc, lg, lp, true_and, and_true, List.length_cons, List.length_nil, Nat.reduceAdd, Nat.reduceLeDiff, Nat.zero_le, Int.toNat_natCast, natLit, cK0, Nat.zero_add]
    refine ⟨fun h => absurd h (by decide), fun _ => ?_⟩
    refine CM hC hP z (fun s1 hC hN => ?_)
    dsimp only
    have e := hC.2.1
    try simp only [awu 33 1, pe33, xs, i_load, i_loadR, i_inc, lg, lp, true_and, and_true, List.length_cons, List.length_nil, Nat.reduceAdd, Nat.reduceLeDiff, Nat.zero_le, Int.toNat_natCast, natLit, cK0, e]
    have ob := oof_b k
    refine sp_useful (oof_c k) (by omega) hN (pM2 hP) z (pMW hP) hP.2.1.2 (fun s3 _ f3 => ?_)
    dsimp only
    try simp only [awu 33 1, awu 33 3, pe33, xs, i_load, i_loadR, i_inc, lg, lp, true_and, and_true, List.length_cons, List.length_nil, Nat.reduceAdd, Nat.reduceLeDiff, Nat.zero_le, Int.toNat_natCast, natLit, cK0]
    refine ⟨_, tp, a, ex, tn, D, F, M1, M2, M3, L, t, fa, rfl, Cin_congr hC (fun q i hr => by rw [f3 q (by unfold rC at hr; omega) (by unfold rC at hr; omega) (by unfold rC at hr; omega)]), hP, fun s hs => ?_⟩
    have hM := Min_s hM hs
    refine MS_v [vr 99, vi k] rfl rfl rfl rfl ?_
    try simp only [awu 144 0, pe144, xs, i_load, i_loadR, i_inc, lg, lp, true_and, and_true, List.length_cons, List.length_nil, Nat.reduceAdd, Nat.reduceLeDiff, Nat.zero_le, Int.toNat_natCast, natLit, mK0]
    refine MM hM hP (fun s2 _ hM hN _ => ?_) (fun z' => absurd z z')
    dsimp only
    rw [Int.toNat_natCast] at hN
    try simp only [awu 144 1, pe144, xs, i_load, i_loadR, i_inc, lg, lp, true_and, and_true, List.length_cons, List.length_nil, Nat.reduceAdd, Nat.reduceLeDiff, Nat.zero_le, Int.toNat_natCast, natLit, mK0]
    refine ⟨fun h => absurd h (by decide), fun _ => ?_⟩
    refine sp_layUseful hN (by omega) (pMW hP) hP.2.1.2 z hM.2.1 (fun s4 _ f4 => ?_)
    dsimp only
    try simp only [awu 144 1, awu 144 3, pe144, xs, i_load, i_loadR, i_inc, lg, lp, true_and, and_true, List.length_cons, List.length_nil, Nat.reduceAdd, Nat.reduceLeDiff, Nat.zero_le, Int.toNat_natCast, natLit, mK0]
    exact Min_congr hM (fun q i hr => by rw [f4 q (by unfold rM at hr; omega) (by unfold rM at hr; omega)])
  · rw [if_neg z]
    try simp only [awu 33 2, awu 33 3, pe33, xs, i_load, i_loadR, i_inc, lg, lp, true_and, and_true, List.length_cons, List.length_nil, Nat.reduceAdd, Nat.reduceLeDiff, Nat.zero_le, Int.toNat_natCast, natLit, cK0]
    refine ⟨fun _ => ?_, fun h => absurd trivial h⟩
    refine ⟨_, tp, a, ex, tn, D, F, M1, M2, M3, L, t, fa, rfl, hC, hP, fun s hs => ?_⟩
    have hM := Min_s hM hs
    refine MS_v [vr 99, vi m] rfl rfl rfl rfl ?_
    try simp only [awu 144 0, pe144, xs, i_load, i_loadR, i_inc, lg, lp, true_and, and_true, List.length_cons, List.length_nil, Nat.reduceAdd, Nat.reduceLeDiff, Nat.zero_le, Int.toNat_natCast, natLit, mK0]
    refine MM hM hP (fun s2 z' _ _ _ => absurd z' z) (fun _ => ?_)
    dsimp only
    try simp only [awu 144 2, awu 144 3, pe144, xs, i_load, i_loadR, i_inc, lg, lp, true_and, and_true, List.length_cons, List.length_nil, Nat.reduceAdd, Nat.reduceLeDiff, Nat.zero_le, Int.toNat_natCast, natLit, mK0]
    exact ⟨fun _ => hM, fun h => absurd trivial h⟩
theorem o_longest {m : Int} {st : St} (h : INV st) : OPr 34 145 [vi m] st := by
  obtain ⟨tp, a, ex, tn, D, F, M1, M2, M3, L, t, fa, hC, hM, hP⟩ := h
  refine opp rl1 rl1 ?_
  refine MS_v [vr 0, vi m] rfl rfl rfl rfl ?_
  try simp only [awu 34 0, pe34, xs, i_load, i_loadR, i_inc, lg, lp, true_and, and_true, List.length_cons, List.length_nil, Nat.reduceAdd, Nat.reduceLeDiff, Nat.zero_le, Int.toNat_natCast, natLit, cK0]
  refine sp_isThere (Cin_X hC hP) ?_
  dsimp only
  by_cases z : 0 < (mof F tn.1 M1 M2 M3 m).1
  · rw [if_pos z]
    obtain ⟨k, rfl, hk⟩ := mof_n z
    try simp only [awu 34 1, pe34, xs, i_load, i_loadR, i_inc, lg, lp, true_and, and_true, List.length_cons, List.length_nil, Nat.reduceAdd, Nat.reduceLeDiff, Nat.zero_le, Int.toNat_natCast, natLit, cK0, Nat.zero_add]
    refine ⟨fun h => absurd h (by decide), fun _ => ?_⟩
    refine CM hC hP z (fun s1 hC hN => ?_)
    dsimp only
    have e := hC.2.1
    try simp only [awu 34 1, pe34, xs, i_load, i_loadR, i_inc, lg, lp, true_and, and_true, List.length_cons, List.length_nil, Nat.reduceAdd, Nat.reduceLeDiff, Nat.zero_le, Int.toNat_natCast, natLit, cK0, e]
    have ob := oof_b k
    refine sp_longest (oof_c k) (by omega) hN (pM2 hP) z (pMW hP) hP.2.1.2 (fun s3 f3 => ?_)
    dsimp only
    try simp only [awu 34 1, awu 34 3, pe34, xs, i_load, i_loadR, i_inc, lg, lp, true_and, and_true, List.length_cons, List.length_nil, Nat.reduceAdd, Nat.reduceLeDiff, Nat.zero_le, Int.toNat_natCast, natLit, cK0]
    refine ⟨_, tp, a, ex, tn, D, F, M1, M2, M3, L, t, fa, rfl, Cin_congr hC (fun q i hr => by rw [f3 q (by unfold rC at hr; omega)]), hP, fun s hs => ?_⟩
    have hM := Min_s hM hs
    refine MS_v [vr 99, vi k, none, none, none, none, none, none, none] rfl rfl rfl rfl ?_
    try simp only [awu 145 0, pe145, xs, i_load, i_loadR, i_inc, lg, lp, true_and, and_true, List.length_cons, List.length_nil, Nat.reduceAdd, Nat.reduceLeDiff, Nat.zero_le, Int.toNat_natCast, natLit, mK0]
    refine MM hM hP (fun s2 _ hM hN _ => ?_) (fun z' => absurd z z')
    dsimp only
    rw [Int.toNat_natCast] at hN
    try simp only [pe145, xs, i_load, i_loadR, i_inc, lg, lp, true_and, and_true, List.length_cons, List.length_nil, Nat.reduceAdd, Nat.reduceLeDiff, Nat.zero_le, Int.toNat_natCast, natLit, mK0]
    refine ⟨fun _ => ?_, fun h => absurd h (by decide)⟩
    refine sp_mlongest hN (by omega) (pMW hP) hP.2.1.2 z hM.2.1 (fun s4 f4 => ?_)
    exact ⟨rfl, Min_congr hM (fun q i hr => by rw [f4 q (by unfold rM at hr; omega) (by unfold rM at hr; omega) (by unfold rM at hr; omega)])⟩
  · rw [if_neg z]
    try simp only [awu 34 2, awu 34 3, pe34, xs, i_load, i_loadR, i_inc, lg, lp, true_and, and_true, List.length_cons, List.length_nil, Nat.reduceAdd, Nat.reduceLeDiff, Nat.zero_le, Int.toNat_natCast, natLit, cK0]
    refine ⟨fun _ => ?_, fun h => absurd trivial h⟩
    refine ⟨_, tp, a, ex, tn, D, F, M1, M2, M3, L, t, fa, rfl, hC, hP, fun s hs => ?_⟩
    have hM := Min_s hM hs
    refine MS_v [vr 99, vi m, none, none, none, none, none, none, none] rfl rfl rfl rfl ?_
    try simp only [awu 145 0, pe145, xs, i_load, i_loadR, i_inc, lg, lp, true_and, and_true, List.length_cons, List.length_nil, Nat.reduceAdd, Nat.reduceLeDiff, Nat.zero_le, Int.toNat_natCast, natLit, mK0]
    refine MM hM hP (fun s2 z' _ _ _ => absurd z' z) (fun _ => ?_)
    dsimp only
    try simp only [awu 145 1, pe145, xs, i_load, i_loadR, i_inc, lg, lp, true_and, and_true, List.length_cons, List.length_nil, Nat.reduceAdd, Nat.reduceLeDiff, Nat.zero_le, Int.toNat_natCast, natLit, mK0]
    exact ⟨fun h => absurd trivial h, fun _ => hM⟩
theorem KD_NC {M : MC} {a n : Nat} {k : Nat → Nat} (hS : SH M a n) (hK : KD M a n k) : NCp M a (cn (isF (fun _ => true) k) n) := ⟨n, fun _ => true, zz M a n, k, fun i hi _ => hS.2.2.1 i hi, fun s hs => by obtain ⟨i, h1, h2⟩ := hS.2.2.2.1 s hs; exact ⟨i, h1, rfl, h2⟩, fun i j hi hj _ _ => hK.2 i j hi hj, rfl⟩
theorem o_small {m : Int} {st : St} (h : INV st) : OPr 38 137 [vi m] st := by
  obtain ⟨tp, a, ex, tn, D, F, M1, M2, M3, L, t, fa, hC, hM, hP⟩ := h
  refine opp rl1 rl1 ?_
  refine MS_v [vr 0, vi m] rfl rfl rfl rfl ?_
  try simp only [awu 38 0, pe38, xs, i_load, i_loadR, i_inc, lg, lp, true_and, and_true, List.length_cons, List.length_nil, Nat.reduceAdd, Nat.reduceLeDiff, Nat.zero_le, Int.toNat_natCast, natLit, cK0]
  refine sp_isThere (Cin_X hC hP) ?_
  dsimp only
  by_cases z : 0 < (mof F tn.1 M1 M2 M3 m).1
  · rw [if_pos z]
    obtain ⟨k, rfl, hk⟩ := mof_n z
    try simp only [awu 38 1, pe38, xs, i_load, i_loadR, i_inc, lg, lp, true_and, and_true, List.length_cons, List.length_nil, Nat.reduceAdd, Nat.reduceLeDiff, Nat.zero_le, Int.toNat_natCast, natLit, cK0, Nat.zero_add]
    refine ⟨fun h => absurd h (by decide), fun _ => ?_⟩
    refine CM hC hP z (fun s1 hC hN => ?_)
    dsimp only
    have e := hC.2.1
    try simp only [awu 38 1, pe38, xs, i_load, i_loadR, i_inc, lg, lp, true_and, and_true, List.length_cons, List.length_nil, Nat.reduceAdd, Nat.reduceLeDiff, Nat.zero_le, Int.toNat_natCast, natLit, cK0, e]
    have ob := oof_b k
    refine sp_shrink (oof_c k) (by omega) hN (pMW hP) z (pM2 hP) hP.2.1.2 (fun s3 n kk y1 y2 y3 _ _ f3 => ?_)
    dsimp only
    try simp only [awu 38 1, awu 38 3, pe38, xs, i_load, i_loadR, i_inc, lg, lp, true_and, and_true, List.length_cons, List.length_nil, Nat.reduceAdd, Nat.reduceLeDiff, Nat.zero_le, Int.toNat_natCast, natLit, cK0]
    refine ⟨_, tp, a, ex, tn, D, F, M1, M2, M3, L, t, fa, rfl, Cin_congr hC (fun q i hr => by rw [f3 q (by unfold rC at hr; omega)]), hP, fun s hs => ?_⟩
    have hM := Min_s hM hs
    refine MS_v [vr 99, vi k] rfl rfl rfl rfl ?_
    try simp only [awu 137 0, pe137, xs, i_load, i_loadR, i_inc, lg, lp, true_and, and_true, List.length_cons, List.length_nil, Nat.reduceAdd, Nat.reduceLeDiff, Nat.zero_le, Int.toNat_natCast, natLit, mK0]
    refine MM hM hP (fun s2 _ hM hN _ => ?_) (fun z' => absurd z z')
    dsimp only
    rw [Int.toNat_natCast] at hN
    try simp only [awu 137 1, pe137, xs, i_load, i_loadR, i_inc, lg, lp, true_and, and_true, List.length_cons, List.length_nil, Nat.reduceAdd, Nat.reduceLeDiff, Nat.zero_le, Int.toNat_natCast, natLit, mK0]
    refine ⟨fun h => absurd h (by decide), fun _ => ?_⟩
    refine sp_laySorts hN (by omega) (pMW hP) hP.2.1.2 z hM.2.1 (fun s4 g c _ w2 f4 => ?_)
    dsimp only
    try simp only [awu 137 1, awu 137 3, pe137, xs, i_load, i_loadR, i_inc, lg, lp, true_and, and_true, List.length_cons, List.length_nil, Nat.reduceAdd, Nat.reduceLeDiff, Nat.zero_le, Int.toNat_natCast, natLit, mK0]
    have e1 := KM_NC (pMW hP) hP.2.1.2 z w2
    have e2 := KD_NC y2 y3
    refine ⟨by rw [NCp_u e1 e2], Min_congr hM (fun q i hr => by rw [f4 q (by unfold rM at hr; omega) (by unfold rM at hr; omega) (by unfold rM at hr; omega)])⟩
  · rw [if_neg z]
    try simp only [awu 38 2, awu 38 3, pe38, xs, i_load, i_loadR, i_inc, lg, lp, true_and, and_true, List.length_cons, List.length_nil, Nat.reduceAdd, Nat.reduceLeDiff, Nat.zero_le, Int.toNat_natCast, natLit, cK0]
    refine ⟨fun _ => ?_, fun h => absurd trivial h⟩
    refine ⟨_, tp, a, ex, tn, D, F, M1, M2, M3, L, t, fa, rfl, hC, hP, fun s hs => ?_⟩
    have hM := Min_s hM hs
    refine MS_v [vr 99, vi m] rfl rfl rfl rfl ?_
    try simp only [awu 137 0, pe137, xs, i_load, i_loadR, i_inc, lg, lp, true_and, and_true, List.length_cons, List.length_nil, Nat.reduceAdd, Nat.reduceLeDiff, Nat.zero_le, Int.toNat_natCast, natLit, mK0]
    refine MM hM hP (fun s2 z' _ _ _ => absurd z' z) (fun _ => ?_)
    dsimp only
    try simp only [awu 137 2, awu 137 3, pe137, xs, i_load, i_loadR, i_inc, lg, lp, true_and, and_true, List.length_cons, List.length_nil, Nat.reduceAdd, Nat.reduceLeDiff, Nat.zero_le, Int.toNat_natCast, natLit, mK0]
    exact ⟨fun _ => hM, fun h => absurd trivial h⟩
