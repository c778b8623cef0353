/-! calls on both: tape, written, two machines -/
theorem wo_congr {f g : Nat → Int} {a c : Nat} (h : ∀ i, i < c → f i = g i) : wo f a c = wo g a c := by
  have key : ∀ n, n ≤ c → wdOf f a n = wdOf g a n := by
    intro n
    induction n with
    | zero => intro _; rfl
    | succ n ih =>
      intro hn
      have e := ih (by omega)
      cases ew : wdOf g a n with
      | none => rw [wdOf_none (e.trans ew) 1, wdOf_none ew 1]
      | some w => rw [wdOf_s (e.trans ew), wdOf_s ew, h n (by omega)]
  unfold wo
  rw [key c (Nat.le_refl _)]
theorem wo_ok {f : Nat → Int} {a c w : Nat} (ha : a ≤ 4) (h : wo f a c = some w) : okw a w := by
  unfold wo at h
  by_cases z : c ≤ 10
  · rw [if_pos z] at h
    exact (wdOf_ok ha z h).1
  · rw [if_neg z] at h
    cases h
theorem woN : woI none = -1 := rfl
theorem woS {w : Nat} : woI (some w) = (w : Int) := rfl
section HR
variable {st : St} {tp : Nat × (Nat → Int)} {a : Nat} {ex : TE} {tn : TN} {D : List Dd} {F : FS} {M1 M2 M3 : MC} {L : List Nat} {t : Nat} {fa : Int}
theorem Pur_0 (p : Pur tp a ex tn D F M1 M2 M3 L t) : Pur (0, tp.2) a ex tn D F M1 M2 M3 L t := Pur_tp p ⟨Nat.zero_le _, fun i hi => absurd hi (Nat.not_lt_zero _)⟩
theorem Pur_L {L' : List Nat} (p : Pur tp a ex tn D F M1 M2 M3 L t) (h : L'.length ≤ 3618) : Pur tp a ex tn D F M1 M2 M3 L' t := ⟨p.1, p.2.1, p.2.2.1, p.2.2.2.1, p.2.2.2.2.1, p.2.2.2.2.2.1, p.2.2.2.2.2.2.1, h, p.2.2.2.2.2.2.2.2⟩
theorem Cin_L {L' : List Nat} {st' : St} (h : Cin st tp a ex tn D F M1 M2 M3 L t fa) (e : FrWc st st') (h1 : WRc st' L') : Cin st' tp a ex tn D F M1 M2 M3 L' t fa := ⟨cp1 h (fun q i hx => e q i (by omega) (by omega)), cp2 h (fun q i hx => e q i (by omega) (by omega)), cp3 h (fun q i hx => e q i (by omega) (by omega)), cp4 h (fun q i hx => e q i (by omega) (by omega)), cp5 h (fun q i hx => e q i (by omega) (by omega)), ⟨cp6 h (fun q i hx => e q i (by omega) (by omega)), cp7 h (fun q i hx => e q i (by omega) (by omega)), cp8 h (fun q i hx => e q i (by omega) (by omega))⟩, h1, cp10 h (fun q i hx => e q i (by omega) (by omega)), cp11 h (fun q i hx => e q i (by omega) (by omega))⟩
theorem Min_L {L' : List Nat} {st' : St} (h : Min st tp a ex tn D F M1 M2 M3 L t fa) (e : FrWm st st') (h1 : WRm st' L') : Min st' tp a ex tn D F M1 M2 M3 L' t fa := ⟨mp1 h (fun q i hx => e q i (by omega) (by omega)), mp2 h (fun q i hx => e q i (by omega) (by omega)), mp3 h (fun q i hx => e q i (by omega) (by omega)), mp4 h (fun q i hx => e q i (by omega) (by omega)), mp5 h (fun q i hx => e q i (by omega) (by omega)), ⟨mp6 h (fun q i hx => e q i (by omega) (by omega)), mp7 h (fun q i hx => e q i (by omega) (by omega)), mp8 h (fun q i hx => e q i (by omega) (by omega))⟩, h1, mp10 h (fun q i hx => e q i (by omega) (by omega)), mp11 h (fun q i hx => e q i (by omega) (by omega))⟩
theorem Cin_cut (h : Cin st tp a ex tn D F M1 M2 M3 L t fa) : Cin (up2 st 3 1 0) tp a ex tn D F M1 M2 M3 [] t fa := Cin_L h (fun q i h1 h2 => by
  rw [up2_at]
  by_cases zq : q = 3
  · subst zq
    rw [if_pos rfl, if_neg (by omega)]
  · rw [if_neg zq]) ⟨by rw [up2_self, upf_s]; rfl, fun i hi => absurd hi (Nat.not_lt_zero _)⟩
theorem CT {d : Nat} {Q : Rn} (hC : Cin st tp a ex tn D F M1 M2 M3 L t fa) (p : Pur tp a ex tn D F M1 M2 M3 L t) (hq : Cin (up2 st 1 1 0) (0, tp.2) a ex tn D F M1 M2 M3 L t fa → Q (vi (woI (wo tp.2 a tp.1))) (up2 st 1 1 0)) : MS (d + 4) 6 [vr 0] st Q := by
  refine sp_wot hC.1.1 p.1.1 (fun i hi => by rw [hC.1.2 i hi]; exact p.1.2 i hi) hC.2.1 p.2.1.2 ?_
  rw [wo_congr hC.1.2]
  refine hq (Cin_tp hC (fun q i _ h1 h2 => ?_) (by rw [up2_self, upf_s]; rfl) (fun i hi => absurd hi (Nat.not_lt_zero _)))
  rw [up2_at]
  by_cases zq : q = 1
  · subst zq
    rw [if_pos rfl, if_neg (by omega)]
  · rw [if_neg zq]
theorem MTp {d : Nat} {Q : Rn} (hM : Min st tp a ex tn D F M1 M2 M3 L t fa) (p : Pur tp a ex tn D F M1 M2 M3 L t)
    (h1 : ∀ (w : Nat) (s' : St), wo tp.2 a tp.1 = some w → s' 99 3 = (wl w : Nat) → s' 99 4 = (wc w : Nat) → Min s' (0, tp.2) a ex tn D F M1 M2 M3 L t fa → Q (vi 1) s')
    (h0 : ∀ s' : St, wo tp.2 a tp.1 = none → Min s' (0, tp.2) a ex tn D F M1 M2 M3 L t fa → Q (vi 0) s') : MS (d + 2) 47 [vr 99] st Q := by
  have key : ∀ x y : Int, Min (up2 (up2 (up2 st 99 1 0) 99 3 x) 99 4 y) (0, tp.2) a ex tn D F M1 M2 M3 L t fa := fun x y => by
    refine Min_tp hM (fun q i hr g1 g2 => ?_) ?_ (fun i hi => absurd hi (Nat.not_lt_zero _))
    · by_cases zq : q = 99
      · subst zq
        unfold rM at hr
        rw [up2_self, upf_n (by omega), up2_self, upf_n (by omega), up2_self, upf_n (by omega)]
      · rw [up2_ne zq, up2_ne zq, up2_ne zq]
    · rw [up2_self, upf_n (by decide), up2_self, upf_n (by decide), up2_self, upf_s]
      rfl
  refine sp_readWord (f := tp.2) hM.1.1 p.1.1 (fun i hi => ⟨(p.1.2 i hi).1, (p.1.2 i hi).2, hM.1.2 i hi⟩) hM.2.1 p.2.1.2 (fun w ew => h1 w _ ew ?_ ?_ (key _ _)) (fun ew x => h0 _ ew (key _ _))
  · rw [up2_self, upf_n (by decide), up2_self, upf_s]
  · rw [up2_self, upf_s]
theorem sp_machN {d : Nat} {m : Int} {Q : Rn} (hm : m = 1 ∨ m = 2 ∨ m = 3) (hq : Q (vr (oof m)) st) : MS (d + 4) 42 [vr 0, vi m] st Q := by
  unfold oof at hq
  refine MS_v [vr 0, vi m] rfl rfl rfl rfl ?_
  try simp only [awu 42 0, awu 42 1, awu 42 2, awu 42 3, pe42, xs, i_load, i_loadR, i_inc, lg, lp, true_and, and_true, List.length_cons, List.length_nil, Nat.reduceAdd, Nat.reduceLeDiff, Nat.zero_le, Int.toNat_natCast, natLit, t_sw, cK0, Nat.zero_add]
  refine ⟨fun h => ?_, fun h => ⟨fun g => ?_, fun g => ⟨fun y => ?_, fun y => ?_⟩⟩⟩
  · rw [if_neg (by omega), if_pos h] at hq
    exact hq
  · rw [if_neg (by omega), if_neg h, if_pos g] at hq
    exact hq
  · rw [if_neg (by omega), if_neg h, if_neg g] at hq
    exact hq
  · omega
theorem MCof {m : Int} (hC : Cin st tp a ex tn D F M1 M2 M3 L t fa) (hm : m = 1 ∨ m = 2 ∨ m = 3) : MCc st (oof m) (cof m) (mof F tn.1 M1 M2 M3 m) := by
  unfold oof cof mof
  rcases hm with rfl | rfl | rfl
  · exact hC.2.2.2.2.2.1.1
  · exact hC.2.2.2.2.2.1.2.1
  · exact hC.2.2.2.2.2.1.2.2
theorem CM2 {d : Nat} {m o : Int} {Q : Rn} (hC : Cin st tp a ex tn D F M1 M2 M3 L t fa) (p : Pur tp a ex tn D F M1 M2 M3 L t) (hm : 0 < (mof F tn.1 M1 M2 M3 m).1) (ho : 0 < (mof F tn.1 M1 M2 M3 o).1) (hN : MCc st (oof m) (cof m) (mof F tn.1 M1 M2 M3 m))
    (hq : ∀ st' : St, Cin st' tp a ex tn D F M1 M2 M3 L t fa → MCc st' (oof m) (cof m) (mof F tn.1 M1 M2 M3 m) → MCc st' (oof o) (cof o) (mof F tn.1 M1 M2 M3 o) → Q (vr (oof o)) st') : MS (d + 4) 42 [vr 0, vi o] st Q := by
  have ro := mof_r ho
  have rm := mof_r hm
  by_cases z : o = 0
  · subst z
    refine CM hC p ho (fun s1 g1 g2 => hq s1 g1 ?_ g2)
    by_cases zm : m = 0
    · subst zm
      exact g2
    · exact MCof g1 (by omega)
  · exact sp_machN (by omega) (hq st hC hN (MCof hC (by omega)))
theorem sp_isMN {d : Nat} {m : Int} {Q : Rn} (hM : Min st tp a ex tn D F M1 M2 M3 L t fa) (hm : m = 1 ∨ m = 2 ∨ m = 3) (hp : 0 < (mof F tn.1 M1 M2 M3 m).1) (hq : MCm st m.toNat (mof F tn.1 M1 M2 M3 m) → Q (vi 1) st) : MS (d + 3) 102 [vr 99, vi m] st Q := by
  have hN : MCm st m.toNat (mof F tn.1 M1 M2 M3 m) := by
    unfold mof
    rcases hm with rfl | rfl | rfl
    · exact hM.2.2.2.2.2.1.1
    · exact hM.2.2.2.2.2.1.2.1
    · exact hM.2.2.2.2.2.1.2.2
  have hr := mof_r hp
  have e := hN.1
  refine MS_v [vr 99, vi m] rfl rfl rfl rfl ?_
  try simp only [awu 102 0, awu 102 2, pe102, xs, i_load, i_loadR, i_inc, lg, lp, true_and, and_true, List.length_cons, List.length_nil, Nat.reduceAdd, Nat.reduceLeDiff, Nat.zero_le, Int.toNat_natCast, natLit, mK0]
  refine ⟨fun h => ?_, fun h => by omega⟩
  refine sp_isIn ?_
  dsimp only
  rw [if_pos hr]
  try simp only [awu 102 3, awu 102 4, awu 102 6, pe102, xs, i_load, i_loadR, i_inc, lg, lp, true_and, and_true, List.length_cons, List.length_nil, Nat.reduceAdd, Nat.reduceLeDiff, Nat.zero_le, Int.toNat_natCast, natLit, mK0, mK19, mL19, e]
  exact ⟨fun h => absurd h (by decide), fun _ => ⟨by omega, fun h => by omega, fun _ => ⟨ok01_1, hq hN⟩⟩⟩
theorem sp_areM {d : Nat} {m o : Int} {Q : Rn} (hM : Min st tp a ex tn D F M1 M2 M3 L t fa) (p : Pur tp a ex tn D F M1 M2 M3 L t)
    (h1 : ∀ st' : St, 0 < (mof F tn.1 M1 M2 M3 m).1 → 0 < (mof F tn.1 M1 M2 M3 o).1 → Min st' tp a ex tn D F M1 M2 M3 L t fa → MCm st' m.toNat (mof F tn.1 M1 M2 M3 m) → MCm st' o.toNat (mof F tn.1 M1 M2 M3 o) → Q (vi 1) st')
    (h0 : ∀ st' : St, ¬ (0 < (mof F tn.1 M1 M2 M3 m).1 ∧ 0 < (mof F tn.1 M1 M2 M3 o).1) → Min st' tp a ex tn D F M1 M2 M3 L t fa → Q (vi 0) st') : MS (d + 4) 130 [vr 99, vi m, vi o] st Q := by
  refine MS_v [vr 99, vi m, vi o] rfl rfl rfl rfl ?_
  try simp only [awu 130 0, pe130, xs, i_load, i_loadR, i_inc, lg, lp, true_and, and_true, List.length_cons, List.length_nil, Nat.reduceAdd, Nat.reduceLeDiff, Nat.zero_le, Int.toNat_natCast, natLit, mK0]
  refine MM hM p (fun s1 zm hM hN _ => ?_) (fun zm => ?_)
  · dsimp only
    try simp only [awu 130 1, pe130, xs, i_load, i_loadR, i_inc, lg, lp, true_and, and_true, List.length_cons, List.length_nil, Nat.reduceAdd, Nat.reduceLeDiff, Nat.zero_le, Int.toNat_natCast, natLit, mK0]
    refine ⟨fun h => absurd h (by decide), fun _ => ?_⟩
    by_cases zo : 0 < (mof F tn.1 M1 M2 M3 o).1
    · have rm := mof_r zm
      have ro := mof_r zo
      have fin : ∀ s2 : St, Min s2 tp a ex tn D F M1 M2 M3 L t fa → MCm s2 m.toNat (mof F tn.1 M1 M2 M3 m) → MCm s2 o.toNat (mof F tn.1 M1 M2 M3 o) → Q (vi 1) s2 := fun s2 g1 g2 g3 => h1 s2 zm zo g1 g2 g3
      by_cases z : o = 0
      · subst z
        refine MM hM p (fun s2 _ hM2 hO f2 => ?_) (fun z' => absurd zo z')
        dsimp only
        try simp only [awu 130 2, awu 130 4, pe130, xs, i_load, i_loadR, i_inc, lg, lp, true_and, and_true, List.length_cons, List.length_nil, Nat.reduceAdd, Nat.reduceLeDiff, Nat.zero_le, Int.toNat_natCast, natLit, mK0]
        refine ⟨fun h => absurd h (by decide), fun _ => ⟨ok01_1, fin s2 hM2 ?_ hO⟩⟩
        by_cases z0 : m = 0
        · subst z0
          exact hO
        · refine MCm_congr hN (f2 _ _ (by omega) (by omega) (by omega) (by omega)) (fun i a b => f2 _ _ (by omega) (by omega) (by omega) (by omega)) (fun i a b => f2 _ _ (by omega) (by omega) (by omega) (by omega))
      · refine sp_isMN hM (by omega) zo (fun hO => ?_)
        dsimp only
        try simp only [awu 130 2, awu 130 4, pe130, xs, i_load, i_loadR, i_inc, lg, lp, true_and, and_true, List.length_cons, List.length_nil, Nat.reduceAdd, Nat.reduceLeDiff, Nat.zero_le, Int.toNat_natCast, natLit, mK0]
        exact ⟨fun h => absurd h (by decide), fun _ => ⟨ok01_1, fin s1 hM hN hO⟩⟩
    · refine MM hM p (fun s2 z' _ _ _ => absurd z' zo) (fun _ => ?_)
      dsimp only
      try simp only [awu 130 3, awu 130 4, pe130, xs, i_load, i_loadR, i_inc, lg, lp, true_and, and_true, List.length_cons, List.length_nil, Nat.reduceAdd, Nat.reduceLeDiff, Nat.zero_le, Int.toNat_natCast, natLit, mK0]
      exact ⟨fun _ => ⟨ok01_0, h0 s1 (fun h => zo h.2) hM⟩, fun h => absurd trivial h⟩
  · dsimp only
    try simp only [awu 130 3, awu 130 4, pe130, xs, i_load, i_loadR, i_inc, lg, lp, true_and, and_true, List.length_cons, List.length_nil, Nat.reduceAdd, Nat.reduceLeDiff, Nat.zero_le, Int.toNat_natCast, natLit, mK0]
    exact ⟨fun _ => ⟨ok01_0, h0 st (fun h => zm h.1) hM⟩, fun h => absurd trivial h⟩
end HR
theorem o_text {m : Int} {st : St} (h : INV st) : OPr 35 148 [vi m] st := by
  obtain ⟨tp, a, ex, tn, D, F, M1, M2, M3, L, t, fa, hC, hM, hP⟩ := h
  refine opp rl1 rl1 ?_
  have k3 : kl 3 = 5 := rfl
  refine MS_v [vr 0, vi m] rfl rfl rfl rfl ?_
  try simp only [awu 35 0, pe35, xs, i_load, i_loadR, i_inc, lg, lp, true_and, and_true, List.length_cons, List.length_nil, Nat.reduceAdd, Nat.reduceLeDiff, Nat.zero_le, Int.toNat_natCast, natLit, cK0]
  refine sp_isThere (Cin_X hC hP) ?_
  dsimp only
  by_cases z : 0 < (mof F tn.1 M1 M2 M3 m).1
  · rw [if_pos z]
    obtain ⟨k, rfl, hk⟩ := mof_n z
    try simp only [awu 35 2, pe35, xs, i_load, i_loadR, i_inc, lg, lp, true_and, and_true, List.length_cons, List.length_nil, Nat.reduceAdd, Nat.reduceLeDiff, Nat.zero_le, Int.toNat_natCast, natLit, cK0, Nat.zero_add]
    refine ⟨fun _ => ?_, fun h => absurd h (by decide)⟩
    refine sp_cut k3 ?_
    dsimp only
    have hC := Cin_cut hC
    have hP0 := Pur_L (L' := []) hP (by decide)
    try simp only [awu 35 2, pe35, xs, i_load, i_loadR, i_inc, lg, lp, true_and, and_true, List.length_cons, List.length_nil, Nat.reduceAdd, Nat.reduceLeDiff, Nat.zero_le, Int.toNat_natCast, natLit, cK0, Nat.zero_add]
    refine CM hC hP0 z (fun s1 hC hN => ?_)
    dsimp only
    have e := hC.2.1
    try simp only [awu 35 2, pe35, xs, i_load, i_loadR, i_inc, lg, lp, true_and, and_true, List.length_cons, List.length_nil, Nat.reduceAdd, Nat.reduceLeDiff, Nat.zero_le, Int.toNat_natCast, natLit, cK0, e, Nat.zero_add]
    have ob := oof_b k
    refine sp_mcwrite (oof_c k) (by omega) hN (pM2 hP) (pMW hP) hP.2.1.2 hC.2.2.2.2.2.2.1 (fun s3 y1 y2 => ?_)
    dsimp only
    have hC := Cin_L hC y2 y1
    try simp only [awu 35 2, pe35, xs, i_load, i_loadR, i_inc, lg, lp, true_and, and_true, List.length_cons, List.length_nil, Nat.reduceAdd, Nat.reduceLeDiff, Nat.zero_le, Int.toNat_natCast, natLit, cK0, k3, y1.1, Nat.zero_add]
    have hl := txL_len (M := mof F tn.1 M1 M2 M3 (k : Int)) (a := a) hP.2.1.2 (mof F tn.1 M1 M2 M3 (k : Int)).1
    have h2 := pM2 (m := (k : Int)) hP
    refine ⟨_, tp, a, ex, tn, D, F, M1, M2, M3, _, t, fa, rfl, hC, Pur_L hP (by omega), fun s hs => ?_⟩
    have hM := Min_s hM hs
    refine MS_v [vr 99, vi k, none, none] rfl rfl rfl rfl ?_
    try simp only [awu 148 0, pe148, xs, i_load, i_loadR, i_inc, lg, lp, true_and, and_true, List.length_cons, List.length_nil, Nat.reduceAdd, Nat.reduceLeDiff, Nat.zero_le, Int.toNat_natCast, natLit, mK0]
    refine MM hM hP (fun s2 _ hM hN _ => ?_) (fun z' => absurd z z')
    dsimp only
    rw [Int.toNat_natCast] at hN
    try simp only [pe148, xs, i_load, i_loadR, i_inc, lg, lp, true_and, and_true, List.length_cons, List.length_nil, Nat.reduceAdd, Nat.reduceLeDiff, Nat.zero_le, Int.toNat_natCast, natLit, mK0]
    refine ⟨fun _ => ?_, fun h => absurd h (by decide)⟩
    exact sp_mtext hN hk (pMW hP) hP.2.1.2 hM.2.1 (fun s4 y1 y2 => ⟨rfl, Min_L hM y2 y1⟩)
  · rw [if_neg z]
    try simp only [awu 35 1, pe35, xs, i_load, i_loadR, i_inc, lg, lp, true_and, and_true, List.length_cons, List.length_nil, Nat.reduceAdd, Nat.reduceLeDiff, Nat.zero_le, Int.toNat_natCast, natLit, cK0]
    refine ⟨fun h => absurd trivial h, fun _ => ?_⟩
    refine ⟨_, tp, a, ex, tn, D, F, M1, M2, M3, L, t, fa, rfl, hC, hP, fun s hs => ?_⟩
    have hM := Min_s hM hs
    refine MS_v [vr 99, vi m, none, none] rfl rfl rfl rfl ?_
    try simp only [awu 148 0, pe148, xs, i_load, i_loadR, i_inc, lg, lp, true_and, and_true, List.length_cons, List.length_nil, Nat.reduceAdd, Nat.reduceLeDiff, Nat.zero_le, Int.toNat_natCast, natLit, mK0]
    refine MM hM hP (fun s2 z' _ _ _ => absurd z' z) (fun _ => ?_)
    dsimp only
    try simp only [awu 148 1, pe148, xs, i_load, i_loadR, i_inc, lg, lp, true_and, and_true, List.length_cons, List.length_nil, Nat.reduceAdd, Nat.reduceLeDiff, Nat.zero_le, Int.toNat_natCast, natLit, mK0]
    exact ⟨fun h => absurd trivial h, fun _ => hM⟩
theorem o_words {m x : Int} {st : St} (h : INV st) : OPr 30 109 [vi m, vi x] st := by
  obtain ⟨tp, a, ex, tn, D, F, M1, M2, M3, L, t, fa, hC, hM, hP⟩ := h
  refine opp rl2 rl2 ?_
  refine MS_v [vr 0, vi m, vi x] rfl rfl rfl rfl ?_
  try simp only [awu 30 0, pe30, xs, i_load, i_loadR, i_inc, lg, lp, true_and, and_true, List.length_cons, List.length_nil, Nat.reduceAdd, Nat.reduceLeDiff, Nat.zero_le, Int.toNat_natCast, natLit, cK0]
  refine sp_isThere (Cin_X hC hP) ?_
  dsimp only
  have no : ¬ (0 < (mof F tn.1 M1 M2 M3 m).1 ∧ 0 ≤ x ∧ x ≤ 10) → QC st 109 [vi m, vi x] (vi (-1)) st := by
    intro hn
    refine ⟨_, tp, a, ex, tn, D, F, M1, M2, M3, L, t, fa, rfl, hC, hP, fun s hs => ?_⟩
    have hM := Min_s hM hs
    refine MS_v [vr 99, vi m, vi x, none, none, none] rfl rfl rfl rfl ?_
    try simp only [awu 109 0, pe109, xs, i_load, i_loadR, i_inc, lg, lp, true_and, and_true, List.length_cons, List.length_nil, Nat.reduceAdd, Nat.reduceLeDiff, Nat.zero_le, Int.toNat_natCast, natLit, mK0]
    refine MM hM hP (fun s2 z' hM _ _ => ?_) (fun _ => ?_)
    · dsimp only
      try simp only [awu 109 1, pe109, xs, i_load, i_loadR, i_inc, lg, lp, true_and, and_true, List.length_cons, List.length_nil, Nat.reduceAdd, Nat.reduceLeDiff, Nat.zero_le, Int.toNat_natCast, natLit, mK0]
      refine ⟨fun h => absurd h (by decide), fun _ => ?_⟩
      refine sp_isIn ?_
      dsimp only
      rw [if_neg (fun h => hn ⟨z', h⟩)]
      try simp only [awu 109 2, pe109, xs, i_load, i_loadR, i_inc, lg, lp, true_and, and_true, List.length_cons, List.length_nil, Nat.reduceAdd, Nat.reduceLeDiff, Nat.zero_le, Int.toNat_natCast, natLit, mK0]
      exact ⟨fun h => absurd trivial h, fun _ => hM⟩
    · dsimp only
      try simp only [awu 109 2, pe109, xs, i_load, i_loadR, i_inc, lg, lp, true_and, and_true, List.length_cons, List.length_nil, Nat.reduceAdd, Nat.reduceLeDiff, Nat.zero_le, Int.toNat_natCast, natLit, mK0]
      exact ⟨fun _ => hM, fun h => absurd trivial h⟩
  by_cases z : 0 < (mof F tn.1 M1 M2 M3 m).1
  · rw [if_pos z]
    obtain ⟨k, rfl, hk⟩ := mof_n z
    try simp only [awu 30 1, awu 30 2, awu 30 3, pe30, xs, i_load, i_loadR, i_inc, lg, lp, true_and, and_true, List.length_cons, List.length_nil, Nat.reduceAdd, Nat.reduceLeDiff, Nat.zero_le, Int.toNat_natCast, natLit, cK0]
    refine ⟨fun h => absurd h (by decide), fun _ => ⟨fun h => no (by omega), fun h => ⟨fun h2 => ?_, fun h2 => no (by omega)⟩⟩⟩
    try simp only [awu 30 4, pe30, xs, i_load, i_loadR, i_inc, lg, lp, true_and, and_true, List.length_cons, List.length_nil, Nat.reduceAdd, Nat.reduceLeDiff, Nat.zero_le, Int.toNat_natCast, natLit, cK0, Nat.zero_add]
    obtain ⟨n, rfl⟩ : ∃ n : Nat, x = n := ⟨x.toNat, by omega⟩
    refine CM hC hP z (fun s1 hC hN => ?_)
    dsimp only
    have e := hC.2.1
    try simp only [awu 30 4, pe30, xs, i_load, i_loadR, i_inc, lg, lp, true_and, and_true, List.length_cons, List.length_nil, Nat.reduceAdd, Nat.reduceLeDiff, Nat.zero_le, Int.toNat_natCast, natLit, cK0, e, Nat.zero_add]
    have ob := oof_b k
    refine sp_count (oof_c k) hN (pMW hP) hP.2.1.2 (by omega) (by omega) (fun s3 y1 f3 => ?_)
    dsimp only
    try simp only [awu 30 4, pe30, xs, i_load, i_loadR, i_inc, lg, lp, true_and, and_true, List.length_cons, List.length_nil, Nat.reduceAdd, Nat.reduceLeDiff, Nat.zero_le, Int.toNat_natCast, natLit, cK0, Nat.zero_add]
    refine sp_waysOf y1 (by have := pM2 (m := (k : Int)) hP; omega) (by omega) (Nat.le_refl _) (Or.inr ⟨by decide, by omega⟩) ?_
    dsimp only
    try simp only [awu 30 4, pe30, xs, i_load, i_loadR, i_inc, lg, lp, true_and, and_true, List.length_cons, List.length_nil, Nat.reduceAdd, Nat.reduceLeDiff, Nat.zero_le, Int.toNat_natCast, natLit, cK0]
    refine ⟨_, tp, a, ex, tn, D, F, M1, M2, M3, L, t, fa, rfl, Cin_congr hC (fun q i hr => by rw [f3 q (by unfold rC at hr; omega)]), hP, fun s hs => ?_⟩
    have hM := Min_s hM hs
    refine MS_v [vr 99, vi k, vi n, none, none, none] rfl rfl rfl rfl ?_
    try simp only [awu 109 0, pe109, xs, i_load, i_loadR, i_inc, lg, lp, true_and, and_true, List.length_cons, List.length_nil, Nat.reduceAdd, Nat.reduceLeDiff, Nat.zero_le, Int.toNat_natCast, natLit, mK0]
    refine MM hM hP (fun s2 _ hM hN _ => ?_) (fun z' => absurd z z')
    dsimp only
    rw [Int.toNat_natCast] at hN
    try simp only [awu 109 1, pe109, xs, i_load, i_loadR, i_inc, lg, lp, true_and, and_true, List.length_cons, List.length_nil, Nat.reduceAdd, Nat.reduceLeDiff, Nat.zero_le, Int.toNat_natCast, natLit, mK0]
    refine ⟨fun h => absurd h (by decide), fun _ => ?_⟩
    refine sp_isIn ?_
    dsimp only
    rw [if_pos (by omega)]
    try simp only [pe109, xs, i_load, i_loadR, i_inc, lg, lp, true_and, and_true, List.length_cons, List.length_nil, Nat.reduceAdd, Nat.reduceLeDiff, Nat.zero_le, Int.toNat_natCast, natLit, mK0]
    refine ⟨fun _ => ?_, fun h => absurd h (by decide)⟩
    exact sp_mwords hN hk (pMW hP) z hP.2.1.2 hM.2.1 (by omega) (fun s4 f4 => ⟨rfl, Min_congr hM (fun q i hr => by rw [f4 q (by unfold rM at hr; omega) (by unfold rM at hr; omega)])⟩)
  · rw [if_neg z]
    try simp only [awu 30 3, pe30, xs, i_load, i_loadR, i_inc, lg, lp, true_and, and_true, List.length_cons, List.length_nil, Nat.reduceAdd, Nat.reduceLeDiff, Nat.zero_le, Int.toNat_natCast, natLit, cK0]
    exact ⟨fun _ => no (fun h => z h.1), fun h => absurd trivial h⟩
