/-! calls on both: the least machine, a text -/
theorem sst_p {t : TD} {pt : Nat → Nat} {mo n : Nat} (h : SV t pt mo n) (hn : 0 < n) : 0 < (sst t pt n).2.2 := by
  obtain ⟨k, rfl⟩ : ∃ k, n = k + 1 := ⟨n - 1, by omega⟩
  have h1 := (h.1 k (by omega)).1
  rw [sst_s]
  show 0 < (if pt k = (sst t pt k).2.2 then (sst t pt k).2.2 + 1 else (sst t pt k).2.2)
  split <;> omega
section HV
variable {st : St} {tp : Nat × (Nat → Int)} {a : Nat} {ex : TE} {tn : TN} {D : List Dd} {F : FS} {M1 M2 M3 M : MC} {L : List Nat} {t t' : Nat} {fa fa' : Int}
theorem Cin_1 {st' : St} (h : Cin st tp a ex tn D F M1 M2 M3 L t fa) (e : ∀ q, q < 57 ∨ (59 < q ∧ q < 66) ∨ 74 < q → st' q = st q) (h1 : MCc st' 57 8 M) (h2 : st' 66 9 = (t' : Nat)) : Cin st' tp a ex tn D F M M2 M3 L t' fa := ⟨cp1 h (fun q i hx => by rw [e q (by omega)]), cp2 h (fun q i hx => by rw [e q (by omega)]), cp3 h (fun q i hx => by rw [e q (by omega)]), cp4 h (fun q i hx => by rw [e q (by omega)]), cp5 h (fun q i hx => by rw [e q (by omega)]), ⟨h1, cp7 h (fun q i hx => by rw [e q (by omega)]), cp8 h (fun q i hx => by rw [e q (by omega)])⟩, cp9 h (fun q i hx => by rw [e q (by omega)]), h2, cp11 h (fun q i hx => by rw [e q (by omega)])⟩
theorem Min_1 {st' : St} (h : Min st tp a ex tn D F M1 M2 M3 L t fa) (e : FrE st st') (h1 : MCm st' 1 M) (h2 : st' 99 40 = (t' : Nat)) : Min st' tp a ex tn D F M M2 M3 L t' fa := ⟨mp1 h (fun q i hx => e q i (by omega) (by omega) (by omega) (by omega) (by omega)), mp2 h (fun q i hx => e q i (by omega) (by omega) (by omega) (by omega) (by omega)), mp3 h (fun q i hx => e q i (by omega) (by omega) (by omega) (by omega) (by omega)), mp4 h (fun q i hx => e q i (by omega) (by omega) (by omega) (by omega) (by omega)), mp5 h (fun q i hx => e q i (by omega) (by omega) (by omega) (by omega) (by omega)), ⟨h1, mp7 h (fun q i hx => e q i (by omega) (by omega) (by omega) (by omega) (by omega)), mp8 h (fun q i hx => e q i (by omega) (by omega) (by omega) (by omega) (by omega))⟩, mp9 h (fun q i hx => e q i (by omega) (by omega) (by omega) (by omega) (by omega)), h2, mp11 h (fun q i hx => e q i (by omega) (by omega) (by omega) (by omega) (by omega))⟩
theorem Min_t {st' : St} (h : Min st tp a ex tn D F M1 M2 M3 L t fa) (e : FrR st st') (h2 : st' 99 40 = (t' : Nat)) : Min st' tp a ex tn D F M1 M2 M3 L t' fa := ⟨mp1 h (fun q i hx => e q i (by omega) (by omega) (by omega)), mp2 h (fun q i hx => e q i (by omega) (by omega) (by omega)), mp3 h (fun q i hx => e q i (by omega) (by omega) (by omega)), mp4 h (fun q i hx => e q i (by omega) (by omega) (by omega)), mp5 h (fun q i hx => e q i (by omega) (by omega) (by omega)), ⟨mp6 h (fun q i hx => e q i (by omega) (by omega) (by omega)), mp7 h (fun q i hx => e q i (by omega) (by omega) (by omega)), mp8 h (fun q i hx => e q i (by omega) (by omega) (by omega))⟩, mp9 h (fun q i hx => e q i (by omega) (by omega) (by omega)), h2, mp11 h (fun q i hx => e q i (by omega) (by omega) (by omega))⟩
theorem Pur_1 (p : Pur tp a ex tn D F M1 M2 M3 L t) (h1 : MW a M) (h2 : M.1 ≤ 8) (h3 : t' ≤ 50000) : Pur tp a ex tn D F M M2 M3 L t' := ⟨p.1, p.2.1, p.2.2.1, p.2.2.2.1, p.2.2.2.2.1, ⟨h1, p.2.2.2.2.2.1.2⟩, ⟨h2, p.2.2.2.2.2.2.1.2⟩, p.2.2.2.2.2.2.2.1, h3⟩
theorem Cin_F {st' : St} (h : Cin st tp a ex tn D F M1 M2 M3 L t fa) (e : ∀ q i, ¬ (q = 0 ∧ i = 16) → ¬ (q = 1 ∧ i = 1) → ¬ (60 ≤ q ∧ q ≤ 62) → q < 75 ∨ 79 < q → st' q i = st q i) (h1 : st' 1 1 = 0) (h7 : MCc st' 60 40 M) (h11 : st' 0 16 = fa') : Cin st' (0, tp.2) a ex tn D F M1 M M3 L t fa' := ⟨⟨h1, fun i hi => absurd hi (Nat.not_lt_zero _)⟩, cp2 h (fun q i hx => e q i (by omega) (by omega) (by omega) (by omega)), cp3 h (fun q i hx => e q i (by omega) (by omega) (by omega) (by omega)), cp4 h (fun q i hx => e q i (by omega) (by omega) (by omega) (by omega)), cp5 h (fun q i hx => e q i (by omega) (by omega) (by omega) (by omega)), ⟨cp6 h (fun q i hx => e q i (by omega) (by omega) (by omega) (by omega)), h7, cp8 h (fun q i hx => e q i (by omega) (by omega) (by omega) (by omega))⟩, cp9 h (fun q i hx => e q i (by omega) (by omega) (by omega) (by omega)), cp10 h (fun q i hx => e q i (by omega) (by omega) (by omega) (by omega)), h11⟩
theorem Min_F {st' : St} (h : Min st tp a ex tn D F M1 M2 M3 L t fa) (e : ∀ q i, ¬ (q = 99 ∧ (i = 1 ∨ i = 41 ∨ i = 42 ∨ i = 43 ∨ i = 46)) → ¬ (q = 119 ∧ (i = 4 ∨ i = 2)) → ¬ (q = 120 ∧ (800 ≤ i ∨ (400 ≤ i ∧ i < 600))) → ¬ (q = 121 ∧ (3200 ≤ i ∨ (1600 ≤ i ∧ i < 2400))) → q ≠ 129 → q ≠ 130 → st' q i = st q i) (h1 : st' 99 1 = 0) (h7 : MCm st' 2 M) (h11 : st' 99 42 = fa') : Min st' (0, tp.2) a ex tn D F M1 M M3 L t fa' := ⟨⟨h1, fun i hi => absurd hi (Nat.not_lt_zero _)⟩, mp2 h (fun q i hx => e q i (by omega) (by omega) (by omega) (by omega) (by omega) (by omega)), mp3 h (fun q i hx => e q i (by omega) (by omega) (by omega) (by omega) (by omega) (by omega)), mp4 h (fun q i hx => e q i (by omega) (by omega) (by omega) (by omega) (by omega) (by omega)), mp5 h (fun q i hx => e q i (by omega) (by omega) (by omega) (by omega) (by omega) (by omega)), ⟨mp6 h (fun q i hx => e q i (by omega) (by omega) (by omega) (by omega) (by omega) (by omega)), h7, mp8 h (fun q i hx => e q i (by omega) (by omega) (by omega) (by omega) (by omega) (by omega))⟩, mp9 h (fun q i hx => e q i (by omega) (by omega) (by omega) (by omega) (by omega) (by omega)), mp10 h (fun q i hx => e q i (by omega) (by omega) (by omega) (by omega) (by omega) (by omega)), h11⟩
theorem Pur_2 (p : Pur tp a ex tn D F M1 M2 M3 L t) (h1 : MW a M) (h2 : M.1 ≤ 40) : Pur tp a ex tn D F M1 M M3 L t := ⟨p.1, p.2.1, p.2.2.1, p.2.2.2.1, p.2.2.2.2.1, ⟨p.2.2.2.2.2.1.1, h1, p.2.2.2.2.2.1.2.2⟩, ⟨p.2.2.2.2.2.2.1.1, h2, p.2.2.2.2.2.2.1.2.2⟩, p.2.2.2.2.2.2.2⟩
end HV
theorem o_least {st : St} (h : INV st) : OPr 22 115 [] st := by
  obtain ⟨tp, a, ex, tn, D, F, M1, M2, M3, L, t, fa, hC, hM, hP⟩ := h
  refine opp rl0 rl0 ?_
  have hb := lsr_b (t := tdX ex tn) (n := tn.1) 8 1 0 (by omega)
  refine MS_v [vr 0, none] rfl rfl rfl rfl ?_
  try simp only [awu 22 0, pe22, xs, i_load, i_loadR, i_inc, lg, lp, true_and, and_true, List.length_cons, List.length_nil, Nat.reduceAdd, Nat.reduceLeDiff, Nat.zero_le, Int.toNat_natCast, natLit, cK0, Nat.zero_add]
  refine sp_find (tdC hC hP) (fun s1 f1 e9 hcs => ?_)
  dsimp only
  by_cases z : (lsr (tdX ex tn) tn.1 8 1 0).1 = 0
  · obtain ⟨c1, c2, c3⟩ := hcs z
    have hp := sst_p c2 hP.2.2.2.1.2.1.2.1
    rw [if_pos z]
    try simp only [awu 22 0, awu 22 1, pe22, xs, i_load, i_loadR, i_inc, lg, lp, true_and, and_true, List.length_cons, List.length_nil, Nat.reduceAdd, Nat.reduceLeDiff, Nat.zero_le, Int.toNat_natCast, natLit, cK0, Nat.zero_add]
    refine ⟨fun h => by omega, fun _ => ?_⟩
    refine sp_stell c1 c2 c3 (fun s2 y1 y2 => ?_)
    dsimp only
    try simp only [awu 22 2, pe22, xs, i_load, i_loadR, i_inc, lg, lp, true_and, and_true, List.length_cons, List.length_nil, Nat.reduceAdd, Nat.reduceLeDiff, Nat.zero_le, Int.toNat_natCast, natLit, cK0]
    have e9' : s2 66 9 = ((lsr (tdX ex tn) tn.1 8 1 0).2.1 : Nat) := by rw [y2 66 (by decide) (by decide) (by decide)]; exact e9
    have hMW : MW a (lsM (tdX ex tn) (lsr (tdX ex tn) tn.1 8 1 0).2.2.1 tn.1) := lsM_W (fun k h0 hk => TNo_l hP.2.2.2.1 k h0 hk) hP.2.1.2 c2
    refine ⟨_, tp, a, ex, tn, D, F, _, M2, M3, L, _, fa, rfl, Cin_1 hC (fun q hq => by rw [y2 q (by omega) (by omega) (by omega), f1 q (by omega)]) y1 e9', Pur_1 hP hMW y1.2.1 hb, fun s hs => ?_⟩
    have hM := Min_s hM hs
    exact sp_mleast (tdM hM hP) (fun s3 _ _ _ v1 v2 v3 => ⟨rfl, Min_1 hM v3 v1 v2⟩) (fun s3 z' => absurd z z')
  · rw [if_neg z]
    have hr : (if (lsr (tdX ex tn) tn.1 8 1 0).1 = 1 then (-2 : Int) else -3) ≤ 0 := by split <;> omega
    generalize hrr : (if (lsr (tdX ex tn) tn.1 8 1 0).1 = 1 then (-2 : Int) else -3) = r at *
    try simp only [awu 22 0, awu 22 2, pe22, xs, i_load, i_loadR, i_inc, lg, lp, true_and, and_true, List.length_cons, List.length_nil, Nat.reduceAdd, Nat.reduceLeDiff, Nat.zero_le, Int.toNat_natCast, natLit, cK0, Nat.zero_add]
    refine ⟨fun _ => ?_, fun h => by omega⟩
    refine ⟨_, tp, a, ex, tn, D, F, M1, M2, M3, L, _, fa, rfl, Cin_1 hC (fun q hq => f1 q (by omega)) (cp6 hC (fun q i hx => by rw [f1 q (by omega)])) e9, Pur_1 hP hP.2.2.2.2.2.1.1 hP.2.2.2.2.2.2.1.1 hb, fun s hs => ?_⟩
    have hM := Min_s hM hs
    exact sp_mleast (tdM hM hP) (fun s3 z' => absurd z' z) (fun s3 _ v2 v3 => ⟨by rw [hrr], Min_t hM v3 v2⟩)
theorem up16 {s : St} {x : Int} {j i : Nat} (h1 : ¬ (j = 0 ∧ i = 16)) (h2 : ¬ (j = 1 ∧ i = 1)) : up2 (up2 s 0 16 x) 1 1 0 j i = s j i := by
  by_cases z1 : j = 1
  · subst z1
    rw [up2_self, upf_n (by omega), up2_ne (by decide)]
  · by_cases z0 : j = 0
    · subst z0
      rw [up2_ne (by decide), up2_self, upf_n (by omega)]
    · rw [up2_ne z1, up2_ne z0]
theorem o_target {st : St} (h : INV st) : OPr 24 124 [] st := by
  obtain ⟨tp, a, ex, tn, D, F, M1, M2, M3, L, t, fa, hC, hM, hP⟩ := h
  refine opp rl0 rl0 ?_
  have k1 : kl 1 = 5 := rfl
  have k60 : kl 60 = 2 := rfl
  have k75 : kl 75 = 6 := rfl
  have e15 := hC.2.1
  have mt : ∀ s : St, (∀ j, 99 ≤ j → s j = st j) → Min s tp a ex tn D F M1 M2 M3 L t fa ∧ ∀ i, i < tp.1 → s 100 i = w8 (tp.2 i) ∧ 0 ≤ tp.2 i ∧ tp.2 i ≤ 255 := fun s hs => by
    have hM := Min_s hM hs
    exact ⟨hM, fun i hi => ⟨hM.1.2 i hi, hP.1.2 i hi⟩⟩
  refine MS_v [vr 0] rfl rfl rfl rfl ?_
  try simp only [awu 24 0, pe24, xs, i_load, i_loadR, i_inc, lg, lp, true_and, and_true, List.length_cons, List.length_nil, Nat.reduceAdd, Nat.reduceLeDiff, Nat.zero_le, Int.toNat_natCast, natLit, cK0, e15, Nat.zero_add]
  refine sp_read (b := tp.2) ⟨hC.1.1, hP.1.1, fun i hi => ⟨hC.1.2 i hi, hP.1.2 i hi⟩⟩ hP.2.1.2 (fun s1 q y1 f1 => ?_) (fun s1 M y1 y2 y3 y4 y5 f1 => ?_)
  · dsimp only
    try simp only [awu 24 0, pe24, xs, i_load, i_loadR, i_inc, lg, lp, true_and, and_true, List.length_cons, List.length_nil, Nat.reduceAdd, Nat.reduceLeDiff, Nat.zero_le, Int.toNat_natCast, natLit, cK0, Nat.zero_add]
    refine sp_cut k1 ?_
    dsimp only
    have e16 : up2 (up2 s1 0 16 (q : Int)) 1 1 0 0 16 = (q : Int) := by rw [up2_ne (by decide), up2_self, upf_s]
    try simp only [awu 24 0, awu 24 1, pe24, xs, i_load, i_loadR, i_inc, lg, lp, true_and, and_true, List.length_cons, List.length_nil, Nat.reduceAdd, Nat.reduceLeDiff, Nat.zero_le, Int.toNat_natCast, natLit, cK0, e16]
    refine ⟨fun h => by omega, fun _ => ?_⟩
    have fr : ∀ j i, ¬ (j = 0 ∧ i = 16) → ¬ (j = 1 ∧ i = 1) → j < 75 ∨ 79 < j → up2 (up2 s1 0 16 (q : Int)) 1 1 0 j i = st j i := fun j i h1 h2 h3 => by rw [up16 h1 h2, f1 j h3]
    refine ⟨_, (0, tp.2), a, ex, tn, D, F, M1, M2, M3, L, t, (q : Int), rfl, Cin_F hC (fun j i h1 h2 _ h4 => fr j i h1 h2 h4) (by rw [up2_self, upf_s]) (cp7 hC (fun j i hx => fr j i (by omega) (by omega) (by omega))) e16, Pur_0 hP, fun s hs => ?_⟩
    obtain ⟨hM, hb⟩ := mt s hs
    exact sp_mtarget (b := tp.2) hM.1.1 hP.1.1 hb hP.2.1.1 hP.2.1.2 hM.2.1 (fun s2 q' v1 v2 v3 f2 => by
      rw [y1] at v1
      cases v1
      exact ⟨rfl, Min_F hM (fun j i a1 a2 a3 a4 a5 a6 => f2 j i a1 (by omega) (by omega) (by omega) a5 a6) v3 (mp7 hM (fun j i hx => f2 j i (by omega) (by omega) (by omega) (by omega) (by omega) (by omega))) v2⟩) (fun s2 M' v1 => by rw [y1] at v1; cases v1)
  · dsimp only
    try simp only [awu 24 0, pe24, xs, i_load, i_loadR, i_inc, lg, lp, true_and, and_true, List.length_cons, List.length_nil, Nat.reduceAdd, Nat.reduceLeDiff, Nat.zero_le, Int.toNat_natCast, natLit, cK0, Nat.zero_add]
    refine sp_cut k1 ?_
    dsimp only
    have e16 : up2 (up2 s1 0 16 (-1)) 1 1 0 0 16 = -1 := by rw [up2_ne (by decide), up2_self, upf_s]
    try simp only [awu 24 0, pe24, xs, i_load, i_loadR, i_inc, lg, lp, true_and, and_true, List.length_cons, List.length_nil, Nat.reduceAdd, Nat.reduceLeDiff, Nat.zero_le, Int.toNat_natCast, natLit, cK0, e16]
    refine ⟨fun _ => ?_, fun h => absurd trivial h⟩
    try simp only [awu 24 2, pe24, xs, i_load, i_loadR, i_inc, lg, lp, true_and, and_true, List.length_cons, List.length_nil, Nat.reduceAdd, Nat.reduceLeDiff, Nat.zero_le, Int.toNat_natCast, natLit, cK0, k75, Nat.zero_add, Nat.reduceAdd]
    have fr : ∀ j i, ¬ (j = 0 ∧ i = 16) → ¬ (j = 1 ∧ i = 1) → up2 (up2 s1 0 16 (-1)) 1 1 0 j i = s1 j i := fun j i h1 h2 => up16 h1 h2
    refine sp_mccopy isMc_60 isMc_76 (MCc_congr y5 (fun j _ _ => by funext i; exact fr j i (by omega) (by omega))) (by omega) (by decide) (fun s2 g1 g2 => ?_)
    dsimp only
    try simp only [awu 24 2, pe24, xs, i_load, i_loadR, i_inc, lg, lp, true_and, and_true, List.length_cons, List.length_nil, Nat.reduceAdd, Nat.reduceLeDiff, Nat.zero_le, Int.toNat_natCast, natLit, cK0, k60, g1.1, Nat.zero_add]
    have e16' : s2 0 16 = -1 := by rw [g2 0 (by decide) (by decide) (by decide)]; exact e16
    refine ⟨_, (0, tp.2), a, ex, tn, D, F, M1, M, M3, L, t, -1, rfl, Cin_F hC (fun j i h1 h2 h3 h4 => by rw [g2 j (by omega) (by omega) (by omega), fr j i h1 h2, f1 j h4]) (by rw [g2 1 (by decide) (by decide) (by decide), up2_self, upf_s]) g1 e16', Pur_0 (Pur_2 hP y4 y3), fun s hs => ?_⟩
    obtain ⟨hM, hb⟩ := mt s hs
    exact sp_mtarget (b := tp.2) hM.1.1 hP.1.1 hb hP.2.1.1 hP.2.1.2 hM.2.1 (fun s2 q' v1 => by rw [y1] at v1; cases v1) (fun s2 M' v1 v2 v3 v4 f2 => by
      rw [y1] at v1
      cases v1
      exact ⟨rfl, Min_F hM f2 v3 v4 v2⟩)
