/-! one example left out -/
theorem rm_x {ex : TE} {i : Nat} (hi : i < ex.1) : ExR ex.2.1 ex.2.2 ex.1 (i : Int) = Exx (rmE ex i) := by
  funext w v
  apply propext
  constructor
  · rintro ⟨j, h1, h2, h3, h4⟩
    by_cases z : j < i
    · exact ⟨j, by show j < ex.1 - 1; omega, by omega, by show (if j < i then ex.2.1 j else ex.2.1 (j + 1)) = w; rw [if_pos z]; exact h3, by show (if j < i then ex.2.2 j else ex.2.2 (j + 1)) = v; rw [if_pos z]; exact h4⟩
    · exact ⟨j - 1, by show j - 1 < ex.1 - 1; omega, by omega, by show (if j - 1 < i then ex.2.1 (j - 1) else ex.2.1 (j - 1 + 1)) = w; rw [if_neg (by omega), show j - 1 + 1 = j by omega]; exact h3, by show (if j - 1 < i then ex.2.2 (j - 1) else ex.2.2 (j - 1 + 1)) = v; rw [if_neg (by omega), show j - 1 + 1 = j by omega]; exact h4⟩
  · rintro ⟨j, h1, h2, h3, h4⟩
    have h1 : j < ex.1 - 1 := h1
    have h3 : (if j < i then ex.2.1 j else ex.2.1 (j + 1)) = w := h3
    have h4 : (if j < i then ex.2.2 j else ex.2.2 (j + 1)) = v := h4
    by_cases z : j < i
    · rw [if_pos z] at h3 h4
      exact ⟨j, by omega, by omega, h3, h4⟩
    · rw [if_neg z] at h3 h4
      exact ⟨j + 1, by omega, by omega, h3, h4⟩
section HZ
variable {st : St} {tp : Nat × (Nat → Int)} {a : Nat} {ex : TE} {tn : TN} {D : List Dd} {F : FS} {M1 M2 M3 : MC} {L : List Nat} {t : Nat} {fa : Int}
theorem Pur_PX (p : Pur tp a ex tn D F M1 M2 M3 L t) : PX a ex := ⟨p.2.1, p.2.2.1, p.2.2.2.1.2.2.2, Cp_le (Cp_sub (Cp_mm p.2.2.2.1.2.1.1) (fun x hx => (p.2.2.2.1.2.2.1 x).mpr hx)) p.2.2.2.1.1⟩
theorem CW1 {d i : Nat} {Q : Rn} (hC : Cin st tp a ex tn D F M1 M2 M3 L t fa) (p : Pur tp a ex tn D F M1 M2 M3 L t) (hi : i < ex.1)
    (hq : ∀ (s' : St) (tn' : TN), Cin s' tp a ex tn D F M1 M2 M3 L t fa → TNo a (rmE ex i) tn' → s' 31 4 = (tn'.1 : Nat) → T0 tn'.1 (cF0 (rmE ex i) tn') (s' 33) (s' 35) → Q none s') : MS (d + 4) 252 [vr 31, vr 5, vi i] st Q := by
  have hPX := PX_rm p.2.1 p.2.2.1 p.2.2.2.1 hi
  have e : ExR ex.2.1 (st 7) ex.1 (i : Int) = Exx (rmE ex i) := (ExR_eq (fun j hj => (hC.2.2.1.2 j hj).2)).trans (rm_x hi)
  refine sp_tbuild isTr_31 (by decide) (Cin_S hC p) (by rw [e]; exact hPX.2.2.2) (fun s' f n y1 y2 => ?_)
  rw [e] at y1
  obtain ⟨g1, g2, g3, g4, g5, g6, g7, g8⟩ := y1
  exact hq s' (n, f) (Cin_congr hC (fun q i hr => by rw [y2 q (by unfold rC at hr; omega) (by unfold rC at hr; omega) (by unfold rC at hr; omega) (by unfold rC at hr; omega) (by unfold rC at hr; omega)])) ⟨g2, g4, g5, hPX.2.2.1⟩ g1 (cF0_T0 g4.1 (fun i j hi hj e => Srt_inj hPX.2.1.2.2 hi hj e) g6 g8)
theorem CW2 {d n : Nat} {how : Int} {F0 : FS} {Q : Rn} (hC : Cin st tp a ex tn D F M1 M2 M3 L t fa) (hn : n ≤ 120) (h4 : st 31 4 = (n : Nat)) (h0 : T0 n F0 (st 33) (st 35)) (hF : FI n F0)
    (hq : ∀ s' : St, Cin s' tp a ex tn D F M1 M2 M3 L t fa → LC s' 36 n F0 (lrn how n 200 ([], F0)).1 (lrn how n 200 ([], F0)).2 → Q (vi (cR (lrn how n 200 ([], F0)).2 n : Nat)) s') : MS (d + 6) 177 [vr 36, vr 31, vi how] st Q :=
  sp_learn isLn_36 isTr_31 (by decide) h4 hn h0 hF (fun s' y1 y2 => hq s' (Cin_congr hC (fun q i hr => by rw [y2 q (by unfold rC at hr; omega)])) y1)
theorem XM_rm {s1 : St} {i : Nat} (h : XM st tp a ex M1 M2 M3 L t fa) (v1 : s1 99 8 = (ex.1 - 1 : Nat)) (v2 : ∀ j i', j = 101 ∨ j = 102 ∨ j = 103 → i' < ex.1 - 1 → s1 j i' = remF (st j) i i') (v3 : ∀ j i, ¬ (j = 99 ∧ i = 8) → j ≠ 101 → j ≠ 102 → j ≠ 103 → s1 j i = st j i) : XM s1 tp a (rmE ex i) M1 M2 M3 L t fa := by
  obtain ⟨h1, h2, h3, h4, h5, h6, h7⟩ := h
  refine ⟨⟨by rw [v3 99 1 (by omega) (by omega) (by omega) (by omega)]; exact h1.1, fun j hj => by rw [v3 100 j (by omega) (by omega) (by omega) (by omega)]; exact h1.2 j hj⟩, by rw [v3 99 2 (by omega) (by omega) (by omega) (by omega)]; exact h2, ⟨v1, fun j hj => ?_⟩, ⟨MCm_congr h4.1 (v3 _ _ (by omega) (by omega) (by omega) (by omega)) (fun i a b => v3 _ _ (by omega) (by omega) (by omega) (by omega)) (fun i a b => v3 _ _ (by omega) (by omega) (by omega) (by omega)), MCm_congr h4.2.1 (v3 _ _ (by omega) (by omega) (by omega) (by omega)) (fun i a b => v3 _ _ (by omega) (by omega) (by omega) (by omega)) (fun i a b => v3 _ _ (by omega) (by omega) (by omega) (by omega)), MCm_congr h4.2.2 (v3 _ _ (by omega) (by omega) (by omega) (by omega)) (fun i a b => v3 _ _ (by omega) (by omega) (by omega) (by omega)) (fun i a b => v3 _ _ (by omega) (by omega) (by omega) (by omega))⟩, ⟨by rw [v3 99 62 (by omega) (by omega) (by omega) (by omega)]; exact h5.1, fun j hj => by rw [v3 144 j (by omega) (by omega) (by omega) (by omega)]; exact h5.2 j hj⟩, by rw [v3 99 40 (by omega) (by omega) (by omega) (by omega)]; exact h6, by rw [v3 99 42 (by omega) (by omega) (by omega) (by omega)]; exact h7⟩
  have hj : j < ex.1 - 1 := hj
  rw [v2 101 j (by omega) hj, v2 102 j (by omega) hj, v2 103 j (by omega) hj]
  unfold remF
  show (if j < i then st 101 j else st 101 (j + 1)) = ((wl (if j < i then ex.2.1 j else ex.2.1 (j + 1)) : Nat) : Int) ∧ (if j < i then st 102 j else st 102 (j + 1)) = ((wc (if j < i then ex.2.1 j else ex.2.1 (j + 1)) : Nat) : Int) ∧ (if j < i then st 103 j else st 103 (j + 1)) = (if j < i then ex.2.2 j else ex.2.2 (j + 1))
  by_cases zj : j < i
  · rw [if_pos zj, if_pos zj, if_pos zj, if_pos zj, if_pos zj]
    exact h3.2 j (by omega)
  · rw [if_neg zj, if_neg zj, if_neg zj, if_neg zj, if_neg zj]
    exact h3.2 (j + 1) (by omega)
theorem sp_learnWithout {d i : Nat} {how : Int} {tn' : TN} {E : List Dd} {Q : Rn} (h : XM st tp a ex M1 M2 M3 L t fa) (p : PX a ex) (hPX : PX a (rmE ex i)) (hT : TNo a (rmE ex i) tn') (hi : i < ex.1) (hh : 0 ≤ how ∧ how ≤ 2) (hA : AS st E)
    (hq : ∀ s' : St, XM s' tp a (rmE ex i) M1 M2 M3 L t fa → AS s' E → s' 99 65 = (wl (ex.2.1 i) : Nat) → s' 99 66 = (wc (ex.2.1 i) : Nat) → s' 99 67 = ex.2.2 i → LM s' tn'.1 a (lrn how tn'.1 200 ([], cF0 (rmE ex i) tn')).1 (lrn how tn'.1 200 ([], cF0 (rmE ex i) tn')).2 → Q none s') : MS (d + 8) 154 [vr 99, vi how, vi i] st Q := by
  have k01 : kl 101 = 50 := rfl
  have l01 : len 101 = 40 := rfl
  have k02 : kl 102 = 50 := rfl
  have l02 : len 102 = 40 := rfl
  have k03 : kl 103 = 52 := rfl
  have l03 : len 103 = 40 := rfl
  have hx40 := p.2.1.1
  obtain ⟨e1, e2, e3⟩ := h.2.2.1.2 i hi
  have h01 := p.2.1.2.1 i hi
  have n1 : Unit → up2 st 99 65 ((wl (ex.2.1 i) : Nat) : Int) 102 i = ((wc (ex.2.1 i) : Nat) : Int) := fun _ => by rw [up2_ne (by decide)]; exact e2
  have n2 : Unit → up2 (up2 st 99 65 ((wl (ex.2.1 i) : Nat) : Int)) 99 66 ((wc (ex.2.1 i) : Nat) : Int) 103 i = ex.2.2 i := fun _ => by rw [up2_ne (by decide), up2_ne (by decide)]; exact e3
  refine MS_v [vr 99, vi how, vi i] rfl rfl rfl rfl ?_
  try simp only [awu 154 0, pe154, xs, i_load, i_loadR, i_inc, lg, lp, true_and, and_true, List.length_cons, List.length_nil, Nat.reduceAdd, Nat.reduceLeDiff, Nat.zero_le, Int.toNat_natCast, natLit, mK0, k01, l01, k02, l02, k03, l03, e1, n1 (), n2 ()]
  refine ⟨by omega, by omega, by omega, h01, ?_⟩
  generalize hS : up2 (up2 (up2 st 99 65 ((wl (ex.2.1 i) : Nat) : Int)) 99 66 ((wc (ex.2.1 i) : Nat) : Int)) 99 67 (ex.2.2 i) = S
  have fr : ∀ q j, ¬ (q = 99 ∧ (j = 65 ∨ j = 66 ∨ j = 67)) → S q j = st q j := fun q j hj => by
    rw [← hS]
    by_cases zq : q = 99
    · subst zq
      rw [up2_self, upf_n (by omega), up2_self, upf_n (by omega), up2_self, upf_n (by omega)]
    · rw [up2_ne zq, up2_ne zq, up2_ne zq]
  have f65 : S 99 65 = ((wl (ex.2.1 i) : Nat) : Int) := by rw [← hS, up2_self, upf_n (by decide), up2_self, upf_n (by decide), up2_self, upf_s]
  have f66 : S 99 66 = ((wc (ex.2.1 i) : Nat) : Int) := by rw [← hS, up2_self, upf_n (by decide), up2_self, upf_s]
  have f67 : S 99 67 = ex.2.2 i := by rw [← hS, up2_self, upf_s]
  have hX0 := XM_c2 (st' := S) h (fun q j hj => fr q j (by omega))
  refine sp_mrem hX0.2.2.1.1 hx40 hi (fun j hj => by rw [(hX0.2.2.1.2 j hj).2.2]; exact p.2.1.2.1 j hj) (fun s1 v1 v2 v3 => ?_)
  dsimp only
  try simp only [awu 154 0, pe154, xs, i_load, i_loadR, i_inc, lg, lp, true_and, and_true, List.length_cons, List.length_nil, Nat.reduceAdd, Nat.reduceLeDiff, Nat.zero_le, Int.toNat_natCast, natLit, mK0]
  refine MB0 (XM_rm hX0 v1 v2 v3) hPX hT (fun s2 hX2 hTr h0 f2 => ?_)
  dsimp only
  try simp only [awu 154 0, pe154, xs, i_load, i_loadR, i_inc, lg, lp, true_and, and_true, List.length_cons, List.length_nil, Nat.reduceAdd, Nat.reduceLeDiff, Nat.zero_le, Int.toNat_natCast, natLit, mK0]
  refine sp_mlearn hT.1 hPX.1.2 hTr.1 hX2.2.1 h0 cF0_FI (cF0_LA hPX.1.2 hT) hh (fun s3 u1 u2 => ?_)
  dsimp only
  try simp only [awu 154 0, pe154, xs, i_load, i_loadR, i_inc, lg, lp, true_and, and_true, List.length_cons, List.length_nil, Nat.reduceAdd, Nat.reduceLeDiff, Nat.zero_le, Int.toNat_natCast, natLit, mK0]
  have c : ∀ q j, (q = 99 ∧ (j = 64 ∨ j = 65 ∨ j = 66 ∨ j = 67)) ∨ q = 145 → s3 q j = S q j := fun q j hj => by rw [u2 q j (by omega), f2 q j (by omega) (by omega), v3 q j (by omega) (by omega) (by omega) (by omega)]
  exact hq s3 (XM_c2 hX2 (fun q j hj => u2 q j (by omega))) (AS_congr hA ((c 99 64 (by omega)).trans (fr 99 64 (by omega))) (fun j => (c 145 j (by omega)).trans (fr 145 j (by omega)))) ((c 99 65 (by omega)).trans f65) ((c 99 66 (by omega)).trans f66) ((c 99 67 (by omega)).trans f67) u1
theorem sp_bringIn {d i : Nat} {E : List Dd} {Q : Rn} (h : XM st tp a (rmE ex i) M1 M2 M3 L t fa) (p : PX a ex) (hPX : PX a (rmE ex i)) (hi : i < ex.1) (hA : AS st E) (e65 : st 99 65 = (wl (ex.2.1 i) : Nat)) (e66 : st 99 66 = (wc (ex.2.1 i) : Nat)) (e67 : st 99 67 = ex.2.2 i)
    (hq : ∀ s' : St, XM s' tp a ex M1 M2 M3 L t fa → AS s' E → Q none s') : MS (d + 3) 155 [vr 99, vi i] st Q := by
  have hx40 := p.2.1.1
  have h01 := p.2.1.2.1 i hi
  refine MS_v [vr 99, vi i] rfl rfl rfl rfl ?_
  try simp only [awu 155 0, pe155, xs, i_load, i_loadR, i_inc, lg, lp, true_and, and_true, List.length_cons, List.length_nil, Nat.reduceAdd, Nat.reduceLeDiff, Nat.zero_le, Int.toNat_natCast, natLit, mK0, e65, e66, e67]
  refine sp_mins (c := ex.1 - 1) h.2.2.1.1 (by omega) (by omega) h01 (fun j hj => by rw [(h.2.2.1.2 j hj).2.2]; exact hPX.2.1.2.1 j hj) (fun s1 y1 y2 y3 y4 y5 => ?_)
  dsimp only
  try simp only [awu 155 0, pe155, xs, i_load, i_loadR, i_inc, lg, lp, true_and, and_true, List.length_cons, List.length_nil, Nat.reduceAdd, Nat.reduceLeDiff, Nat.zero_le, Int.toNat_natCast, natLit, mK0]
  refine hq s1 ?_ (AS_congr hA (y5 99 64 (by omega) (by omega) (by omega) (by omega)) (fun j => y5 145 j (by omega) (by omega) (by omega) (by omega)))
  obtain ⟨h1, h2, h3, h4, h5, h6, h7⟩ := h
  refine ⟨⟨by rw [y5 99 1 (by omega) (by omega) (by omega) (by omega)]; exact h1.1, fun j hj => by rw [y5 100 j (by omega) (by omega) (by omega) (by omega)]; exact h1.2 j hj⟩, by rw [y5 99 2 (by omega) (by omega) (by omega) (by omega)]; exact h2, ⟨by rw [y1]; omega, fun j hj => ?_⟩, ⟨MCm_congr h4.1 (y5 _ _ (by omega) (by omega) (by omega) (by omega)) (fun i a b => y5 _ _ (by omega) (by omega) (by omega) (by omega)) (fun i a b => y5 _ _ (by omega) (by omega) (by omega) (by omega)), MCm_congr h4.2.1 (y5 _ _ (by omega) (by omega) (by omega) (by omega)) (fun i a b => y5 _ _ (by omega) (by omega) (by omega) (by omega)) (fun i a b => y5 _ _ (by omega) (by omega) (by omega) (by omega)), MCm_congr h4.2.2 (y5 _ _ (by omega) (by omega) (by omega) (by omega)) (fun i a b => y5 _ _ (by omega) (by omega) (by omega) (by omega)) (fun i a b => y5 _ _ (by omega) (by omega) (by omega) (by omega))⟩, ⟨by rw [y5 99 62 (by omega) (by omega) (by omega) (by omega)]; exact h5.1, fun j hj => by rw [y5 144 j (by omega) (by omega) (by omega) (by omega)]; exact h5.2 j hj⟩, by rw [y5 99 40 (by omega) (by omega) (by omega) (by omega)]; exact h6, by rw [y5 99 42 (by omega) (by omega) (by omega) (by omega)]; exact h7⟩
  rw [y2 j (by omega), y3 j (by omega), y4 j (by omega)]
  unfold insF
  have h3' : ∀ j, j < ex.1 - 1 → st 101 j = ((wl (if j < i then ex.2.1 j else ex.2.1 (j + 1)) : Nat) : Int) ∧ st 102 j = ((wc (if j < i then ex.2.1 j else ex.2.1 (j + 1)) : Nat) : Int) ∧ st 103 j = (if j < i then ex.2.2 j else ex.2.2 (j + 1)) := fun j hj => h3.2 j hj
  by_cases zj : j < i
  · rw [if_pos zj, if_pos zj, if_pos zj]
    have := h3' j (by omega)
    rw [if_pos zj, if_pos zj] at this
    exact this
  · rw [if_neg zj, if_neg zj, if_neg zj]
    by_cases zj2 : j = i
    · rw [if_pos zj2, if_pos zj2, if_pos zj2, zj2]
      exact ⟨rfl, rfl, rfl⟩
    · rw [if_neg zj2, if_neg zj2, if_neg zj2]
      have := h3' (j - 1) (by omega)
      rw [if_neg (by omega), if_neg (by omega), show j - 1 + 1 = j by omega] at this
      exact this
end HZ
theorem o_without {w x : Int} {st : St} (h : INV st) : OPr 19 157 [vi w, vi x] st := by
  obtain ⟨tp, a, ex, tn, D, F, M1, M2, M3, L, t, fa, hC, hM, hP⟩ := h
  refine opp rl2 rl2 ?_
  have hx40 := hP.2.2.1.1
  have e2 := hC.2.2.1.1
  have w8' : wr ((ex.1 : Int) - 1) = (ex.1 : Int) - 1 := wr_id (by omega) (by omega)
  have no : ¬ ((0 ≤ w ∧ w ≤ 2) ∧ 0 ≤ x ∧ x < (ex.1 : Int)) → QC st 157 [vi w, vi x] (vi (-2)) st := by
    intro hno
    refine ⟨_, tp, a, ex, tn, D, F, M1, M2, M3, L, t, fa, rfl, hC, hP, fun s hs => ?_⟩
    have hM := Min_s hM hs
    have e8 := hM.2.2.1.1
    refine MS_v [vr 99, vi w, vi x, none] rfl rfl rfl rfl ?_
    try simp only [awu 157 0, pe157, xs, i_load, i_loadR, i_inc, lg, lp, true_and, and_true, List.length_cons, List.length_nil, Nat.reduceAdd, Nat.reduceLeDiff, Nat.zero_le, Int.toNat_natCast, natLit, mK0]
    refine sp_isHow ?_
    dsimp only
    by_cases z : 0 ≤ w ∧ w ≤ 2
    · rw [if_pos z]
      try simp only [awu 157 1, pe157, xs, i_load, i_loadR, i_inc, lg, lp, true_and, and_true, List.length_cons, List.length_nil, Nat.reduceAdd, Nat.reduceLeDiff, Nat.zero_le, Int.toNat_natCast, natLit, mK0, e8, w8']
      refine ⟨fun h => absurd h (by decide), fun _ => ?_⟩
      refine sp_isIn ?_
      dsimp only
      rw [if_neg (by omega)]
      try simp only [awu 157 2, pe157, xs, i_load, i_loadR, i_inc, lg, lp, true_and, and_true, List.length_cons, List.length_nil, Nat.reduceAdd, Nat.reduceLeDiff, Nat.zero_le, Int.toNat_natCast, natLit, mK0]
      exact ⟨fun h => absurd trivial h, fun _ => hM⟩
    · rw [if_neg z]
      try simp only [awu 157 2, pe157, xs, i_load, i_loadR, i_inc, lg, lp, true_and, and_true, List.length_cons, List.length_nil, Nat.reduceAdd, Nat.reduceLeDiff, Nat.zero_le, Int.toNat_natCast, natLit, mK0]
      exact ⟨fun _ => hM, fun h => absurd trivial h⟩
  refine MS_v [vr 0, vi w, vi x] rfl rfl rfl rfl ?_
  try simp only [awu 19 0, pe19, xs, i_load, i_loadR, i_inc, lg, lp, true_and, and_true, List.length_cons, List.length_nil, Nat.reduceAdd, Nat.reduceLeDiff, Nat.zero_le, Int.toNat_natCast, natLit, cK0]
  refine sp_isWay ?_
  dsimp only
  by_cases z : 0 ≤ w ∧ w ≤ 2
  · rw [if_pos z]
    try simp only [awu 19 1, pe19, xs, i_load, i_loadR, i_inc, lg, lp, true_and, and_true, List.length_cons, List.length_nil, Nat.reduceAdd, Nat.reduceLeDiff, Nat.zero_le, Int.toNat_natCast, natLit, cK0, Nat.zero_add]
    refine ⟨fun h => absurd h (by decide), fun _ => ?_⟩
    refine sp_shas e2 hx40 ?_
    dsimp only
    by_cases zx : 0 ≤ x ∧ x < (ex.1 : Int)
    · rw [if_pos zx]
      obtain ⟨i, rfl⟩ : ∃ i : Nat, x = i := ⟨x.toNat, by omega⟩
      have hi : i < ex.1 := by omega
      have hPX := PX_rm hP.2.1 hP.2.2.1 hP.2.2.2.1 hi
      try simp only [awu 19 3, pe19, xs, i_load, i_loadR, i_inc, lg, lp, true_and, and_true, List.length_cons, List.length_nil, Nat.reduceAdd, Nat.reduceLeDiff, Nat.zero_le, Int.toNat_natCast, natLit, cK0, Nat.zero_add]
      refine ⟨fun _ => ?_, fun h => absurd h (by decide)⟩
      refine CW1 hC hP hi (fun s1 tn' hC hT h4 h0 => ?_)
      dsimp only
      try simp only [awu 19 3, pe19, xs, i_load, i_loadR, i_inc, lg, lp, true_and, and_true, List.length_cons, List.length_nil, Nat.reduceAdd, Nat.reduceLeDiff, Nat.zero_le, Int.toNat_natCast, natLit, cK0, Nat.zero_add]
      refine CW2 hC hT.1 h4 h0 cF0_FI (fun s2 hC _ => ?_)
      dsimp only
      try simp only [awu 19 3, pe19, xs, i_load, i_loadR, i_inc, lg, lp, true_and, and_true, List.length_cons, List.length_nil, Nat.reduceAdd, Nat.reduceLeDiff, Nat.zero_le, Int.toNat_natCast, natLit, cK0]
      refine ⟨_, tp, a, ex, tn, D, F, M1, M2, M3, L, t, fa, rfl, hC, hP, fun s hs => ?_⟩
      have hM := Min_s hM hs
      have e8 := hM.2.2.1.1
      obtain ⟨g1, g2, g3, g4, g6, g7, g8⟩ := id hM.2.2.2.2.1
      refine MS_v [vr 99, vi w, vi i, none] rfl rfl rfl rfl ?_
      try simp only [awu 157 0, pe157, xs, i_load, i_loadR, i_inc, lg, lp, true_and, and_true, List.length_cons, List.length_nil, Nat.reduceAdd, Nat.reduceLeDiff, Nat.zero_le, Int.toNat_natCast, natLit, mK0]
      refine sp_isHow ?_
      dsimp only
      rw [if_pos z]
      try simp only [awu 157 1, pe157, xs, i_load, i_loadR, i_inc, lg, lp, true_and, and_true, List.length_cons, List.length_nil, Nat.reduceAdd, Nat.reduceLeDiff, Nat.zero_le, Int.toNat_natCast, natLit, mK0, e8, w8']
      refine ⟨fun h => absurd h (by decide), fun _ => ?_⟩
      refine sp_isIn ?_
      dsimp only
      rw [if_pos (by omega)]
      try simp only [awu 157 3, pe157, xs, i_load, i_loadR, i_inc, lg, lp, true_and, and_true, List.length_cons, List.length_nil, Nat.reduceAdd, Nat.reduceLeDiff, Nat.zero_le, Int.toNat_natCast, natLit, mK0]
      refine ⟨fun _ => ?_, fun h => absurd h (by decide)⟩
      refine sp_putAside g6 g7 g8 (fun s3 hA f3 => ?_)
      dsimp only
      try simp only [awu 157 3, pe157, xs, i_load, i_loadR, i_inc, lg, lp, true_and, and_true, List.length_cons, List.length_nil, Nat.reduceAdd, Nat.reduceLeDiff, Nat.zero_le, Int.toNat_natCast, natLit, mK0]
      refine sp_learnWithout (XM_c2 (Min_XM hM) (fun q j hj => f3 q j (by omega) (by omega))) (Pur_PX hP) hPX hT hi z hA (fun s4 hX hA e65 e66 e67 hL => ?_)
      dsimp only
      have e19 := hL.1.2.2.2.2
      try simp only [awu 157 3, pe157, xs, i_load, i_loadR, i_inc, lg, lp, true_and, and_true, List.length_cons, List.length_nil, Nat.reduceAdd, Nat.reduceLeDiff, Nat.zero_le, Int.toNat_natCast, natLit, mK0, e19]
      refine sp_bringIn hX (Pur_PX hP) hPX hi hA e65 e66 e67 (fun s5 hX hA => ?_)
      dsimp only
      try simp only [awu 157 3, pe157, xs, i_load, i_loadR, i_inc, lg, lp, true_and, and_true, List.length_cons, List.length_nil, Nat.reduceAdd, Nat.reduceLeDiff, Nat.zero_le, Int.toNat_natCast, natLit, mK0]
      refine sp_bringBack hX (Pur_PX hP) hP.2.2.2.1 hA hP.2.2.2.2.1 g8 (fun s6 hM => ?_)
      dsimp only
      try simp only [awu 157 3, pe157, xs, i_load, i_loadR, i_inc, lg, lp, true_and, and_true, List.length_cons, List.length_nil, Nat.reduceAdd, Nat.reduceLeDiff, Nat.zero_le, Int.toNat_natCast, natLit, mK0]
      exact hM
    · rw [if_neg zx]
      try simp only [awu 19 2, pe19, xs, i_load, i_loadR, i_inc, lg, lp, true_and, and_true, List.length_cons, List.length_nil, Nat.reduceAdd, Nat.reduceLeDiff, Nat.zero_le, Int.toNat_natCast, natLit, cK0]
      exact ⟨fun h => absurd trivial h, fun _ => no (fun h => zx h.2)⟩
  · rw [if_neg z]
    try simp only [awu 19 2, pe19, xs, i_load, i_loadR, i_inc, lg, lp, true_and, and_true, List.length_cons, List.length_nil, Nat.reduceAdd, Nat.reduceLeDiff, Nat.zero_le, Int.toNat_natCast, natLit, cK0]
    exact ⟨fun _ => no (fun h => z h.1), fun h => absurd trivial h⟩
