/-! an example put in, on both -/
section HX
variable {st : St} {tp : Nat × (Nat → Int)} {a : Nat} {ex : TE} {tn : TN} {D : List Dd} {F : FS} {M1 M2 M3 : MC} {L : List Nat} {t : Nat} {fa : Int}
theorem sp_addE {d w : Nat} {b : Int} {Q : Rn} (hC : Cin st tp a ex tn D F M1 M2 M3 L t fa) (hP : Pur tp a ex tn D F M1 M2 M3 L t) (hw : okw a w) (hb : ok01 b)
    (hq : ∀ (r : Int) (s' : St) (ex' : TE) (tn' : TN) (D' : List Dd) (F' : FS), AE a ex tn D F w b r ex' tn' D' F' → Cin s' tp a ex' tn' D' F' M1 M2 M3 L t fa → Q (vi r) s') : MS (d + 5) 7 [vr 0, vi w, vi b] st Q := by
  have k5 : kl 5 = 7 := rfl
  have k8 : kl 8 = 9 := rfl
  have hwf := okw_wf hw
  have hx40 := hP.2.2.1.1
  have hn := hP.2.2.2.1.1
  have hs := hP.2.2.1.2.2
  have e2 := hC.2.2.1.1
  have e4 := hC.2.2.2.1.1
  have h01 : ∀ j, j < ex.1 → ok01 (st 7 j) := fun j hj => by rw [(hC.2.2.1.2 j hj).2]; exact hP.2.2.1.2.1 j hj
  refine MS_v [vr 0, vi w, vi b, none] rfl rfl rfl rfl ?_
  try simp only [awu 7 0, pe7, xs, i_load, i_loadR, i_inc, lg, lp, true_and, and_true, List.length_cons, List.length_nil, Nat.reduceAdd, Nat.reduceLeDiff, Nat.zero_le, Int.toNat_natCast, natLit, cK0, Nat.zero_add]
  refine sp_spl e2 hx40 (fun p hp => ?_)
  have hp := IsPl_c hp (fun i hi => ((hC.2.2.1.2 i hi).1).symm)
  dsimp only
  try simp only [awu 7 0, pe7, xs, i_load, i_loadR, i_inc, lg, lp, true_and, and_true, List.length_cons, List.length_nil, Nat.reduceAdd, Nat.reduceLeDiff, Nat.zero_le, Int.toNat_natCast, natLit, cK0, Nat.zero_add]
  refine sp_sholds e2 hx40 (by omega) (fun p' hp' => ?_)
  have hp' := IsPl_c hp' (fun i hi => ((hC.2.2.1.2 i hi).1).symm)
  have epp := IsPl_u hp' hp
  subst epp
  dsimp only
  by_cases z : p' < ex.1 ∧ st 6 p' = (w : Int)
  · rw [if_pos z]
    have ew : ex.2.1 p' = w := by
      have := (hC.2.2.1.2 p' z.1).1
      have := z.2
      omega
    have e7 := (hC.2.2.1.2 p' z.1).2
    try simp only [awu 7 1, pe7, xs, i_load, i_loadR, i_inc, lg, lp, true_and, and_true, List.length_cons, List.length_nil, Nat.reduceAdd, Nat.reduceLeDiff, Nat.zero_le, Int.toNat_natCast, natLit, cK0, Nat.zero_add]
    refine ⟨fun h => absurd h (by decide), fun _ => ?_⟩
    refine sp_sisIn e2 hx40 h01 ?_
    dsimp only
    rw [if_pos (by omega), Int.toNat_natCast, e7]
    try simp only [awu 7 1, awu 7 2, awu 7 3, awu 7 4, pe7, xs, i_load, i_loadR, i_inc, lg, lp, true_and, and_true, List.length_cons, List.length_nil, Nat.reduceAdd, Nat.reduceLeDiff, Nat.zero_le, Int.toNat_natCast, natLit, cK0, k8, e4, Nat.zero_add]
    refine ⟨fun h => hq _ st ex tn D F (Or.inl ⟨⟨p', z.1, ew, ?_⟩, rfl, rfl, rfl, rfl⟩) hC, fun h => hq _ st ex tn D F (Or.inl ⟨⟨p', z.1, ew, ?_⟩, rfl, rfl, rfl, rfl⟩) hC⟩
    · rw [if_neg (by omega)]
    · rw [if_pos (by omega)]
  · rw [if_neg z]
    have hno : ∀ i, i < ex.1 → ex.2.1 i ≠ w := fun i hi e => by
      obtain ⟨h1, h2⟩ := IsPl_h hs hp hi e
      exact z ⟨h1, by rw [(hC.2.2.1.2 p' h1).1, h2]⟩
    try simp only [awu 7 5, awu 7 6, pe7, xs, i_load, i_loadR, i_inc, lg, lp, true_and, and_true, List.length_cons, List.length_nil, Nat.reduceAdd, Nat.reduceLeDiff, Nat.zero_le, Int.toNat_natCast, natLit, cK0, k5, e2, Nat.zero_add]
    refine ⟨fun _ => ⟨fun h40 => ?_, fun h40 => hq _ st ex tn D F (Or.inr (Or.inl ⟨hno, by omega, rfl, rfl, rfl, rfl, rfl⟩)) hC⟩, fun h => absurd trivial h⟩
    try simp only [awu 7 7, pe7, xs, i_load, i_loadR, i_inc, lg, lp, true_and, and_true, List.length_cons, List.length_nil, Nat.reduceAdd, Nat.reduceLeDiff, Nat.zero_le, Int.toNat_natCast, natLit, cK0, k8, e4, Nat.zero_add]
    refine sp_tlack isTr_8 e4 hn hC.2.2.2.1.2.1 hP.2.2.2.1.2.1.1 hwf ?_
    dsimp only
    have hlk : lk tn.2 tn.1 w (wl w) ≤ 10 := Nat.le_trans (lk_le _) hw.1
    have w1 : Unit → wr ((tn.1 : Int) + ((lk tn.2 tn.1 w (wl w) : Nat) : Int)) = (tn.1 : Int) + ((lk tn.2 tn.1 w (wl w) : Nat) : Int) := fun _ => wr_id (by omega) (by omega)
    try simp only [awu 7 7, awu 7 8, pe7, xs, i_load, i_loadR, i_inc, lg, lp, true_and, and_true, List.length_cons, List.length_nil, Nat.reduceAdd, Nat.reduceLeDiff, Nat.zero_le, Int.toNat_natCast, natLit, cK0, w1 ()]
    refine ⟨fun h120 => ?_, fun h120 => hq _ st ex tn D F (Or.inr (Or.inr (Or.inl ⟨hno, by omega, by omega, rfl, rfl, rfl, rfl, rfl⟩))) hC⟩
    have hPX := PX_ins hP.2.1 hP.2.2.1 hP.2.2.2.1 (by omega) hw hb hp hno (by omega)
    have hp1 := hp.1
    try simp only [awu 7 9, pe7, xs, i_load, i_loadR, i_inc, lg, lp, true_and, and_true, List.length_cons, List.length_nil, Nat.reduceAdd, Nat.reduceLeDiff, Nat.zero_le, Int.toNat_natCast, natLit, cK0, Nat.zero_add]
    refine sp_sins e2 (by omega) hp1 hb h01 (fun s1 y1 y2 y3 y4 => ?_)
    dsimp only
    try simp only [awu 7 9, pe7, xs, i_load, i_loadR, i_inc, lg, lp, true_and, and_true, List.length_cons, List.length_nil, Nat.reduceAdd, Nat.reduceLeDiff, Nat.zero_le, Int.toNat_natCast, natLit, cK0, Nat.zero_add]
    refine sp_taddw isTr_8 (by rw [y4 8 (by decide) (by decide) (by decide)]; exact e4) hn (fun k hk => by rw [y4 9 (by decide) (by decide) (by decide)]; exact hC.2.2.2.1.2.1 k hk) hP.2.2.2.1.2.1.1 hwf (Cp_le (Cp_lk (w := w) hP.2.2.2.1.2.1.1 (wl w)) (by omega)) (fun s2 f' n' v1 v2 v3 v4 v5 v6 => ?_)
    dsimp only
    try simp only [awu 7 9, pe7, xs, i_load, i_loadR, i_inc, lg, lp, true_and, and_true, List.length_cons, List.length_nil, Nat.reduceAdd, Nat.reduceLeDiff, Nat.zero_le, Int.toNat_natCast, natLit, cK0, Nat.zero_add]
    have hMm : ∀ x, Mm f' n' x ↔ Pf (fun w' => ∃ v, Exx (insE ex p' w b) w' v) x := fun x => by
      rw [v5 x, insE_P hp1 x, hP.2.2.2.1.2.2.1 x]
    have hnd : ND f' n' := ND_of v4 hMm (fun w' hw' => by
      obtain ⟨v, i, i1, _, i2, _⟩ := hw'
      rw [← i2]
      exact okw_wf (hPX.2.2.1 i i1))
    have hX : CX s2 tp a (insE ex p' w b) M1 M2 M3 L t fa := by
      obtain ⟨h1, h2, h3, h4, h5, h6, h7⟩ := Cin_CX hC
      have g : ∀ q i, q < 5 ∨ 12 < q → s2 q i = st q i := fun q i hq => by rw [v6 q i (by omega) (by omega), y4 q (by omega) (by omega) (by omega)]
      refine ⟨⟨by rw [g 1 1 (by omega)]; exact h1.1, fun j hj => by rw [g 2 j (by omega)]; exact h1.2 j hj⟩, by rw [g 0 15 (by omega)]; exact h2, ⟨by rw [v6 5 2 (by omega) (by omega)]; exact y1, fun j hj => ?_⟩, ⟨MCc_congr h4.1 (fun q a b => by funext i; exact g q i (by omega)), MCc_congr h4.2.1 (fun q a b => by funext i; exact g q i (by omega)), MCc_congr h4.2.2 (fun q a b => by funext i; exact g q i (by omega))⟩, ⟨by rw [g 3 1 (by omega)]; exact h5.1, fun j hj => by rw [g 4 j (by omega)]; exact h5.2 j hj⟩, by rw [g 66 9 (by omega)]; exact h6, by rw [g 0 16 (by omega)]; exact h7⟩
      have hj : j < ex.1 + 1 := hj
      rw [v6 6 j (by omega) (by omega), v6 7 j (by omega) (by omega), y2 j (by omega), y3 j (by omega)]
      unfold insF
      show (if j < p' then st 6 j else if j = p' then (w : Int) else st 6 (j - 1)) = ((insN ex.2.1 p' w j : Nat) : Int) ∧ (if j < p' then st 7 j else if j = p' then b else st 7 (j - 1)) = (if j < p' then ex.2.2 j else if j = p' then b else ex.2.2 (j - 1))
      unfold insN
      by_cases zj : j < p'
      · rw [if_pos zj, if_pos zj, if_pos zj, if_pos zj]
        exact h3.2 j (by omega)
      · rw [if_neg zj, if_neg zj, if_neg zj, if_neg zj]
        by_cases zj2 : j = p'
        · rw [if_pos zj2, if_pos zj2, if_pos zj2, if_pos zj2]
          exact ⟨rfl, rfl⟩
        · rw [if_neg zj2, if_neg zj2, if_neg zj2, if_neg zj2]
          exact h3.2 (j - 1) (by omega)
    obtain ⟨x1, x2, x3, x4, x5, x6⟩ := CX_S hX hPX
    have hT : TNo a (insE ex p' w b) (n', f') := ⟨v2, hnd, hMm, hPX.2.2.1⟩
    refine sp_tlink (e := (insE ex p' w b).2.1) (f := f') (lo := -1) isTr_8 (by decide) v1 v2 v3 hnd x1 x2 x3 x4 (fun i hi _ => ?_) (fun i j hi hj e => Srt_inj x5 hi hj e) (fun s3 u1 u2 u3 u4 => ?_)
    · obtain ⟨k, hk, hkw⟩ := ndX hT hi
      exact ⟨k, hk, hkw⟩
    dsimp only
    try simp only [awu 7 9, pe7, xs, i_load, i_loadR, i_inc, lg, lp, true_and, and_true, List.length_cons, List.length_nil, Nat.reduceAdd, Nat.reduceLeDiff, Nat.zero_le, Int.toNat_natCast, natLit, cK0, Nat.zero_add]
    have eE : ExR (insE ex p' w b).2.1 (s2 7) (insE ex p' w b).1 (-1) = Exx (insE ex p' w b) := ExR_eq (fun i hi => (hX.2.2.1.2 i hi).2)
    rw [eE] at u2
    have hX3 := CX_congr (st' := s3) hX (fun q i hq => by rw [u1 q (by omega) (by omega) (by omega)])
    have hR : TrC s3 (insE ex p' w b) (n', f') := ⟨by rw [u1 8 (by decide) (by decide) (by decide)]; exact v1, fun k hk => by rw [u1 9 (by decide) (by decide) (by decide)]; exact v3 k hk, u2, u3, u4⟩
    refine CB2 hX3 hPX hT hR (fun s4 hC4 => ?_)
    dsimp only
    have e4' := hC4.2.2.2.1.1
    try simp only [awu 7 9, pe7, xs, i_load, i_loadR, i_inc, lg, lp, true_and, and_true, List.length_cons, List.length_nil, Nat.reduceAdd, Nat.reduceLeDiff, Nat.zero_le, Int.toNat_natCast, natLit, cK0, k8, e4', Nat.zero_add]
    exact hq _ s4 _ _ _ _ (Or.inr (Or.inr (Or.inr ⟨hno, by omega, by omega, ⟨p', hp, rfl⟩, hPX, hT, rfl, rfl, rfl⟩))) hC4
theorem sp_exNow {d w : Nat} {b r : Int} {ex' : TE} {tn' : TN} {D' : List Dd} {F' : FS} {Q : Rn} (hM : Min st tp a ex tn D F M1 M2 M3 L t fa) (hP : Pur tp a ex tn D F M1 M2 M3 L t) (hw : okw a w) (hb : ok01 b) (hA : AE a ex tn D F w b r ex' tn' D' F')
    (hq : ∀ s' : St, Min s' tp a ex' tn' D' F' M1 M2 M3 L t fa → Q (vi r) s') : MS (d + 6) 81 [vr 99, vi (wl w : Nat), vi (wc w : Nat), vi b] st Q := by
  have k03 : kl 103 = 52 := rfl
  have l03 : len 103 = 40 := rfl
  have hwf := okw_wf hw
  have hx40 := hP.2.2.1.1
  have hn := hP.2.2.2.1.1
  have hs := hP.2.2.1.2.2
  have e8 := hM.2.2.1.1
  have e14 := hM.2.2.2.1.1
  have h01 : ∀ j, j < ex.1 → ok01 (st 103 j) := fun j hj => by rw [(hM.2.2.1.2 j hj).2.2]; exact hP.2.2.1.2.1 j hj
  refine MS_v [vr 99, vi (wl w : Nat), vi (wc w : Nat), vi b, none] rfl rfl rfl rfl ?_
  try simp only [awu 81 0, pe81, xs, i_load, i_loadR, i_inc, lg, lp, true_and, and_true, List.length_cons, List.length_nil, Nat.reduceAdd, Nat.reduceLeDiff, Nat.zero_le, Int.toNat_natCast, natLit, mK0]
  refine sp_mpl e8 hx40 (fun i hi => by rw [(hM.2.2.1.2 i hi).2.1]; have := wc_lt (ex.2.1 i); omega) (wc_lt w) (fun p hp => ?_)
  have hp : IsPl (fun i => (ex.2.1 i : Int)) ex.1 (w : Int) p := by
    rw [wl_wc w] at hp
    refine IsPl_c hp (fun i hi => ?_)
    obtain ⟨h1, h2, -⟩ := hM.2.2.1.2 i hi
    show (ex.2.1 i : Int) = st 101 i * 1048576 + st 102 i
    rw [h1, h2]
    have := wl_wc (ex.2.1 i)
    omega
  dsimp only
  try simp only [awu 81 0, pe81, xs, i_load, i_loadR, i_inc, lg, lp, true_and, and_true, List.length_cons, List.length_nil, Nat.reduceAdd, Nat.reduceLeDiff, Nat.zero_le, Int.toNat_natCast, natLit, mK0]
  refine sp_mthere e8 hx40 (by omega) ?_
  dsimp only
  rw [Int.toNat_natCast]
  by_cases z : (p : Int) < ex.1 ∧ st 101 p = ((wl w : Nat) : Int) ∧ st 102 p = ((wc w : Nat) : Int)
  · rw [if_pos z]
    have hpc : p < ex.1 := by omega
    obtain ⟨h1, h2, h3⟩ := hM.2.2.1.2 p hpc
    have ew : ex.2.1 p = w := by
      have a1 := wl_wc (ex.2.1 p)
      have a2 := wl_wc w
      have a3 := z.2.1
      have a4 := z.2.2
      have a5 : wl (ex.2.1 p) = wl w := by omega
      have a6 : wc (ex.2.1 p) = wc w := by omega
      rw [a5, a6] at a1
      omega
    try simp only [awu 81 1, awu 81 2, awu 81 3, awu 81 4, pe81, xs, i_load, i_loadR, i_inc, lg, lp, true_and, and_true, List.length_cons, List.length_nil, Nat.reduceAdd, Nat.reduceLeDiff, Nat.zero_le, Int.toNat_natCast, natLit, mK0, k03, l03, h3, e14]
    rcases hA with ⟨⟨p2, q1, q2, q3⟩, rfl, rfl, rfl, rfl⟩ | ⟨hno, _⟩ | ⟨hno, _⟩ | ⟨hno, _⟩
    · have ep : p2 = p := Srt_inj hs q1 hpc (q2.trans ew.symm)
      subst ep
      refine ⟨fun h => absurd h (by decide), fun _ => ⟨by omega, fun h => ?_, fun h => ?_⟩⟩
      · rw [if_neg (by omega)] at q3
        rw [q3] at hq
        exact hq st hM
      · rw [if_pos (by omega)] at q3
        rw [q3] at hq
        exact hq st hM
    · exact absurd ew (hno p hpc)
    · exact absurd ew (hno p hpc)
    · exact absurd ew (hno p hpc)
  · rw [if_neg z]
    have hnp : ¬ ∃ i, i < ex.1 ∧ ex.2.1 i = w := by
      rintro ⟨i, hi, e⟩
      obtain ⟨h1, h2⟩ := IsPl_h hs hp hi e
      obtain ⟨g1, g2, -⟩ := hM.2.2.1.2 p h1
      rw [h2] at g1 g2
      exact z ⟨by omega, g1, g2⟩
    try simp only [awu 81 5, awu 81 6, pe81, xs, i_load, i_loadR, i_inc, lg, lp, true_and, and_true, List.length_cons, List.length_nil, Nat.reduceAdd, Nat.reduceLeDiff, Nat.zero_le, Int.toNat_natCast, natLit, mK0, e8]
    refine ⟨fun _ => ?_, fun h => absurd trivial h⟩
    have hlk : lk tn.2 tn.1 w (wl w) ≤ 10 := Nat.le_trans (lk_le _) hw.1
    have w1 : Unit → wr ((tn.1 : Int) + ((lk tn.2 tn.1 w (wl w) : Nat) : Int)) = (tn.1 : Int) + ((lk tn.2 tn.1 w (wl w) : Nat) : Int) := fun _ => wr_id (by omega) (by omega)
    rcases hA with ⟨⟨p2, q1, q2, q3⟩, _⟩ | ⟨_, h40, rfl, rfl, rfl, rfl, rfl⟩ | ⟨_, h40, h120, rfl, rfl, rfl, rfl, rfl⟩ | ⟨hno, h40, h120, ⟨p2, hp2, rfl⟩, hPX, hT, rfl, rfl, rfl⟩
    · exact absurd ⟨p2, q1, q2⟩ hnp
    · exact ⟨fun h => by omega, fun _ => hq st hM⟩
    · refine ⟨fun _ => ?_, fun h => by omega⟩
      try simp only [awu 81 7, pe81, xs, i_load, i_loadR, i_inc, lg, lp, true_and, and_true, List.length_cons, List.length_nil, Nat.reduceAdd, Nat.reduceLeDiff, Nat.zero_le, Int.toNat_natCast, natLit, mK0, e14]
      refine sp_mmore e14 hn hM.2.2.2.1.2.1 hP.2.2.2.1.2.1.1 ⟨0, hP.2.2.2.1.2.1.2.1, hP.2.2.2.1.2.1.2.2.1⟩ hwf ?_
      dsimp only
      try simp only [awu 81 7, awu 81 8, pe81, xs, i_load, i_loadR, i_inc, lg, lp, true_and, and_true, List.length_cons, List.length_nil, Nat.reduceAdd, Nat.reduceLeDiff, Nat.zero_le, Int.toNat_natCast, natLit, mK0, w1 ()]
      exact ⟨fun h => by omega, fun _ => hq st hM⟩
    · refine ⟨fun _ => ?_, fun h => by omega⟩
      try simp only [awu 81 7, pe81, xs, i_load, i_loadR, i_inc, lg, lp, true_and, and_true, List.length_cons, List.length_nil, Nat.reduceAdd, Nat.reduceLeDiff, Nat.zero_le, Int.toNat_natCast, natLit, mK0, e14]
      refine sp_mmore e14 hn hM.2.2.2.1.2.1 hP.2.2.2.1.2.1.1 ⟨0, hP.2.2.2.1.2.1.2.1, hP.2.2.2.1.2.1.2.2.1⟩ hwf ?_
      dsimp only
      try simp only [awu 81 7, awu 81 9, pe81, xs, i_load, i_loadR, i_inc, lg, lp, true_and, and_true, List.length_cons, List.length_nil, Nat.reduceAdd, Nat.reduceLeDiff, Nat.zero_le, Int.toNat_natCast, natLit, mK0, w1 ()]
      refine ⟨fun _ => ?_, fun h => by omega⟩
      have ep := IsPl_u hp2 hp
      subst ep
      have hp1 := hp.1
      refine sp_mins e8 (by omega) hp1 hb h01 (fun s1 y1 y2 y3 y4 y5 => ?_)
      dsimp only
      try simp only [awu 81 9, pe81, xs, i_load, i_loadR, i_inc, lg, lp, true_and, and_true, List.length_cons, List.length_nil, Nat.reduceAdd, Nat.reduceLeDiff, Nat.zero_le, Int.toNat_natCast, natLit, mK0]
      have hX : XM s1 tp a (insE ex p2 w b) M1 M2 M3 L t fa := by
        obtain ⟨h1, h2, h3, h4, h5, h6, h7⟩ := Min_XM hM
        refine ⟨⟨by rw [y5 99 1 (by omega) (by omega) (by omega) (by omega)]; exact h1.1, fun j hj => by rw [y5 100 j (by omega) (by omega) (by omega) (by omega)]; exact h1.2 j hj⟩, by rw [y5 99 2 (by omega) (by omega) (by omega) (by omega)]; exact h2, ⟨y1, fun j hj => ?_⟩, ⟨MCm_congr h4.1 (y5 _ _ (by omega) (by omega) (by omega) (by omega)) (fun i a b => y5 _ _ (by omega) (by omega) (by omega) (by omega)) (fun i a b => y5 _ _ (by omega) (by omega) (by omega) (by omega)), MCm_congr h4.2.1 (y5 _ _ (by omega) (by omega) (by omega) (by omega)) (fun i a b => y5 _ _ (by omega) (by omega) (by omega) (by omega)) (fun i a b => y5 _ _ (by omega) (by omega) (by omega) (by omega)), MCm_congr h4.2.2 (y5 _ _ (by omega) (by omega) (by omega) (by omega)) (fun i a b => y5 _ _ (by omega) (by omega) (by omega) (by omega)) (fun i a b => y5 _ _ (by omega) (by omega) (by omega) (by omega))⟩, ⟨by rw [y5 99 62 (by omega) (by omega) (by omega) (by omega)]; exact h5.1, fun j hj => by rw [y5 144 j (by omega) (by omega) (by omega) (by omega)]; exact h5.2 j hj⟩, by rw [y5 99 40 (by omega) (by omega) (by omega) (by omega)]; exact h6, by rw [y5 99 42 (by omega) (by omega) (by omega) (by omega)]; exact h7⟩
        have hj : j < ex.1 + 1 := hj
        rw [y2 j (by omega), y3 j (by omega), y4 j (by omega)]
        unfold insF
        show (if j < p2 then st 101 j else if j = p2 then ((wl w : Nat) : Int) else st 101 (j - 1)) = ((wl (insN ex.2.1 p2 w j) : Nat) : Int) ∧ (if j < p2 then st 102 j else if j = p2 then ((wc w : Nat) : Int) else st 102 (j - 1)) = ((wc (insN ex.2.1 p2 w j) : Nat) : Int) ∧ (if j < p2 then st 103 j else if j = p2 then b else st 103 (j - 1)) = (if j < p2 then ex.2.2 j else if j = p2 then b else ex.2.2 (j - 1))
        unfold insN
        by_cases zj : j < p2
        · rw [if_pos zj, if_pos zj, if_pos zj, if_pos zj, if_pos zj]
          exact h3.2 j (by omega)
        · rw [if_neg zj, if_neg zj, if_neg zj, if_neg zj, if_neg zj]
          by_cases zj2 : j = p2
          · rw [if_pos zj2, if_pos zj2, if_pos zj2, if_pos zj2, if_pos zj2]
            exact ⟨rfl, rfl, rfl⟩
          · rw [if_neg zj2, if_neg zj2, if_neg zj2, if_neg zj2, if_neg zj2]
            exact h3.2 (j - 1) (by omega)
      refine MB hX hPX hT (fun s5 hM5 => ?_)
      dsimp only
      have e14' := hM5.2.2.2.1.1
      try simp only [awu 81 9, pe81, xs, i_load, i_loadR, i_inc, lg, lp, true_and, and_true, List.length_cons, List.length_nil, Nat.reduceAdd, Nat.reduceLeDiff, Nat.zero_le, Int.toNat_natCast, natLit, mK0, e14']
      exact hq s5 hM5
end HX
theorem o_example {b : Int} {st : St} (hb : ok01 b) (h : INV st) : OPr 3 82 [vi b] st := by
  obtain ⟨tp, a, ex, tn, D, F, M1, M2, M3, L, t, fa, hC, hM, hP⟩ := h
  refine opp rl1 rl1 ?_
  have hP0 := Pur_0 hP
  refine MS_v [vr 0, vi b, none] rfl rfl rfl rfl ?_
  try simp only [awu 3 0, pe3, xs, i_load, i_loadR, i_inc, lg, lp, true_and, and_true, List.length_cons, List.length_nil, Nat.reduceAdd, Nat.reduceLeDiff, Nat.zero_le, Int.toNat_natCast, natLit, cK0]
  refine CT hC hP (fun hC => ?_)
  dsimp only
  cases ew : wo tp.2 a tp.1 with
  | none =>
    try simp only [awu 3 0, awu 3 1, awu 3 3, pe3, xs, i_load, i_loadR, i_inc, lg, lp, true_and, and_true, List.length_cons, List.length_nil, Nat.reduceAdd, Nat.reduceLeDiff, Nat.zero_le, Int.toNat_natCast, natLit, cK0, woN]
    refine ⟨fun h => absurd trivial h, fun _ => ?_⟩
    refine ⟨_, (0, tp.2), a, ex, tn, D, F, M1, M2, M3, L, t, fa, rfl, hC, hP0, fun s hs => ?_⟩
    have hM := Min_s hM hs
    refine MS_v [vr 99, vi b] rfl rfl rfl rfl ?_
    try simp only [awu 82 0, pe82, xs, i_load, i_loadR, i_inc, lg, lp, true_and, and_true, List.length_cons, List.length_nil, Nat.reduceAdd, Nat.reduceLeDiff, Nat.zero_le, Int.toNat_natCast, natLit, mK0]
    refine MTp hM hP (fun w s2 ew' => by rw [ew] at ew'; cases ew') (fun s2 _ hM => ?_)
    dsimp only
    try simp only [awu 82 2, awu 82 3, pe82, xs, i_load, i_loadR, i_inc, lg, lp, true_and, and_true, List.length_cons, List.length_nil, Nat.reduceAdd, Nat.reduceLeDiff, Nat.zero_le, Int.toNat_natCast, natLit, mK0]
    exact ⟨fun _ => hM, fun h => absurd trivial h⟩
  | some w =>
    have hw := wo_ok hP.2.1.2 ew
    try simp only [awu 3 0, awu 3 2, pe3, xs, i_load, i_loadR, i_inc, lg, lp, true_and, and_true, List.length_cons, List.length_nil, Nat.reduceAdd, Nat.reduceLeDiff, Nat.zero_le, Int.toNat_natCast, natLit, cK0, woS]
    refine ⟨fun _ => ?_, fun h => by omega⟩
    refine sp_addE hC hP0 hw hb (fun r s1 ex' tn' D' F' hA hC => ?_)
    dsimp only
    try simp only [awu 3 2, awu 3 3, pe3, xs, i_load, i_loadR, i_inc, lg, lp, true_and, and_true, List.length_cons, List.length_nil, Nat.reduceAdd, Nat.reduceLeDiff, Nat.zero_le, Int.toNat_natCast, natLit, cK0]
    refine ⟨_, (0, tp.2), a, ex', tn', D', F', M1, M2, M3, L, t, fa, rfl, hC, AE_P hP0 hA, fun s hs => ?_⟩
    have hM := Min_s hM hs
    refine MS_v [vr 99, vi b] rfl rfl rfl rfl ?_
    try simp only [awu 82 0, pe82, xs, i_load, i_loadR, i_inc, lg, lp, true_and, and_true, List.length_cons, List.length_nil, Nat.reduceAdd, Nat.reduceLeDiff, Nat.zero_le, Int.toNat_natCast, natLit, mK0]
    refine MTp hM hP (fun w' s2 ew' e3 e4 hM => ?_) (fun s2 ew' => by rw [ew] at ew'; cases ew')
    rw [ew] at ew'
    cases ew'
    dsimp only
    try simp only [awu 82 1, pe82, xs, i_load, i_loadR, i_inc, lg, lp, true_and, and_true, List.length_cons, List.length_nil, Nat.reduceAdd, Nat.reduceLeDiff, Nat.zero_le, Int.toNat_natCast, natLit, mK0, e3, e4]
    refine ⟨fun h => absurd h (by decide), fun _ => ?_⟩
    refine sp_exNow hM hP0 hw hb hA (fun s3 hM => ?_)
    dsimp only
    try simp only [awu 82 1, awu 82 3, pe82, xs, i_load, i_loadR, i_inc, lg, lp, true_and, and_true, List.length_cons, List.length_nil, Nat.reduceAdd, Nat.reduceLeDiff, Nat.zero_le, Int.toNat_natCast, natLit, mK0]
    exact hM
