/-! set aside and brought back: the reference -/
def AS (st : St) (D : List Dd) : Prop := st 99 64 = (D.length : Nat) ∧ DA (st 145) D
def TrM (st : St) (ex : TE) (tn : TN) : Prop := st 99 14 = (tn.1 : Nat) ∧ (∀ k, k < tn.1 → st 104 k = (wl (tn.2 k) : Nat) ∧ st 105 k = (wc (tn.2 k) : Nat)) ∧ TM tn.2 tn.1 (st 106) (Exx ex) ∧ TP tn.2 tn.1 (st 107) ∧ TC tn.2 tn.1 (st 108)
theorem AS_congr {st st' : St} {D : List Dd} (h : AS st D) (e1 : st' 99 64 = st 99 64) (e2 : ∀ i, st' 145 i = st 145 i) : AS st' D := ⟨by rw [e1]; exact h.1, DA_congr h.2 (fun i _ => e2 i)⟩
theorem sp_putAside {d : Nat} {st : St} {D : List Dd} {Q : Rn} (hA : DA (st 118) D) (hc : st 99 29 = (D.length : Nat)) (hD : D.length ≤ 200)
    (hq : ∀ s' : St, AS s' D → (∀ q i, ¬ (q = 99 ∧ i = 64) → q ≠ 145 → s' q i = st q i) → Q none s') : MS (d + 1) 152 [vr 99] st Q := by
  have k18 : kl 118 = 50 := rfl
  have l18 : len 118 = 800 := rfl
  have k45 : kl 145 = 50 := rfl
  have l45 : len 145 = 800 := rfl
  have key : ∀ m i : Nat, ∀ s2 : St, i + m = 4 * D.length → (∀ q j, ¬ (q = 99 ∧ j = 64) → q ≠ 145 → s2 q j = st q j) → s2 99 64 = (D.length : Nat) → (∀ j, j < i → s2 145 j = st 118 j) → AW (P 152) Q (MS d) 0 (fun _ => 0) 1 [vr 99, vi i] [] s2 := by
    intro m
    induction m with
    | zero =>
      intro i s2 hi g1 g2 g3
      have e29 : s2 99 29 = (D.length : Nat) := by rw [g1 99 29 (by omega) (by omega)]; exact hc
      have w1 : Unit → wr (4 * ((D.length : Nat) : Int)) = ((4 * D.length : Nat) : Int) := fun _ => by rw [wr_id (by omega) (by omega)]; omega
      rw [awu 152 1]
      try simp only [awu 152 3, pe152, xs, i_load, i_loadR, i_inc, lg, lp, true_and, and_true, List.length_cons, List.length_nil, Nat.reduceAdd, Nat.reduceLeDiff, Nat.zero_le, Int.toNat_natCast, natLit, mK0, e29, w1 ()]
      refine ⟨fun _ => hq s2 ⟨g2, DA_congr hA (fun j hj => g3 j (by omega))⟩ g1, fun h => by omega⟩
    | succ m ih =>
      intro i s2 hi g1 g2 g3
      have e29 : s2 99 29 = (D.length : Nat) := by rw [g1 99 29 (by omega) (by omega)]; exact hc
      have e18 : s2 118 i = st 118 i := g1 118 i (by omega) (by omega)
      have w1 : Unit → wr (4 * ((D.length : Nat) : Int)) = ((4 * D.length : Nat) : Int) := fun _ => by rw [wr_id (by omega) (by omega)]; omega
      rw [awu 152 1]
      try simp only [awu 152 2, pe152, xs, i_load, i_loadR, i_inc, lg, lp, true_and, and_true, List.length_cons, List.length_nil, Nat.reduceAdd, Nat.reduceLeDiff, Nat.zero_le, Int.toNat_natCast, natLit, mK0, e29, w1 (), k18, l18, k45, l45, e18]
      refine ⟨fun h => by omega, fun _ => ⟨by omega, by omega, ?_⟩⟩
      rw [wr_id (by omega) (by omega)]
      refine ih (i + 1) _ (by omega) (fun q j a1 a2 => ?_) ?_ (fun j hj => ?_)
      · rw [up2_ne a2]
        exact g1 q j a1 a2
      · rw [up2_ne (by decide)]
        exact g2
      · rw [up2_self]
        by_cases zj : j = i
        · subst zj
          rw [upf_s]
        · rw [upf_n zj]
          exact g3 j (by omega)
  refine MS_v [vr 99, none] rfl rfl rfl rfl ?_
  try simp only [awu 152 0, pe152, xs, i_load, i_loadR, i_inc, lg, lp, true_and, and_true, List.length_cons, List.length_nil, Nat.reduceAdd, Nat.reduceLeDiff, Nat.zero_le, Int.toNat_natCast, natLit, mK0, hc]
  refine key (4 * D.length) 0 _ (by omega) (fun q j a1 a2 => ?_) ?_ (fun j hj => by omega)
  · by_cases zq : q = 99
    · subst zq
      rw [up2_self, upf_n (by omega)]
    · rw [up2_ne zq]
  · rw [up2_self, upf_s]
section HY
variable {st : St} {tp : Nat × (Nat → Int)} {a : Nat} {ex : TE} {tn : TN} {D : List Dd} {F : FS} {M1 M2 M3 : MC} {L : List Nat} {t : Nat} {fa : Int}
theorem XM_c2 {st' : St} (h : XM st tp a ex M1 M2 M3 L t fa) (e : ∀ q i, (q = 99 ∧ (i = 1 ∨ i = 2 ∨ i = 8 ∨ i = 40 ∨ i = 42 ∨ i = 62)) ∨ (100 ≤ q ∧ q ≤ 103) ∨ (119 ≤ q ∧ q ≤ 121) ∨ q = 144 → st' q i = st q i) : XM st' tp a ex M1 M2 M3 L t fa := by
  obtain ⟨⟨h1, h1'⟩, h2, ⟨h3, h3'⟩, ⟨h9, h10, h11⟩, ⟨h12, h12'⟩, h13, h14⟩ := h
  exact ⟨⟨by rw [e 99 1 (by omega)]; exact h1, fun i hi => by rw [e 100 i (by omega)]; exact h1' i hi⟩, by rw [e 99 2 (by omega)]; exact h2, ⟨by rw [e 99 8 (by omega)]; exact h3, fun i hi => by rw [e 101 i (by omega), e 102 i (by omega), e 103 i (by omega)]; exact h3' i hi⟩, ⟨MCm_congr h9 (e _ _ (by omega)) (fun i a b => e _ _ (by omega)) (fun i a b => e _ _ (by omega)), MCm_congr h10 (e _ _ (by omega)) (fun i a b => e _ _ (by omega)) (fun i a b => e _ _ (by omega)), MCm_congr h11 (e _ _ (by omega)) (fun i a b => e _ _ (by omega)) (fun i a b => e _ _ (by omega))⟩, ⟨by rw [e 99 62 (by omega)]; exact h12, fun i hi => by rw [e 144 i (by omega)]; exact h12' i hi⟩, by rw [e 99 40 (by omega)]; exact h13, by rw [e 99 42 (by omega)]; exact h14⟩
theorem MB0 {d : Nat} {Q : Rn} (h : XM st tp a ex M1 M2 M3 L t fa) (p : PX a ex) (hT : TNo a ex tn) (hq : ∀ s' : St, XM s' tp a ex M1 M2 M3 L t fa → TrM s' ex tn → T0 tn.1 (cF0 ex tn) (s' 106) (s' 108) → FrT st s' → Q none s') : MS (d + 4) 59 [vr 99] st Q := by
  have e : ExR ex.2.1 (st 103) ex.1 (-1) = Exx ex := ExR_eq (fun i hi => (h.2.2.1.2 i hi).2.2)
  refine sp_layTree (XM_S h p) (by rw [e]; exact p.2.2.2) (fun s' f n y1 y2 y3 => ?_)
  rw [e] at y1
  obtain ⟨g1, g2, g3, g4, g5, g6, g7, g8⟩ := y1
  obtain ⟨en, ef⟩ := Srt_uniq hT.2.1.1 g4.1 (fun x => (hT.2.2.1 x).trans (g5 x).symm)
  subst en
  have tM := TM_f ef g6
  have tC := TC_f ef g8
  refine hq s' (XM_congr h (fun q i h1 h2 => y3 q i (by omega) h2)) ⟨g1, fun k hk => ?_, tM, TP_f ef g7, tC⟩ (cF0_T0 hT.2.1.1 (fun i j hi hj e => Srt_inj p.2.1.2.2 hi hj e) tM tC) y3
  rw [ef k hk]
  exact g3 k hk
theorem MinX {s' : St} (h : XM s' tp a ex M1 M2 M3 L t fa) (hR : TrM s' ex tn) (hL : LM s' tn.1 a D F) : Min s' tp a ex tn D F M1 M2 M3 L t fa := ⟨h.1, h.2.1, h.2.2.1, hR, hL, h.2.2.2.1, h.2.2.2.2.1, h.2.2.2.2.2.1, h.2.2.2.2.2.2⟩
theorem TrM_congr {s' : St} (h : TrM st ex tn) (e1 : s' 99 14 = st 99 14) (e : ∀ q i, 104 ≤ q ∧ q ≤ 108 → s' q i = st q i) : TrM s' ex tn := by
  have f6 : s' 106 = st 106 := by funext i; exact e 106 i (by omega)
  have f7 : s' 107 = st 107 := by funext i; exact e 107 i (by omega)
  have f8 : s' 108 = st 108 := by funext i; exact e 108 i (by omega)
  obtain ⟨h1, h2, h3, h4, h5⟩ := h
  exact ⟨by rw [e1]; exact h1, fun k hk => by rw [e 104 k (by omega), e 105 k (by omega)]; exact h2 k hk, by rw [f6]; exact h3, by rw [f7]; exact h4, by rw [f8]; exact h5⟩
theorem sp_bringBack {d : Nat} {Q : Rn} (h : XM st tp a ex M1 M2 M3 L t fa) (p : PX a ex) (hT : TNo a ex tn) (hA : AS st D) (hR : Rp tn.1 (cF0 ex tn) D F) (hD : D.length ≤ 200)
    (hq : ∀ s' : St, Min s' tp a ex tn D F M1 M2 M3 L t fa → Q none s') : MS (d + 5) 153 [vr 99] st Q := by
  have k18 : kl 118 = 50 := rfl
  have l18 : len 118 = 800 := rfl
  have k45 : kl 145 = 50 := rfl
  have l45 : len 145 = 800 := rfl
  refine MS_v [vr 99, none] rfl rfl rfl rfl ?_
  try simp only [awu 153 0, pe153, xs, i_load, i_loadR, i_inc, lg, lp, true_and, and_true, List.length_cons, List.length_nil, Nat.reduceAdd, Nat.reduceLeDiff, Nat.zero_le, Int.toNat_natCast, natLit, mK0]
  refine MB0 h p hT (fun s1 hX hTr h0 f1 => ?_)
  dsimp only
  try simp only [awu 153 0, pe153, xs, i_load, i_loadR, i_inc, lg, lp, true_and, and_true, List.length_cons, List.length_nil, Nat.reduceAdd, Nat.reduceLeDiff, Nat.zero_le, Int.toNat_natCast, natLit, mK0]
  have hA1 : AS s1 D := AS_congr hA (f1 99 64 (by omega) (by omega)) (fun i => f1 145 i (by omega) (by omega))
  have w1 : Unit → wr (4 * ((D.length : Nat) : Int)) = ((4 * D.length : Nat) : Int) := fun _ => by rw [wr_id (by omega) (by omega)]; omega
  have key : ∀ m i : Nat, ∀ s2 : St, i + m = 4 * D.length → (∀ q j, q ≠ 118 → s2 q j = s1 q j) → (∀ j, j < i → s2 118 j = s1 145 j) → AW (P 153) Q (MS (d + 4)) 0 (fun _ => 0) 1 [vr 99, vi i] [] s2 := by
    intro m
    induction m with
    | zero =>
      intro i s2 hi g1 g2
      have e64 : s2 99 64 = (D.length : Nat) := by rw [g1 99 64 (by decide)]; exact hA1.1
      have f6 : s2 106 = s1 106 := by funext j; exact g1 106 j (by decide)
      have f8 : s2 108 = s1 108 := by funext j; exact g1 108 j (by decide)
      rw [awu 153 1]
      try simp only [awu 153 3, pe153, xs, i_load, i_loadR, i_inc, lg, lp, true_and, and_true, List.length_cons, List.length_nil, Nat.reduceAdd, Nat.reduceLeDiff, Nat.zero_le, Int.toNat_natCast, natLit, mK0, e64, w1 ()]
      refine ⟨fun _ => ?_, fun h => by omega⟩
      have hX2 := XM_c2 (st' := s2) hX (fun q j hj => g1 q j (by omega))
      refine sp_redo hT.1 p.1.2 (by rw [g1 99 14 (by decide)]; exact hTr.1) hX2.2.1 (by rw [f6, f8]; exact h0) cF0_FI (cF0_LA p.1.2 hT) hR (DA_congr hA1.2 (fun j hj => g2 j (by omega))) hD (fun s3 v1 v2 => ?_)
      dsimp only
      try simp only [awu 153 3, pe153, xs, i_load, i_loadR, i_inc, lg, lp, true_and, and_true, List.length_cons, List.length_nil, Nat.reduceAdd, Nat.reduceLeDiff, Nat.zero_le, Int.toNat_natCast, natLit, mK0]
      refine hq s3 (MinX ?_ ?_ v1)
      · exact XM_c2 hX2 (fun q j hj => v2 q j (by omega))
      · exact TrM_congr (TrM_congr hTr (g1 99 14 (by decide)) (fun q j hj => g1 q j (by omega))) (v2 99 14 (by omega)) (fun q j hj => v2 q j (by omega))
    | succ m ih =>
      intro i s2 hi g1 g2
      have e64 : s2 99 64 = (D.length : Nat) := by rw [g1 99 64 (by decide)]; exact hA1.1
      have e45 : s2 145 i = s1 145 i := g1 145 i (by decide)
      rw [awu 153 1]
      try simp only [awu 153 2, pe153, xs, i_load, i_loadR, i_inc, lg, lp, true_and, and_true, List.length_cons, List.length_nil, Nat.reduceAdd, Nat.reduceLeDiff, Nat.zero_le, Int.toNat_natCast, natLit, mK0, e64, w1 (), k18, l18, k45, l45, e45]
      refine ⟨fun h => by omega, fun _ => ⟨by omega, by omega, ?_⟩⟩
      rw [wr_id (by omega) (by omega)]
      refine ih (i + 1) _ (by omega) (fun q j a1 => ?_) (fun j hj => ?_)
      · rw [up2_ne a1]
        exact g1 q j a1
      · rw [up2_self]
        by_cases zj : j = i
        · subst zj
          rw [upf_s]
        · rw [upf_n zj]
          exact g2 j (by omega)
  exact key (4 * D.length) 0 s1 (by omega) (fun _ _ _ => rfl) (fun j hj => by omega)
end HY
