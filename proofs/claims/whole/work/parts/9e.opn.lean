/-! calls on both: a node, the least machine, a text -/
def paX (tn : TN) (k : Nat) : Int := if k = 0 then -1 else noX tn (bg (tn.2 k) (wl (tn.2 k) - 1))
theorem TP_X {tn : TN} {pa : Nat → Int} (hs : Srt tn.2 tn.1) (h : TP tn.2 tn.1 pa) {k : Nat} (hk : k < tn.1) : pa k = paX tn k := by
  unfold paX
  by_cases z : k = 0
  · rw [if_pos z, z]
    exact h.1
  · rw [if_neg z]
    obtain ⟨b, b1, b2, b3⟩ := h.2 k (by omega) hk
    rw [b2]
    exact noX_F hs ⟨fun i hi e => by rw [Srt_inj hs hi (by omega) (e.trans b3.symm)], fun hno => absurd b3 (hno b (by omega))⟩
theorem o_node {x y : Int} {st : St} (h : INV st) : OPr 10 89 [vi x, vi y] st := by
  obtain ⟨tp, a, ex, tn, D, F, M1, M2, M3, L, t, fa, hC, hM, hP⟩ := h
  refine opp rl2 rl2 ?_
  have k04 : kl 104 = 50 := rfl
  have l04 : len 104 = 161 := rfl
  have k05 : kl 105 = 50 := rfl
  have l05 : len 105 = 161 := rfl
  have k06 : kl 106 = 50 := rfl
  have l06 : len 106 = 161 := rfl
  have k07 : kl 107 = 50 := rfl
  have l07 : len 107 = 161 := rfl
  have k11 : kl 111 = 52 := rfl
  have l11 : len 111 = 161 := rfl
  have k8 : kl 8 = 9 := rfl
  have k9 : kl 9 = 50 := rfl
  have l9 : len 9 = 120 := rfl
  have k10 : kl 10 = 50 := rfl
  have l10 : len 10 = 120 := rfl
  have k1b : kl 11 = 50 := rfl
  have l1b : len 11 = 120 := rfl
  have k13 : kl 13 = 1 := rfl
  have hn := hP.2.2.2.1.1
  have w14 : wr ((tn.1 : Int) - 1) = (tn.1 : Int) - 1 := wr_id (by omega) (by omega)
  have hsr := hP.2.2.2.1.2.1.1
  have hinj : ∀ i j, i < ex.1 → j < ex.1 → ex.2.1 i = ex.2.1 j → i = j := fun i j hi hj e => Srt_inj hP.2.2.1.2.2 hi hj e
  refine MS_v [vr 0, vi x, vi y] rfl rfl rfl rfl ?_
  try simp only [awu 10 0, pe10, xs, i_load, i_loadR, i_inc, lg, lp, true_and, and_true, List.length_cons, List.length_nil, Nat.reduceAdd, Nat.reduceLeDiff, Nat.zero_le, Int.toNat_natCast, natLit, cK0, Nat.zero_add]
  refine sp_thas isTr_8 hC.2.2.2.1.1 hn ?_
  dsimp only
  by_cases z : 0 ≤ x ∧ x < (tn.1 : Int)
  · rw [if_pos z]
    obtain ⟨k, rfl⟩ : ∃ k : Nat, x = k := ⟨x.toNat, by omega⟩
    have hk : k < tn.1 := by omega
    have hwf := (hP.2.2.2.1.2.1.2.2.2 k hk).1
    have mo : ∀ (r : Int) (s1 : St), Cin s1 tp a ex tn D F M1 M2 M3 L t fa → (y = 0 → r = mkX ex (tn.2 k)) → (y = 1 → r = paX tn k) → (y = 2 → r = if k = 0 then -1 else ((tn.2 k % 4 : Nat) : Int)) → (y = 3 → r = (wl (tn.2 k) : Nat)) → (y = 4 → r = (rt F.1 k : Nat)) → (y = 5 → r = clr F tn.1 k) → (¬ (0 ≤ y ∧ y ≤ 5) → r = -2) → QC st 89 [vi k, vi y] (vi r) s1 := by
      intro r s1 hC r0 r1 r2 r3 r4 r5 r6
      refine ⟨_, tp, a, ex, tn, D, F, M1, M2, M3, L, t, fa, rfl, hC, hP, fun s hs' => ?_⟩
      have hM := Min_s hM hs'
      obtain ⟨g1, g2, g3, g4, g6, g7, g8⟩ := id hM.2.2.2.2.1
      obtain ⟨e14, ef, eM, eP, eC⟩ := hM.2.2.2.1
      obtain ⟨f1, f2⟩ := ef k hk
      have f3 := mkX_M hinj eM k hk
      have f4 := TP_X hsr eP hk
      have hrt := rt_le (u := F.1) k
      have f5 := (g1.2.2.1 (rt F.1 k) (by omega)).2.2
      have hroot := rt_root g2.1 k hk
      have h01 := g2.2.2.1 (rt F.1 k) (by omega)
      refine MS_v [vr 99, vi k, vi y, none] rfl rfl rfl rfl ?_
      try simp only [awu 89 0, pe89, xs, i_load, i_loadR, i_inc, lg, lp, true_and, and_true, List.length_cons, List.length_nil, Nat.reduceAdd, Nat.reduceLeDiff, Nat.zero_le, Int.toNat_natCast, natLit, mK0, e14, w14]
      refine sp_isIn ?_
      dsimp only
      rw [if_pos (by omega)]
      try simp only [awu 89 2, pe89, xs, i_load, i_loadR, i_inc, lg, lp, true_and, and_true, List.length_cons, List.length_nil, Nat.reduceAdd, Nat.reduceLeDiff, Nat.zero_le, Int.toNat_natCast, natLit, mK0]
      refine ⟨fun _ => ?_, fun h => absurd h (by decide)⟩
      refine sp_mnof hn g1 g2 hk ?_
      dsimp only
      try simp only [awu 89 2, awu 89 3, awu 89 4, awu 89 5, awu 89 6, awu 89 7, awu 89 8, awu 89 9, awu 89 10, awu 89 11, awu 89 12, awu 89 16, awu 89 17, pe89, xs, i_load, i_loadR, i_inc, lg, lp, true_and, and_true, List.length_cons, List.length_nil, Nat.reduceAdd, Nat.reduceLeDiff, Nat.zero_le, Int.toNat_natCast, natLit, t_sw, mK0, k04, l04, k05, l05, k06, l06, k07, l07, k11, l11, f1, f2, f3, f4, f5, wc3]
      refine ⟨fun h => ⟨by omega, by rw [r0 h], hM⟩, fun h0 => ⟨fun h => ⟨by omega, by rw [r1 h], hM⟩, fun h1 => ⟨fun h => ⟨fun h' => ⟨by omega, ?_, hM⟩, fun h' => ⟨?_, hM⟩⟩, fun h2 => ⟨fun h => ⟨by omega, by rw [r3 h], hM⟩, fun h3 => ⟨fun h => ⟨by rw [r4 h], hM⟩, fun h4 => ⟨fun h => ⟨by omega, fun h' => ?_, fun h' => ⟨?_, hM⟩⟩, fun h5 => ⟨by rw [r6 (by omega)], hM⟩⟩⟩⟩⟩⟩⟩
      · rw [r2 h, if_neg (by omega)]
      · rw [r2 h, if_pos (by omega)]
      · try simp only [awu 89 13, pe89, xs, i_load, i_loadR, i_inc, lg, lp, true_and, and_true, List.length_cons, List.length_nil, Nat.reduceAdd, Nat.reduceLeDiff, Nat.zero_le, Int.toNat_natCast, natLit, mK0]
        refine sp_mblue hn hP.2.1.2 g1 g2 g3 (by omega) ?_
        dsimp only
        have hrd : rdB F (rt F.1 k) = false := by
          unfold rdB
          rw [h']
          simp
        have r5 := r5 h
        unfold clr at r5
        rw [hrd, if_neg (by decide)] at r5
        by_cases zb : blB F tn.1 (rt F.1 k) = true
        · rw [if_pos zb]
          rw [if_pos zb] at r5
          try simp only [awu 89 14, awu 89 16, pe89, xs, i_load, i_loadR, i_inc, lg, lp, true_and, and_true, List.length_cons, List.length_nil, Nat.reduceAdd, Nat.reduceLeDiff, Nat.zero_le, Int.toNat_natCast, natLit, mK0]
          exact ⟨fun h => absurd h (by decide), fun _ => ⟨by rw [r5], hM⟩⟩
        · rw [if_neg zb]
          rw [if_neg zb] at r5
          try simp only [awu 89 15, awu 89 16, pe89, xs, i_load, i_loadR, i_inc, lg, lp, true_and, and_true, List.length_cons, List.length_nil, Nat.reduceAdd, Nat.reduceLeDiff, Nat.zero_le, Int.toNat_natCast, natLit, mK0]
          exact ⟨fun _ => ⟨by rw [r5], hM⟩, fun h => absurd trivial h⟩
      · have e1 : F.2.2.1 (rt F.1 k) = 1 := by
          rcases h01 with h01 | h01
          · exact absurd h01 h'
          · exact h01
        have hrd : rdB F (rt F.1 k) = true := by
          unfold rdB
          rw [e1, hroot]
          simp
        rw [r5 h]
        unfold clr
        rw [if_pos hrd]
    obtain ⟨e4, ef, eM, eP, eC⟩ := hC.2.2.2.1
    have f1 := ef k hk
    have f3 := mkX_M hinj eM k hk
    have f4 := TP_X hsr eP hk
    try simp only [awu 10 2, awu 10 3, awu 10 4, awu 10 5, awu 10 6, awu 10 7, awu 10 9, awu 10 10, awu 10 11, awu 10 12, awu 10 8, pe10, xs, i_load, i_loadR, i_inc, lg, lp, true_and, and_true, List.length_cons, List.length_nil, Nat.reduceAdd, Nat.reduceLeDiff, Nat.zero_le, Int.toNat_natCast, natLit, t_sw, cK0, k8, k9, l9, k10, l10, k1b, l1b, k13, f1, f3, f4, Nat.zero_add, Nat.reduceAdd]
    refine ⟨fun _ => ⟨fun h => ⟨by omega, ?_⟩, fun h0 => ⟨fun h => ⟨by omega, ?_⟩, fun h1 => ⟨fun h => ⟨fun h' => ⟨by omega, ?_⟩, fun h' => ?_⟩, fun h2 => ⟨fun h => ⟨by omega, ?_⟩, fun h3 => ⟨fun h => ?_, fun h4 => ⟨fun h => ?_, fun h5 => ?_⟩⟩⟩⟩⟩⟩, fun h => absurd h (by decide)⟩
    · exact mo _ st hC (fun _ => rfl) (fun _ => by omega) (fun _ => by omega) (fun _ => by omega) (fun _ => by omega) (fun _ => by omega) (fun _ => by omega)
    · exact mo _ st hC (fun _ => by omega) (fun _ => rfl) (fun _ => by omega) (fun _ => by omega) (fun _ => by omega) (fun _ => by omega) (fun _ => by omega)
    · refine sp_last (by have := wf_lt hwf; omega) ?_
      dsimp only
      try simp only [awu 10 8, pe10, xs, i_load, i_loadR, i_inc, lg, lp, true_and, and_true, List.length_cons, List.length_nil, Nat.reduceAdd, Nat.reduceLeDiff, Nat.zero_le, Int.toNat_natCast, natLit, cK0]
      exact mo _ st hC (fun _ => by omega) (fun _ => by omega) (fun _ => by rw [if_neg (by omega)]) (fun _ => by omega) (fun _ => by omega) (fun _ => by omega) (fun _ => by omega)
    · exact mo _ st hC (fun _ => by omega) (fun _ => by omega) (fun _ => by rw [if_pos (by omega)]) (fun _ => by omega) (fun _ => by omega) (fun _ => by omega) (fun _ => by omega)
    · refine sp_len (by have := wf_lt hwf; omega) ?_
      dsimp only
      try simp only [awu 10 9, pe10, xs, i_load, i_loadR, i_inc, lg, lp, true_and, and_true, List.length_cons, List.length_nil, Nat.reduceAdd, Nat.reduceLeDiff, Nat.zero_le, Int.toNat_natCast, natLit, cK0]
      exact mo _ st hC (fun _ => by omega) (fun _ => by omega) (fun _ => by omega) (fun _ => rfl) (fun _ => by omega) (fun _ => by omega) (fun _ => by omega)
    · refine sp_fnof isFd_14 hn hC.2.2.2.2.1.1 hC.2.2.2.2.1.2.1 hk ?_
      dsimp only
      try simp only [awu 10 10, pe10, xs, i_load, i_loadR, i_inc, lg, lp, true_and, and_true, List.length_cons, List.length_nil, Nat.reduceAdd, Nat.reduceLeDiff, Nat.zero_le, Int.toNat_natCast, natLit, cK0]
      exact mo _ st hC (fun _ => by omega) (fun _ => by omega) (fun _ => by omega) (fun _ => by omega) (fun _ => rfl) (fun _ => by omega) (fun _ => by omega)
    · refine sp_colour isLn_13 hn hC.2.2.2.2.1.1 hC.2.2.2.2.1.2.1 hk (fun s1 y3 => ?_)
      dsimp only
      have hC := Cin_congr (st' := s1) hC (fun q i hr => y3 q i (by unfold rC at hr; omega) (by unfold rC at hr; omega) (by unfold rC at hr; omega) (by unfold rC at hr; omega))
      try simp only [awu 10 11, pe10, xs, i_load, i_loadR, i_inc, lg, lp, true_and, and_true, List.length_cons, List.length_nil, Nat.reduceAdd, Nat.reduceLeDiff, Nat.zero_le, Int.toNat_natCast, natLit, cK0]
      exact mo _ s1 hC (fun _ => by omega) (fun _ => by omega) (fun _ => by omega) (fun _ => by omega) (fun _ => by omega) (fun _ => rfl) (fun _ => by omega)
    · exact mo _ st hC (fun _ => by omega) (fun _ => by omega) (fun _ => by omega) (fun _ => by omega) (fun _ => by omega) (fun _ => by omega) (fun _ => rfl)
  · rw [if_neg z]
    try simp only [awu 10 1, pe10, xs, i_load, i_loadR, i_inc, lg, lp, true_and, and_true, List.length_cons, List.length_nil, Nat.reduceAdd, Nat.reduceLeDiff, Nat.zero_le, Int.toNat_natCast, natLit, cK0]
    refine ⟨fun h => absurd trivial h, fun _ => ?_⟩
    refine ⟨_, tp, a, ex, tn, D, F, M1, M2, M3, L, t, fa, rfl, hC, hP, fun s hs => ?_⟩
    have hM := Min_s hM hs
    have e14 := hM.2.2.2.1.1
    refine MS_v [vr 99, vi x, vi y, none] rfl rfl rfl rfl ?_
    try simp only [awu 89 0, pe89, xs, i_load, i_loadR, i_inc, lg, lp, true_and, and_true, List.length_cons, List.length_nil, Nat.reduceAdd, Nat.reduceLeDiff, Nat.zero_le, Int.toNat_natCast, natLit, mK0, e14, w14]
    refine sp_isIn ?_
    dsimp only
    rw [if_neg (by omega)]
    try simp only [awu 89 1, pe89, xs, i_load, i_loadR, i_inc, lg, lp, true_and, and_true, List.length_cons, List.length_nil, Nat.reduceAdd, Nat.reduceLeDiff, Nat.zero_le, Int.toNat_natCast, natLit, mK0]
    exact ⟨fun h => absurd trivial h, fun _ => hM⟩
def tdX (ex : TE) (tn : TN) : TD := (fun k => (paX tn k).toNat, fun k => tn.2 k % 4, fun k => (mkX ex (tn.2 k)).toNat)
theorem tdX_o {a : Nat} {ex : TE} {tn : TN} {pa : Nat → Int} (hs : Srt tn.2 tn.1) (h : TP tn.2 tn.1 pa) : PrO (tdX ex tn) tn.1 ∧ ∀ k, 0 < k → k < tn.1 → pa k = ((tdX ex tn).1 k : Nat) := by
  have key : ∀ k, 0 < k → k < tn.1 → (tdX ex tn).1 k < k ∧ pa k = ((tdX ex tn).1 k : Nat) := by
    intro k h0 hk
    obtain ⟨b, b1, b2, b3⟩ := h.2 k h0 hk
    have e := TP_X hs h hk
    show (paX tn k).toNat < k ∧ pa k = (((paX tn k).toNat : Nat) : Int)
    rw [← e, b2, Int.toNat_natCast]
    exact ⟨b1, rfl⟩
  exact ⟨fun k h0 hk => ⟨(key k h0 hk).1, Nat.mod_lt _ (by decide)⟩, fun k h0 hk => (key k h0 hk).2⟩
theorem mkX_n (ex : TE) (w : Nat) : mkX ex w = (((mkX ex w).toNat : Nat) : Int) ∧ (mkX ex w).toNat ≤ 2 := by
  have := mkX_b ex w
  omega
theorem srn_b {t : TD} {n mo : Nat} : ∀ (f k c tr : Nat) (pt : Nat → Nat), tr ≤ 50000 → (srn t n mo f k c tr pt).2.1 ≤ 50000 := by
  intro f
  induction f with
  | zero => intro k c tr pt h; exact h
  | succ f ih =>
    intro k c tr pt h
    rw [srn_s]
    split
    · exact h
    · split
      · split
        · exact h
        · exact ih _ _ _ _ h
      · split
        · exact h
        · split
          · exact ih _ _ _ _ (by omega)
          · exact ih _ _ _ _ (by omega)
theorem lsr_b {t : TD} {n : Nat} : ∀ (r mo tr : Nat), tr ≤ 50000 → (lsr t n r mo tr).2.1 ≤ 50000 := by
  intro r
  induction r with
  | zero => intro mo tr h; exact h
  | succ r ih =>
    intro mo tr h
    rw [lsr_s]
    split
    · exact ih _ _ (srn_b _ _ _ _ _ h)
    · exact srn_b _ _ _ _ _ h
section HU
variable {st : St} {tp : Nat × (Nat → Int)} {a : Nat} {ex : TE} {tn : TN} {D : List Dd} {F : FS} {M1 M2 M3 : MC} {L : List Nat} {t : Nat} {fa : Int}
theorem tdC (h : Cin st tp a ex tn D F M1 M2 M3 L t fa) (p : Pur tp a ex tn D F M1 M2 M3 L t) : TDc st (tdX ex tn) tn.1 tn.2 := by
  obtain ⟨e4, ef, eM, eP, eC⟩ := h.2.2.2.1
  have hs := p.2.2.2.1.2.1.1
  obtain ⟨o1, o2⟩ := tdX_o (a := a) (ex := ex) hs eP
  refine ⟨⟨e4, p.2.2.2.1.1, p.2.2.2.1.2.1.2.1⟩, fun k hk => ⟨ef k hk, ?_, rfl⟩, fun k hk => ?_, eP.1, o2, o1, fun i => (mkX_n ex _).2⟩
  · have := wf_lt (p.2.2.2.1.2.1.2.2.2 k hk).1
    omega
  · rw [mkX_M (fun i j hi hj e => Srt_inj p.2.2.1.2.2 hi hj e) eM k hk]
    exact (mkX_n ex _).1
theorem tdM (h : Min st tp a ex tn D F M1 M2 M3 L t fa) (p : Pur tp a ex tn D F M1 M2 M3 L t) : TDm st (tdX ex tn) tn.1 tn.2 := by
  obtain ⟨e4, ef, eM, eP, eC⟩ := h.2.2.2.1
  have hs := p.2.2.2.1.2.1.1
  obtain ⟨o1, o2⟩ := tdX_o (a := a) (ex := ex) hs eP
  refine ⟨⟨e4, p.2.2.2.1.1, p.2.2.2.1.2.1.2.1⟩, fun k hk => ⟨(ef k hk).2, rfl⟩, fun k hk => ?_, o2, o1, fun i => (mkX_n ex _).2⟩
  rw [mkX_M (fun i j hi hj e => Srt_inj p.2.2.1.2.2 hi hj e) eM k hk]
  exact (mkX_n ex _).1
end HU
