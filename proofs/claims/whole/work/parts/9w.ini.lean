/-! the start -/
theorem MBi {st : St} {tp : Nat × (Nat → Int)} {a : Nat} {ex : TE} {tn : TN} {M1 M2 M3 : MC} {L : List Nat} {t : Nat} {fa : Int} {d : Nat} {Q : Rn} (h : XM st tp a ex M1 M2 M3 L t fa) (h29 : st 99 29 = 0) (p : PX a ex) (hT : TNo a ex tn) (hq : ∀ s' : St, Min s' tp a ex tn [] (cF0 ex tn) M1 M2 M3 L t fa → Q none s') : MS (d + 4) 59 [vr 99] st Q := by
  have e : ExR ex.2.1 (st 103) ex.1 (-1) = Exx ex := ExR_eq (fun i hi => (h.2.2.1.2 i hi).2.2)
  refine sp_layTree (XM_S h p) (by rw [e]; exact p.2.2.2) (fun s' f n y1 y2 y3 => ?_)
  rw [e] at y1
  obtain ⟨g1, g2, g3, g4, g5, g6, g7, g8⟩ := y1
  obtain ⟨en, ef⟩ := Srt_uniq hT.2.1.1 g4.1 (fun x => (hT.2.2.1 x).trans (g5 x).symm)
  subst en
  have hh := hT.1
  refine hq _ ?_
  have hX := XM_congr (st' := s') h (fun q i h1 h2 => y3 q i (by omega) h2)
  obtain ⟨h1, h2, h3, h4, h5, h6, h7⟩ := hX
  have tM := TM_f ef g6
  have tC := TC_f ef g8
  have h0 : T0 tn.1 (cF0 ex tn) (s' 106) (s' 108) := cF0_T0 hT.2.1.1 (fun i j hi hj e => Srt_inj p.2.1.2.2 hi hj e) tM tC
  have hMR := MR_0 (st := st) (q := a) g1 h2 y2 h0
  have e29 : s' 99 29 = 0 := by rw [y3 99 29 (by omega) (by omega)]; exact h29
  exact ⟨h1, h2, h3, ⟨g1, fun k hk => by rw [ef k hk]; exact g3 k hk, tM, TP_f ef g7, tC⟩, ⟨hMR, cF0_FI, cF0_LA p.1.2 hT, ⟨0, y2.2.2.2, by rw [cR_T0 h0]; omega⟩, fun k hk => absurd hk (Nat.not_lt_zero _), e29, by decide⟩, h4, h5, h6, h7⟩
def ex0 : TE := (0, fun _ => 0, fun _ => 0)
def mc0 : MC := (0, fun _ => 0, fun _ => 0)
def tp0 : Nat × (Nat → Int) := (0, fun _ => 0)
theorem PX_i : PX 2 ex0 := PX_0 (ex := ex0) ⟨by decide, by decide⟩
def QI (st : St) : Prop := ∃ tn : TN, TNo 2 ex0 tn ∧ Cin st tp0 2 ex0 tn [] (cF0 ex0 tn) mc0 mc0 mc0 [] 0 (-1)
theorem CX_i : CX (stw (fun _ _ => 0) SC.2.2) tp0 2 ex0 mc0 mc0 mc0 [] 0 (-1) :=
  ⟨⟨rfl, fun i hi => absurd hi (Nat.not_lt_zero _)⟩, rfl, ⟨rfl, fun i hi => absurd hi (Nat.not_lt_zero _)⟩, ⟨MCc_0 (M := mc0) rfl, MCc_0 (M := mc0) rfl, MCc_0 (M := mc0) rfl⟩, ⟨rfl, fun i hi => absurd hi (Nat.not_lt_zero _)⟩, rfl, rfl⟩
theorem st_C : AW tCb (fun v st => v = none ∧ QI st) (MS 9) 0 (fun _ => 0) 0 [vr 0] [] (stw (fun _ _ => 0) SC.2.2) := by
  rw [AW.iff (MS_mono 9)]
  rw [show tCb 0 = tC from rfl]
  unfold tC
  generalize hS : stw (fun _ _ => 0) SC.2.2 = S
  have hX := CX_i
  rw [hS] at hX
  try simp only [xs, i_load, i_loadR, i_inc, lg, lp, true_and, and_true, List.length_cons, List.length_nil, Nat.reduceAdd, Nat.reduceLeDiff, Nat.zero_le, Int.toNat_natCast, natLit, cK0, Nat.zero_add]
  refine CB1 hX PX_i (fun s2 tn hX hT hR => ?_)
  dsimp only
  try simp only [xs, i_load, i_loadR, i_inc, lg, lp, true_and, and_true, List.length_cons, List.length_nil, Nat.reduceAdd, Nat.reduceLeDiff, Nat.zero_le, Int.toNat_natCast, natLit, cK0, Nat.zero_add]
  refine CB2 hX PX_i hT hR (fun s3 hC => ?_)
  dsimp only
  try simp only [xs, i_load, i_loadR, i_inc, lg, lp, true_and, and_true, List.length_cons, List.length_nil, Nat.reduceAdd, Nat.reduceLeDiff, Nat.zero_le, Int.toNat_natCast, natLit, cK0, Nat.zero_add]
  exact ⟨tn, hT, hC⟩
theorem st_M (st : St) (h : QI st) : AW tMb (fun v st' => v = none ∧ INV st') (MS 9) 0 (fun _ => 0) 0 [vr 99] [] (stw (zOf st) SMm.2.2) := by
  obtain ⟨tn, hT, hC⟩ := h
  generalize hS : stw (zOf st) SMm.2.2 = S
  have s1 : ∀ q, q < 99 → S q = st q := fun q hq => by
    rw [← hS]
    show up2 (up2 (zOf st) 99 2 2) 99 42 (-1) q = st q
    rw [up2_ne (by omega), up2_ne (by omega)]
    funext i
    unfold zOf
    rw [if_pos hq]
  have s2 : ∀ q i, 99 ≤ q → ¬ (q = 99 ∧ (i = 2 ∨ i = 42)) → S q i = 0 := fun q i hq hx => by
    rw [← hS]
    show up2 (up2 (zOf st) 99 2 2) 99 42 (-1) q i = 0
    by_cases zq : q = 99
    · subst zq
      rw [up2_self, upf_n (by omega), up2_self, upf_n (by omega)]
      rfl
    · rw [up2_ne zq, up2_ne zq]
      unfold zOf
      rw [if_neg (by omega)]
  have s3 : S 99 2 = 2 := by
    rw [← hS]
    rfl
  have s4 : S 99 42 = -1 := by
    rw [← hS]
    rfl
  have hX : XM S tp0 2 ex0 mc0 mc0 mc0 [] 0 (-1) := ⟨⟨s2 99 1 (by omega) (by omega), fun i hi => absurd hi (Nat.not_lt_zero _)⟩, s3, ⟨s2 99 8 (by omega) (by omega), fun i hi => absurd hi (Nat.not_lt_zero _)⟩, ⟨MCm_0 (M := mc0) (s2 119 1 (by omega) (by omega)), MCm_0 (M := mc0) (s2 119 2 (by omega) (by omega)), MCm_0 (M := mc0) (s2 119 3 (by omega) (by omega))⟩, ⟨s2 99 62 (by omega) (by omega), fun i hi => absurd hi (Nat.not_lt_zero _)⟩, s2 99 40 (by omega) (by omega), s4⟩
  have hm : MS 9 59 [vr 99] S (fun v s' => v = none ∧ Min s' tp0 2 ex0 tn [] (cF0 ex0 tn) mc0 mc0 mc0 [] 0 (-1)) := MBi hX (s2 99 29 (by omega) (by omega)) PX_i hT (fun s' h => ⟨rfl, h⟩)
  have hm := MS_fr Gc_M 9 59 _ S _ hm (RL_cons (show gM 99 by unfold gM; omega) rl0)
  rw [AW.iff (MS_mono 9)]
  rw [show tMb 0 = tM from rfl]
  unfold tM
  try simp only [xs, i_load, i_loadR, i_inc, lg, lp, true_and, and_true, List.length_cons, List.length_nil, Nat.reduceAdd, Nat.reduceLeDiff, Nat.zero_le, Int.toNat_natCast, natLit, mK0]
  refine MS_cons hm (fun v s' hv => ?_)
  obtain ⟨⟨rfl, hM⟩, -, hA⟩ := hv
  dsimp only
  try simp only [xs, i_load, i_loadR, i_inc, lg, lp, true_and, and_true, List.length_cons, List.length_nil, Nat.reduceAdd, Nat.reduceLeDiff, Nat.zero_le, Int.toNat_natCast, natLit, mK0]
  refine ⟨tp0, 2, ex0, tn, [], cF0 ex0 tn, mc0, mc0, mc0, [], 0, -1, Cin_congr hC (fun q i hr => ?_), hM, ?_⟩
  · have hq : q < 99 := by
      unfold rC at hr
      omega
    rw [hA q (by unfold gM; omega), s1 q hq]
  · exact ⟨⟨Nat.zero_le _, fun i hi => absurd hi (Nat.not_lt_zero _)⟩, ⟨by decide, by decide⟩, PX_i.2.1, hT, rfl, ⟨MW_0 (M := mc0), MW_0 (M := mc0), MW_0 (M := mc0)⟩, ⟨Nat.zero_le _, Nat.zero_le _, Nat.zero_le _, Or.inl (Nat.zero_le _)⟩, Nat.zero_le _, Nat.zero_le _⟩
theorem st_L {n : Nat} {sx : Nat → Int} (hs : ∀ j, InR (sx j)) (hn : n ≤ 3072) (st : St) (h : INV st) : AW PW (fun v _ => v = some (.inl 1)) (MS 10) (n + 1) sx 0 [vr 500, vr 0, vr 99, none] [] st := by
  rw [awW 0]
  try simp only [pwl0, xs, i_load, i_loadR, i_inc, lg, lp, true_and, and_true, List.length_cons, List.length_nil, Nat.reduceAdd, Nat.reduceLeDiff, Nat.zero_le, Int.toNat_natCast, natLit]
  exact lw_loop hs hn (fun s _ => rfl) n 0 st (by omega) h
