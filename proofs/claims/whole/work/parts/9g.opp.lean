/-! the tree laid anew, on both -/
def TrC (st : St) (ex : TE) (tn : TN) : Prop := st 8 4 = (tn.1 : Nat) ∧ (∀ k, k < tn.1 → st 9 k = (tn.2 k : Nat)) ∧ TM tn.2 tn.1 (st 10) (Exx ex) ∧ TP tn.2 tn.1 (st 11) ∧ TC tn.2 tn.1 (st 12)
def CX (st : St) (tp : Nat × (Nat → Int)) (a : Nat) (ex : TE) (M1 M2 M3 : MC) (L : List Nat) (t : Nat) (fa : Int) : Prop :=
  (st 1 1 = (tp.1 : Nat) ∧ ∀ i, i < tp.1 → st 2 i = tp.2 i) ∧ st 0 15 = (a : Nat) ∧ (st 5 2 = (ex.1 : Nat) ∧ ∀ i, i < ex.1 → st 6 i = (ex.2.1 i : Nat) ∧ st 7 i = ex.2.2 i) ∧ (MCc st 57 8 M1 ∧ MCc st 60 40 M2 ∧ MCc st 63 201 M3) ∧ WRc st L ∧ st 66 9 = (t : Nat) ∧ st 0 16 = fa
def XM (st : St) (tp : Nat × (Nat → Int)) (a : Nat) (ex : TE) (M1 M2 M3 : MC) (L : List Nat) (t : Nat) (fa : Int) : Prop :=
  (st 99 1 = (tp.1 : Nat) ∧ ∀ i, i < tp.1 → st 100 i = w8 (tp.2 i)) ∧ st 99 2 = (a : Nat) ∧ (st 99 8 = (ex.1 : Nat) ∧ ∀ i, i < ex.1 → st 101 i = (wl (ex.2.1 i) : Nat) ∧ st 102 i = (wc (ex.2.1 i) : Nat) ∧ st 103 i = ex.2.2 i) ∧ (MCm st 1 M1 ∧ MCm st 2 M2 ∧ MCm st 3 M3) ∧ WRm st L ∧ st 99 40 = (t : Nat) ∧ st 99 42 = fa
def PX (a : Nat) (ex : TE) : Prop := (1 ≤ a ∧ a ≤ 4) ∧ (ex.1 ≤ 40 ∧ (∀ i, i < ex.1 → ok01 (ex.2.2 i)) ∧ Srt ex.2.1 ex.1) ∧ (∀ i, i < ex.1 → okw a (ex.2.1 i)) ∧ Cp 120 (Pf (fun w => ∃ v, Exx ex w v))
section HW
variable {st st' : St} {tp : Nat × (Nat → Int)} {a : Nat} {ex : TE} {tn tn' : TN} {D : List Dd} {F : FS} {M1 M2 M3 : MC} {L : List Nat} {t : Nat} {fa : Int}
theorem Cin_CX (h : Cin st tp a ex tn D F M1 M2 M3 L t fa) : CX st tp a ex M1 M2 M3 L t fa := ⟨h.1, h.2.1, h.2.2.1, h.2.2.2.2.2.1, h.2.2.2.2.2.2.1, h.2.2.2.2.2.2.2.1, h.2.2.2.2.2.2.2.2⟩
theorem Min_XM (h : Min st tp a ex tn D F M1 M2 M3 L t fa) : XM st tp a ex M1 M2 M3 L t fa := ⟨h.1, h.2.1, h.2.2.1, h.2.2.2.2.2.1, h.2.2.2.2.2.2.1, h.2.2.2.2.2.2.2.1, h.2.2.2.2.2.2.2.2⟩
theorem CX_congr (h : CX st tp a ex M1 M2 M3 L t fa) (e : ∀ q i, q < 8 ∨ 30 < q → st' q i = st q i) : CX st' tp a ex M1 M2 M3 L t fa := by
  obtain ⟨⟨h1, h1'⟩, h2, ⟨h3, h3'⟩, ⟨h9, h10, h11⟩, ⟨h12, h12'⟩, h13, h14⟩ := h
  exact ⟨⟨by rw [e 1 1 (by omega)]; exact h1, fun i hi => by rw [e 2 i (by omega)]; exact h1' i hi⟩, by rw [e 0 15 (by omega)]; exact h2, ⟨by rw [e 5 2 (by omega)]; exact h3, fun i hi => by rw [e 6 i (by omega), e 7 i (by omega)]; exact h3' i hi⟩, ⟨MCc_congr h9 (fun q a b => by funext i; exact e q i (by omega)), MCc_congr h10 (fun q a b => by funext i; exact e q i (by omega)), MCc_congr h11 (fun q a b => by funext i; exact e q i (by omega))⟩, ⟨by rw [e 3 1 (by omega)]; exact h12, fun i hi => by rw [e 4 i (by omega)]; exact h12' i hi⟩, by rw [e 66 9 (by omega)]; exact h13, by rw [e 0 16 (by omega)]; exact h14⟩
theorem XM_congr (h : XM st tp a ex M1 M2 M3 L t fa) (e : ∀ q i, ¬ (q = 99 ∧ (i = 14 ∨ i = 19 ∨ i = 24 ∨ i = 29)) → q < 104 ∨ 112 < q → st' q i = st q i) : XM st' tp a ex M1 M2 M3 L t fa := by
  obtain ⟨⟨h1, h1'⟩, h2, ⟨h3, h3'⟩, ⟨h9, h10, h11⟩, ⟨h12, h12'⟩, h13, h14⟩ := h
  exact ⟨⟨by rw [e 99 1 (by omega) (by omega)]; exact h1, fun i hi => by rw [e 100 i (by omega) (by omega)]; exact h1' i hi⟩, by rw [e 99 2 (by omega) (by omega)]; exact h2, ⟨by rw [e 99 8 (by omega) (by omega)]; exact h3, fun i hi => by rw [e 101 i (by omega) (by omega), e 102 i (by omega) (by omega), e 103 i (by omega) (by omega)]; exact h3' i hi⟩, ⟨MCm_congr h9 (e _ _ (by omega) (by omega)) (fun i a b => e _ _ (by omega) (by omega)) (fun i a b => e _ _ (by omega) (by omega)), MCm_congr h10 (e _ _ (by omega) (by omega)) (fun i a b => e _ _ (by omega) (by omega)) (fun i a b => e _ _ (by omega) (by omega)), MCm_congr h11 (e _ _ (by omega) (by omega)) (fun i a b => e _ _ (by omega) (by omega)) (fun i a b => e _ _ (by omega) (by omega))⟩, ⟨by rw [e 99 62 (by omega) (by omega)]; exact h12, fun i hi => by rw [e 144 i (by omega) (by omega)]; exact h12' i hi⟩, by rw [e 99 40 (by omega) (by omega)]; exact h13, by rw [e 99 42 (by omega) (by omega)]; exact h14⟩
theorem CX_S (h : CX st tp a ex M1 M2 M3 L t fa) (p : PX a ex) : SOK st ex.1 ex.2.1 a := ⟨h.2.2.1.1, p.2.1.1, fun i hi => (h.2.2.1.2 i hi).1, fun i hi => by rw [(h.2.2.1.2 i hi).2]; exact p.2.1.2.1 i hi, p.2.1.2.2, p.2.2.1⟩
theorem XM_S (h : XM st tp a ex M1 M2 M3 L t fa) (p : PX a ex) : MOK st ex.1 ex.2.1 a := ⟨h.2.2.1.1, p.2.1.1, fun i hi => ⟨(h.2.2.1.2 i hi).1, (h.2.2.1.2 i hi).2.1⟩, fun i hi => by rw [(h.2.2.1.2 i hi).2.2]; exact p.2.1.2.1 i hi, p.2.1.2.2, p.2.2.1⟩
theorem CB1 {d : Nat} {Q : Rn} (h : CX st tp a ex M1 M2 M3 L t fa) (p : PX a ex) (hq : ∀ (s' : St) (tn : TN), CX s' tp a ex M1 M2 M3 L t fa → TNo a ex tn → TrC s' ex tn → Q none s') : MS (d + 4) 252 [vr 8, vr 5, vi (-1)] st Q := by
  have e : ExR ex.2.1 (st 7) ex.1 (-1) = Exx ex := ExR_eq (fun i hi => (h.2.2.1.2 i hi).2)
  refine sp_tbuild isTr_8 (by decide) (CX_S h p) (by rw [e]; exact p.2.2.2) (fun s' f n y1 y2 => ?_)
  rw [e] at y1
  obtain ⟨g1, g2, g3, g4, g5, g6, g7, g8⟩ := y1
  exact hq s' (n, f) (CX_congr h (fun q i hq => by rw [y2 q (by omega) (by omega) (by omega) (by omega) (by omega)])) ⟨g2, g4, g5, p.2.2.1⟩ ⟨g1, g3, g6, g7, g8⟩
theorem CB2 {d : Nat} {Q : Rn} (h : CX st tp a ex M1 M2 M3 L t fa) (p : PX a ex) (hT : TNo a ex tn) (hR : TrC st ex tn) (hq : ∀ s' : St, Cin s' tp a ex tn [] (cF0 ex tn) M1 M2 M3 L t fa → Q none s') : MS (d + 2) 173 [vr 13, vr 8] st Q := by
  have h0 : T0 tn.1 (cF0 ex tn) (st 10) (st 12) := cF0_T0 hT.2.1.1 (fun i j hi hj e => Srt_inj p.2.1.2.2 hi hj e) hR.2.2.1 hR.2.2.2.2
  refine sp_lbegin isLn_13 isTr_8 (by decide) hR.1 hT.1 h0 cF0_FI (fun s' y1 y2 => hq s' ?_)
  have hX := CX_congr (st' := s') h (fun q i hq => by rw [y2 q (by omega)])
  obtain ⟨h1, h2, h3, h4, h5, h6, h7⟩ := hX
  refine ⟨h1, h2, h3, ⟨by rw [y2 8 (by omega)]; exact hR.1, fun k hk => by rw [y2 9 (by omega)]; exact hR.2.1 k hk, by rw [y2 10 (by omega)]; exact hR.2.2.1, by rw [y2 11 (by omega)]; exact hR.2.2.2.1, by rw [y2 12 (by omega)]; exact hR.2.2.2.2⟩, y1, h4, h5, h6, h7⟩
theorem TM_f {f f' : Nat → Nat} {n : Nat} {mk : Nat → Int} {E : Nat → Int → Prop} (e : ∀ k, k < n → f' k = f k) (h : TM f n mk E) : TM f' n mk E := fun k hk => by rw [e k hk]; exact h k hk
theorem TP_f {f f' : Nat → Nat} {n : Nat} {pa : Nat → Int} (e : ∀ k, k < n → f' k = f k) (h : TP f n pa) : TP f' n pa := ⟨h.1, fun k h0 hk => by
  obtain ⟨b, b1, b2, b3⟩ := h.2 k h0 hk
  exact ⟨b, b1, b2, by rw [e b (by omega), e k hk]; exact b3⟩⟩
theorem TC_f {f f' : Nat → Nat} {n : Nat} {ch : Nat → Int} (e : ∀ k, k < n → f' k = f k) (h : TC f n ch) : TC f' n ch := fun k l hk hl => by
  rw [e k hk]
  obtain ⟨h1, h2⟩ := h k l hk hl
  exact ⟨fun i hi ei => h1 i hi (by rw [← e i hi]; exact ei), fun hno => h2 (fun i hi => by rw [← e i hi]; exact hno i hi)⟩
theorem MB {d : Nat} {Q : Rn} (h : XM st tp a ex M1 M2 M3 L t fa) (p : PX a ex) (hT : TNo a ex tn) (hq : ∀ s' : St, Min s' tp a ex tn [] (cF0 ex tn) M1 M2 M3 L t fa → Q none s') : MS (d + 5) 78 [vr 99] st Q := by
  have e : ExR ex.2.1 (st 103) ex.1 (-1) = Exx ex := ExR_eq (fun i hi => (h.2.2.1.2 i hi).2.2)
  refine MS_v [vr 99] rfl rfl rfl rfl ?_
  try simp only [awu 78 0, pe78, xs, i_load, i_loadR, i_inc, lg, lp, true_and, and_true, List.length_cons, List.length_nil, Nat.reduceAdd, Nat.reduceLeDiff, Nat.zero_le, Int.toNat_natCast, natLit, mK0]
  refine sp_layTree (XM_S h p) (by rw [e]; exact p.2.2.2) (fun s' f n y1 y2 y3 => ?_)
  dsimp only
  try simp only [awu 78 0, pe78, xs, i_load, i_loadR, i_inc, lg, lp, true_and, and_true, List.length_cons, List.length_nil, Nat.reduceAdd, Nat.reduceLeDiff, Nat.zero_le, Int.toNat_natCast, natLit, mK0]
  rw [e] at y1
  obtain ⟨g1, g2, g3, g4, g5, g6, g7, g8⟩ := y1
  obtain ⟨en, ef⟩ := Srt_uniq hT.2.1.1 g4.1 (fun x => (hT.2.2.1 x).trans (g5 x).symm)
  subst en
  have hh := hT.1
  refine hq _ ?_
  have fr : ∀ q i, ¬ (q = 99 ∧ i = 29) → up2 s' 99 29 0 q i = s' q i := fun q i hx => by
    by_cases zq : q = 99
    · subst zq
      rw [up2_self, upf_n (by omega)]
    · rw [up2_ne zq]
  have hX := XM_congr (st' := up2 s' 99 29 0) h (fun q i h1 h2 => by rw [fr q i (by omega), y3 q i (by omega) h2])
  obtain ⟨h1, h2, h3, h4, h5, h6, h7⟩ := hX
  have f6 : up2 s' 99 29 0 106 = s' 106 := up2_ne (by decide)
  have f7 : up2 s' 99 29 0 107 = s' 107 := up2_ne (by decide)
  have f8 : up2 s' 99 29 0 108 = s' 108 := up2_ne (by decide)
  have tM := TM_f ef g6
  have tC := TC_f ef g8
  have h0 : T0 tn.1 (cF0 ex tn) (up2 s' 99 29 0 106) (up2 s' 99 29 0 108) := by
    rw [f6, f8]
    exact cF0_T0 hT.2.1.1 (fun i j hi hj e => Srt_inj p.2.1.2.2 hi hj e) tM tC
  have hFS : FS0 (up2 s' 99 29 0) tn.1 := by
    obtain ⟨z1, z2, z3, z4⟩ := y2
    exact ⟨fun k hk => by rw [up2_ne (by decide), up2_ne (by decide), up2_ne (by decide), up2_ne (by decide)]; exact z1 k hk, fun k hk => by rw [up2_ne (by decide), up2_ne (by decide)]; exact z2 k hk, by rw [fr 99 19 (by omega)]; exact z3, by rw [fr 99 24 (by omega)]; exact z4⟩
  have hMR := MR_0 (st := s') (q := a) (by rw [fr 99 14 (by omega)]; exact g1) h2 hFS h0
  refine ⟨h1, h2, h3, ⟨by rw [fr 99 14 (by omega)]; exact g1, fun k hk => ?_, by rw [f6]; exact tM, by rw [f7]; exact TP_f ef g7, by rw [f8]; exact tC⟩, ⟨hMR, cF0_FI, cF0_LA p.1.2 hT, ⟨0, by rw [fr 99 24 (by omega)]; exact y2.2.2.2, by rw [cR_T0 h0]; omega⟩, fun k hk => absurd hk (Nat.not_lt_zero _), by rw [up2_self, upf_s]; rfl, by decide⟩, h4, h5, h6, h7⟩
  rw [up2_ne (by decide), up2_ne (by decide), ef k hk]
  exact g3 k hk
theorem Pur_X {ex' : TE} (p : Pur tp a ex tn D F M1 M2 M3 L t) (h : PX a ex') (hT : TNo a ex' tn') : Pur tp a ex' tn' [] (cF0 ex' tn') M1 M2 M3 L t := ⟨p.1, h.1, h.2.1, hT, rfl, p.2.2.2.2.2⟩
end HW
