/-! calls on both: bytes, what is asked -/
def OPr (kc km : Nat) (as : List V) (st : St) : Prop := MS 10 kc (vr 0 :: as) st (fun v s1 => ∃ r : Int, v = vi r ∧ MS 10 km (vr 99 :: as) s1 (fun v' s2 => v' = vi r ∧ INV s2))
def QC (st : St) (km : Nat) (as : List V) : Rn := fun v s1 => ∃ (r : Int) (tp : Nat × (Nat → Int)) (a : Nat) (ex : TE) (tn : TN) (D : List Dd) (F : FS) (M1 M2 M3 : MC) (L : List Nat) (t : Nat) (fa : Int), v = vi r ∧ Cin s1 tp a ex tn D F M1 M2 M3 L t fa ∧ Pur tp a ex tn D F M1 M2 M3 L t ∧ ∀ s : St, (∀ j, 99 ≤ j → s j = st j) → MS 10 km (vr 99 :: as) s (fun v' s2 => v' = vi r ∧ Min s2 tp a ex tn D F M1 M2 M3 L t fa)
theorem opp {kc km : Nat} {as : List V} {st : St} (h1 : RL gC as) (h2 : RL gM as) (h : MS 10 kc (vr 0 :: as) st (QC st km as)) : OPr kc km as st := by
  have h := MS_fr Gc_C 10 kc _ st _ h (RL_cons (show gC 0 by unfold gC; omega) h1)
  refine MS_cons h (fun v s1 hv => ?_)
  obtain ⟨⟨r, tp, a, ex, tn, D, F, M1, M2, M3, L, t, fa, rfl, hC, hP, hm⟩, -, hA⟩ := hv
  have hm := hm s1 (fun j hj => hA j (by unfold gC; omega))
  have hm := MS_fr Gc_M 10 km _ s1 _ hm (RL_cons (show gM 99 by unfold gM; omega) h2)
  refine ⟨r, rfl, MS_cons hm (fun v' s2 hv' => ?_)⟩
  obtain ⟨⟨rfl, hM⟩, -, hB⟩ := hv'
  refine ⟨rfl, tp, a, ex, tn, D, F, M1, M2, M3, L, t, fa, Cin_congr hC (fun q i hq => ?_), hM, hP⟩
  rw [hB q (by unfold gM; unfold rC at hq; omega)]
theorem rl0 {G : Nat → Prop} : RL G [] := fun v hv => by cases hv
theorem rl1 {G : Nat → Prop} {x : Int} : RL G [vi x] := RL_cons trivial rl0
theorem rl2 {G : Nat → Prop} {x y : Int} : RL G [vi x, vi y] := RL_cons trivial rl1
theorem rl3 {G : Nat → Prop} {x y z : Int} : RL G [vi x, vi y, vi z] := RL_cons trivial rl2
theorem rl5 {G : Nat → Prop} {x y z u w : Int} : RL G [vi x, vi y, vi z, vi u, vi w] := RL_cons trivial (RL_cons trivial rl3)
section HP
variable {st : St} {tp : Nat × (Nat → Int)} {a : Nat} {ex : TE} {tn : TN} {D : List Dd} {F : FS} {M1 M2 M3 : MC} {L : List Nat} {t : Nat} {fa : Int}
theorem Min_s (h : Min st tp a ex tn D F M1 M2 M3 L t fa) {s : St} (hs : ∀ j, 99 ≤ j → s j = st j) : Min s tp a ex tn D F M1 M2 M3 L t fa := Min_congr h (fun q i hq => by rw [hs q (by unfold rM at hq; omega)])
theorem Cin_S (h : Cin st tp a ex tn D F M1 M2 M3 L t fa) (p : Pur tp a ex tn D F M1 M2 M3 L t) : SOK st ex.1 ex.2.1 a := ⟨h.2.2.1.1, p.2.2.1.1, fun i hi => (h.2.2.1.2 i hi).1, fun i hi => by rw [(h.2.2.1.2 i hi).2]; exact p.2.2.1.2.1 i hi, p.2.2.1.2.2, p.2.2.2.1.2.2.2⟩
theorem Min_S (h : Min st tp a ex tn D F M1 M2 M3 L t fa) (p : Pur tp a ex tn D F M1 M2 M3 L t) : MOK st ex.1 ex.2.1 a := ⟨h.2.2.1.1, p.2.2.1.1, fun i hi => ⟨(h.2.2.1.2 i hi).1, (h.2.2.1.2 i hi).2.1⟩, fun i hi => by rw [(h.2.2.1.2 i hi).2.2]; exact p.2.2.1.2.1 i hi, p.2.2.1.2.2, p.2.2.2.1.2.2.2⟩
theorem Cin_X (h : Cin st tp a ex tn D F M1 M2 M3 L t fa) (p : Pur tp a ex tn D F M1 M2 M3 L t) : MXc st F tn.1 M1 M2 M3 := ⟨h.2.2.2.2.1.1, h.2.2.2.2.1.2.1, p.2.2.2.1.1, p.2.2.2.1.2.1.2.1, h.2.2.2.2.2.1.1, h.2.2.2.2.2.1.2.1, h.2.2.2.2.2.1.2.2⟩
theorem Min_X (h : Min st tp a ex tn D F M1 M2 M3 L t fa) (p : Pur tp a ex tn D F M1 M2 M3 L t) : MXm st F tn.1 a M1 M2 M3 := ⟨h.2.2.2.2.1.1, h.2.2.2.2.1.2.1, h.2.2.2.2.1.2.2.1, p.2.2.2.1.1, p.2.2.2.1.2.1.2.1, p.2.1.2, h.2.2.2.2.2.1.1, h.2.2.2.2.2.1.2.1, h.2.2.2.2.2.1.2.2⟩
/-! the pieces, each kept -/
theorem cp1 {s' : St} (h : Cin st tp a ex tn D F M1 M2 M3 L t fa) (e : ∀ q i, (q = 1 ∧ i = 1) ∨ q = 2 → s' q i = st q i) : s' 1 1 = (tp.1 : Nat) ∧ ∀ i, i < tp.1 → s' 2 i = tp.2 i := ⟨by rw [e 1 1 (by omega)]; exact h.1.1, fun i hi => by rw [e 2 i (by omega)]; exact h.1.2 i hi⟩
theorem cp2 {s' : St} (h : Cin st tp a ex tn D F M1 M2 M3 L t fa) (e : ∀ q i, q = 0 ∧ i = 15 → s' q i = st q i) : s' 0 15 = (a : Nat) := by rw [e 0 15 (by omega)]; exact h.2.1
theorem cp3 {s' : St} (h : Cin st tp a ex tn D F M1 M2 M3 L t fa) (e : ∀ q i, 5 ≤ q ∧ q ≤ 7 → s' q i = st q i) : s' 5 2 = (ex.1 : Nat) ∧ ∀ i, i < ex.1 → s' 6 i = (ex.2.1 i : Nat) ∧ s' 7 i = ex.2.2 i := ⟨by rw [e 5 2 (by omega)]; exact h.2.2.1.1, fun i hi => by rw [e 6 i (by omega), e 7 i (by omega)]; exact h.2.2.1.2 i hi⟩
theorem cp4 {s' : St} (h : Cin st tp a ex tn D F M1 M2 M3 L t fa) (e : ∀ q i, 8 ≤ q ∧ q ≤ 12 → s' q i = st q i) : s' 8 4 = (tn.1 : Nat) ∧ (∀ k, k < tn.1 → s' 9 k = (tn.2 k : Nat)) ∧ TM tn.2 tn.1 (s' 10) (Exx ex) ∧ TP tn.2 tn.1 (s' 11) ∧ TC tn.2 tn.1 (s' 12) := by
  have f10 : s' 10 = st 10 := by funext i; exact e 10 i (by omega)
  have f11 : s' 11 = st 11 := by funext i; exact e 11 i (by omega)
  have f12 : s' 12 = st 12 := by funext i; exact e 12 i (by omega)
  rw [f10, f11, f12]
  exact ⟨by rw [e 8 4 (by omega)]; exact h.2.2.2.1.1, fun k hk => by rw [e 9 k (by omega)]; exact h.2.2.2.1.2.1 k hk, h.2.2.2.1.2.2⟩
theorem cp5 {s' : St} (h : Cin st tp a ex tn D F M1 M2 M3 L t fa) (e : ∀ q i, (q = 13 ∧ i = 10) ∨ (q = 14 ∧ i ≠ 13) ∨ (15 ≤ q ∧ q ≤ 20) ∨ (27 ≤ q ∧ q ≤ 30) → s' q i = st q i) : LC s' 13 tn.1 (cF0 ex tn) D F := LC_congr h.2.2.2.2.1 (fun q i hq => e q i (by omega))
theorem cp6 {s' : St} (h : Cin st tp a ex tn D F M1 M2 M3 L t fa) (e : ∀ q i, 57 ≤ q ∧ q ≤ 59 → s' q i = st q i) : MCc s' 57 8 M1 := MCc_congr h.2.2.2.2.2.1.1 (fun q a b => by funext i; exact e q i (by omega))
theorem cp7 {s' : St} (h : Cin st tp a ex tn D F M1 M2 M3 L t fa) (e : ∀ q i, 60 ≤ q ∧ q ≤ 62 → s' q i = st q i) : MCc s' 60 40 M2 := MCc_congr h.2.2.2.2.2.1.2.1 (fun q a b => by funext i; exact e q i (by omega))
theorem cp8 {s' : St} (h : Cin st tp a ex tn D F M1 M2 M3 L t fa) (e : ∀ q i, 63 ≤ q ∧ q ≤ 65 → s' q i = st q i) : MCc s' 63 201 M3 := MCc_congr h.2.2.2.2.2.1.2.2 (fun q a b => by funext i; exact e q i (by omega))
theorem cp9 {s' : St} (h : Cin st tp a ex tn D F M1 M2 M3 L t fa) (e : ∀ q i, (q = 3 ∧ i = 1) ∨ q = 4 → s' q i = st q i) : WRc s' L := ⟨by rw [e 3 1 (by omega)]; exact h.2.2.2.2.2.2.1.1, fun i hi => by rw [e 4 i (by omega)]; exact h.2.2.2.2.2.2.1.2 i hi⟩
theorem cp10 {s' : St} (h : Cin st tp a ex tn D F M1 M2 M3 L t fa) (e : ∀ q i, q = 66 ∧ i = 9 → s' q i = st q i) : s' 66 9 = (t : Nat) := by rw [e 66 9 (by omega)]; exact h.2.2.2.2.2.2.2.1
theorem cp11 {s' : St} (h : Cin st tp a ex tn D F M1 M2 M3 L t fa) (e : ∀ q i, q = 0 ∧ i = 16 → s' q i = st q i) : s' 0 16 = fa := by rw [e 0 16 (by omega)]; exact h.2.2.2.2.2.2.2.2
theorem mp1 {s' : St} (h : Min st tp a ex tn D F M1 M2 M3 L t fa) (e : ∀ q i, (q = 99 ∧ i = 1) ∨ q = 100 → s' q i = st q i) : s' 99 1 = (tp.1 : Nat) ∧ ∀ i, i < tp.1 → s' 100 i = w8 (tp.2 i) := ⟨by rw [e 99 1 (by omega)]; exact h.1.1, fun i hi => by rw [e 100 i (by omega)]; exact h.1.2 i hi⟩
theorem mp2 {s' : St} (h : Min st tp a ex tn D F M1 M2 M3 L t fa) (e : ∀ q i, q = 99 ∧ i = 2 → s' q i = st q i) : s' 99 2 = (a : Nat) := by rw [e 99 2 (by omega)]; exact h.2.1
theorem mp3 {s' : St} (h : Min st tp a ex tn D F M1 M2 M3 L t fa) (e : ∀ q i, (q = 99 ∧ i = 8) ∨ (101 ≤ q ∧ q ≤ 103) → s' q i = st q i) : s' 99 8 = (ex.1 : Nat) ∧ ∀ i, i < ex.1 → s' 101 i = (wl (ex.2.1 i) : Nat) ∧ s' 102 i = (wc (ex.2.1 i) : Nat) ∧ s' 103 i = ex.2.2 i := ⟨by rw [e 99 8 (by omega)]; exact h.2.2.1.1, fun i hi => by rw [e 101 i (by omega), e 102 i (by omega), e 103 i (by omega)]; exact h.2.2.1.2 i hi⟩
theorem mp4 {s' : St} (h : Min st tp a ex tn D F M1 M2 M3 L t fa) (e : ∀ q i, (q = 99 ∧ i = 14) ∨ (104 ≤ q ∧ q ≤ 108) → s' q i = st q i) : s' 99 14 = (tn.1 : Nat) ∧ (∀ k, k < tn.1 → s' 104 k = (wl (tn.2 k) : Nat) ∧ s' 105 k = (wc (tn.2 k) : Nat)) ∧ TM tn.2 tn.1 (s' 106) (Exx ex) ∧ TP tn.2 tn.1 (s' 107) ∧ TC tn.2 tn.1 (s' 108) := by
  have f10 : s' 106 = st 106 := by funext i; exact e 106 i (by omega)
  have f11 : s' 107 = st 107 := by funext i; exact e 107 i (by omega)
  have f12 : s' 108 = st 108 := by funext i; exact e 108 i (by omega)
  rw [f10, f11, f12]
  exact ⟨by rw [e 99 14 (by omega)]; exact h.2.2.2.1.1, fun k hk => by rw [e 104 k (by omega), e 105 k (by omega)]; exact h.2.2.2.1.2.1 k hk, h.2.2.2.1.2.2⟩
theorem mp5 {s' : St} (h : Min st tp a ex tn D F M1 M2 M3 L t fa) (e : ∀ q i, (q = 99 ∧ (i = 2 ∨ i = 14 ∨ i = 19 ∨ i = 24 ∨ i = 29)) ∨ (109 ≤ q ∧ q ≤ 112) ∨ q = 118 → s' q i = st q i) : LM s' tn.1 a D F := LM_congr h.2.2.2.2.1 e
theorem mp6 {s' : St} (h : Min st tp a ex tn D F M1 M2 M3 L t fa) (e : ∀ q i, (q = 119 ∧ i = 1) ∨ (q = 120 ∧ 200 ≤ i ∧ i < 400) ∨ (q = 121 ∧ 800 ≤ i ∧ i < 1600) → s' q i = st q i) : MCm s' 1 M1 := MCm_congr h.2.2.2.2.2.1.1 (e _ _ (by omega)) (fun i a b => e _ _ (by omega)) (fun i a b => e _ _ (by omega))
theorem mp7 {s' : St} (h : Min st tp a ex tn D F M1 M2 M3 L t fa) (e : ∀ q i, (q = 119 ∧ i = 2) ∨ (q = 120 ∧ 400 ≤ i ∧ i < 600) ∨ (q = 121 ∧ 1600 ≤ i ∧ i < 2400) → s' q i = st q i) : MCm s' 2 M2 := MCm_congr h.2.2.2.2.2.1.2.1 (e _ _ (by omega)) (fun i a b => e _ _ (by omega)) (fun i a b => e _ _ (by omega))
theorem mp8 {s' : St} (h : Min st tp a ex tn D F M1 M2 M3 L t fa) (e : ∀ q i, (q = 119 ∧ i = 3) ∨ (q = 120 ∧ 600 ≤ i ∧ i < 800) ∨ (q = 121 ∧ 2400 ≤ i ∧ i < 3200) → s' q i = st q i) : MCm s' 3 M3 := MCm_congr h.2.2.2.2.2.1.2.2 (e _ _ (by omega)) (fun i a b => e _ _ (by omega)) (fun i a b => e _ _ (by omega))
theorem mp9 {s' : St} (h : Min st tp a ex tn D F M1 M2 M3 L t fa) (e : ∀ q i, (q = 99 ∧ i = 62) ∨ q = 144 → s' q i = st q i) : WRm s' L := ⟨by rw [e 99 62 (by omega)]; exact h.2.2.2.2.2.2.1.1, fun i hi => by rw [e 144 i (by omega)]; exact h.2.2.2.2.2.2.1.2 i hi⟩
theorem mp10 {s' : St} (h : Min st tp a ex tn D F M1 M2 M3 L t fa) (e : ∀ q i, q = 99 ∧ i = 40 → s' q i = st q i) : s' 99 40 = (t : Nat) := by rw [e 99 40 (by omega)]; exact h.2.2.2.2.2.2.2.1
theorem mp11 {s' : St} (h : Min st tp a ex tn D F M1 M2 M3 L t fa) (e : ∀ q i, q = 99 ∧ i = 42 → s' q i = st q i) : s' 99 42 = fa := by rw [e 99 42 (by omega)]; exact h.2.2.2.2.2.2.2.2
theorem Cin_tp {tp' : Nat × (Nat → Int)} {st' : St} (h : Cin st tp a ex tn D F M1 M2 M3 L t fa) (e : ∀ q i, rC q i → ¬ (q = 1 ∧ i = 1) → q ≠ 2 → st' q i = st q i) (h1 : st' 1 1 = (tp'.1 : Nat)) (h2 : ∀ i, i < tp'.1 → st' 2 i = tp'.2 i) : Cin st' tp' a ex tn D F M1 M2 M3 L t fa := ⟨⟨h1, h2⟩, cp2 h (fun q i hx => e q i (by unfold rC; omega) (by omega) (by omega)), cp3 h (fun q i hx => e q i (by unfold rC; omega) (by omega) (by omega)), cp4 h (fun q i hx => e q i (by unfold rC; omega) (by omega) (by omega)), cp5 h (fun q i hx => e q i (by unfold rC; omega) (by omega) (by omega)), ⟨cp6 h (fun q i hx => e q i (by unfold rC; omega) (by omega) (by omega)), cp7 h (fun q i hx => e q i (by unfold rC; omega) (by omega) (by omega)), cp8 h (fun q i hx => e q i (by unfold rC; omega) (by omega) (by omega))⟩, cp9 h (fun q i hx => e q i (by unfold rC; omega) (by omega) (by omega)), cp10 h (fun q i hx => e q i (by unfold rC; omega) (by omega) (by omega)), cp11 h (fun q i hx => e q i (by unfold rC; omega) (by omega) (by omega))⟩
theorem Min_tp {tp' : Nat × (Nat → Int)} {st' : St} (h : Min st tp a ex tn D F M1 M2 M3 L t fa) (e : ∀ q i, rM q i → ¬ (q = 99 ∧ i = 1) → q ≠ 100 → st' q i = st q i) (h1 : st' 99 1 = (tp'.1 : Nat)) (h2 : ∀ i, i < tp'.1 → st' 100 i = w8 (tp'.2 i)) : Min st' tp' a ex tn D F M1 M2 M3 L t fa := ⟨⟨h1, h2⟩, mp2 h (fun q i hx => e q i (by unfold rM; omega) (by omega) (by omega)), mp3 h (fun q i hx => e q i (by unfold rM; omega) (by omega) (by omega)), mp4 h (fun q i hx => e q i (by unfold rM; omega) (by omega) (by omega)), mp5 h (fun q i hx => e q i (by unfold rM; omega) (by omega) (by omega)), ⟨mp6 h (fun q i hx => e q i (by unfold rM; omega) (by omega) (by omega)), mp7 h (fun q i hx => e q i (by unfold rM; omega) (by omega) (by omega)), mp8 h (fun q i hx => e q i (by unfold rM; omega) (by omega) (by omega))⟩, mp9 h (fun q i hx => e q i (by unfold rM; omega) (by omega) (by omega)), mp10 h (fun q i hx => e q i (by unfold rM; omega) (by omega) (by omega)), mp11 h (fun q i hx => e q i (by unfold rM; omega) (by omega) (by omega))⟩
theorem Pur_tp {tp' : Nat × (Nat → Int)} (p : Pur tp a ex tn D F M1 M2 M3 L t) (h : tp'.1 ≤ 800 ∧ ∀ i, i < tp'.1 → 0 ≤ tp'.2 i ∧ tp'.2 i ≤ 255) : Pur tp' a ex tn D F M1 M2 M3 L t := ⟨h, p.2⟩
end HP
theorem o_tries {st : St} (h : INV st) : OPr 23 116 [] st := by
  obtain ⟨tp, a, ex, tn, D, F, M1, M2, M3, L, t, fa, hC, hM, hP⟩ := h
  refine opp rl0 rl0 ?_
  have k0 : kl 0 = 11 := rfl
  have k66 : kl 66 = 8 := rfl
  have k99 : kl 99 = 12 := rfl
  have e := hC.2.2.2.2.2.2.2.1
  refine MS_v [vr 0] rfl rfl rfl rfl ?_
  try simp only [awu 23 0, pe23, xs, i_load, i_loadR, i_inc, lg, lp, true_and, and_true, List.length_cons, List.length_nil, Nat.reduceAdd, Nat.reduceLeDiff, Nat.zero_le, Int.toNat_natCast, natLit, k0, k66, e]
  refine ⟨_, tp, a, ex, tn, D, F, M1, M2, M3, L, t, fa, rfl, hC, hP, fun s hs => ?_⟩
  have hM := Min_s hM hs
  have e := hM.2.2.2.2.2.2.2.1
  refine MS_v [vr 99] rfl rfl rfl rfl ?_
  try simp only [awu 116 0, pe116, xs, i_load, i_loadR, i_inc, lg, lp, true_and, and_true, List.length_cons, List.length_nil, Nat.reduceAdd, Nat.reduceLeDiff, Nat.zero_le, Int.toNat_natCast, natLit, k99, e]
  exact hM
theorem o_fault {st : St} (h : INV st) : OPr 25 125 [] st := by
  obtain ⟨tp, a, ex, tn, D, F, M1, M2, M3, L, t, fa, hC, hM, hP⟩ := h
  refine opp rl0 rl0 ?_
  have k0 : kl 0 = 11 := rfl
  have k99 : kl 99 = 12 := rfl
  have e := hC.2.2.2.2.2.2.2.2
  refine MS_v [vr 0] rfl rfl rfl rfl ?_
  try simp only [awu 25 0, pe25, xs, i_load, i_loadR, i_inc, lg, lp, true_and, and_true, List.length_cons, List.length_nil, Nat.reduceAdd, Nat.reduceLeDiff, Nat.zero_le, Int.toNat_natCast, natLit, k0, e]
  refine ⟨_, tp, a, ex, tn, D, F, M1, M2, M3, L, t, fa, rfl, hC, hP, fun s hs => ?_⟩
  have hM := Min_s hM hs
  have e := hM.2.2.2.2.2.2.2.2
  refine MS_v [vr 99] rfl rfl rfl rfl ?_
  try simp only [awu 125 0, pe125, xs, i_load, i_loadR, i_inc, lg, lp, true_and, and_true, List.length_cons, List.length_nil, Nat.reduceAdd, Nat.reduceLeDiff, Nat.zero_le, Int.toNat_natCast, natLit, k99, e]
  exact hM
theorem o_octet {k : Int} {st : St} (h : INV st) : OPr 36 149 [vi k] st := by
  obtain ⟨tp, a, ex, tn, D, F, M1, M2, M3, L, t, fa, hC, hM, hP⟩ := h
  refine opp rl1 rl1 ?_
  obtain ⟨w1, w2⟩ := hC.2.2.2.2.2.2.1
  have hL := hP.2.2.2.2.2.2.2.1
  refine sp_woctet w1 hL ?_
  refine ⟨_, tp, a, ex, tn, D, F, M1, M2, M3, L, t, fa, rfl, hC, hP, fun s hs => ?_⟩
  have hM := Min_s hM hs
  obtain ⟨m1, m2⟩ := hM.2.2.2.2.2.2.1
  refine sp_moctet m1 (by omega) ⟨?_, hM⟩
  by_cases z : 0 ≤ k ∧ k < L.length
  · rw [if_pos z, if_pos z, w2 _ (by omega), m2 _ (by omega)]
  · rw [if_neg z, if_neg z]
theorem o_end {k : Int} {st : St} (h : INV st) : OPr 2 46 [vi k] st := by
  obtain ⟨tp, a, ex, tn, D, F, M1, M2, M3, L, t, fa, hC, hM, hP⟩ := h
  refine opp rl1 rl1 ?_
  obtain ⟨c1, c2⟩ := hC.1
  refine sp_wend c1 (fun z => ?_) (fun z => ?_)
  · refine ⟨_, tp, a, ex, tn, D, F, M1, M2, M3, L, t, fa, rfl, hC, hP, fun s hs => ?_⟩
    have hM := Min_s hM hs
    exact sp_mend hM.1.1 (fun _ => ⟨rfl, hM⟩) (fun z' => absurd z' z)
  · obtain ⟨n, rfl⟩ : ∃ n : Nat, k = n := ⟨k.toNat, by omega⟩
    refine ⟨_, (n, tp.2), a, ex, tn, D, F, M1, M2, M3, L, t, fa, rfl, Cin_tp hC (fun q i _ h1 h2 => ?_) (by rw [up2_self, upf_s]) (fun i hi => ?_), Pur_tp hP ⟨by show n ≤ 800; have := hP.1.1; omega, fun i hi => hP.1.2 i (by have hi : i < n := hi; omega)⟩, fun s hs => ?_⟩
    · rw [up2_at]
      by_cases zq : q = 1
      · subst zq
        rw [if_pos rfl, if_neg (by omega)]
      · rw [if_neg zq]
    · have hi : i < n := hi
      rw [up2_ne (by decide)]
      exact c2 i (by omega)
    · have hM := Min_s hM hs
      refine sp_mend hM.1.1 (fun z' => absurd z z') (fun _ => ⟨rfl, Min_tp hM (fun q i _ h1 h2 => ?_) (by rw [up2_self, upf_s]) (fun i hi => ?_)⟩)
      · rw [up2_at]
        by_cases zq : q = 99
        · subst zq
          rw [if_pos rfl, if_neg (by omega)]
        · rw [if_neg zq]
      · have hi : i < n := hi
        rw [up2_ne (by decide)]
        exact hM.1.2 i (by omega)
theorem fourBM {x : Int} (hx : InR x) : fourM x = (fourB x).map w8 ∧ ∀ y ∈ fourB x, 0 ≤ y ∧ y ≤ 255 := by
  have h1 : ∀ z, InR z → w8 (band z 255) = w8 z ∧ 0 ≤ band z 255 ∧ band z 255 ≤ 255 := fun z hz => by
    rw [band255i z hz, w8_mod]
    exact ⟨rfl, by omega, by omega⟩
  have h0 : bshr x 0 = x := by
    have : bshr x 0 = (oI x >>> (oI 0 &&& 31)).toInt := rfl
    rw [this]
    have e : (oI 0 &&& 31 : Int32) = 0 := by decide
    rw [e]
    have e2 : oI x >>> (0 : Int32) = oI x := by
      apply Int32.toBitVec_inj.mp
      simp
    rw [e2]
    exact oI_toInt hx
  obtain ⟨a1, a2⟩ := h1 (bshr x 24) (InR_bshr _ _)
  obtain ⟨b1, b2⟩ := h1 (bshr x 16) (InR_bshr _ _)
  obtain ⟨c1, c2⟩ := h1 (bshr x 8) (InR_bshr _ _)
  obtain ⟨d1, d2⟩ := h1 x hx
  refine ⟨?_, fun y hy => ?_⟩
  · unfold fourM fourB
    rw [List.map_cons, List.map_cons, List.map_cons, List.map_cons, List.map_nil, a1, b1, c1, d1, h0]
  · unfold fourB at hy
    simp only [List.mem_cons, List.not_mem_nil, or_false] at hy
    rcases hy with rfl | rfl | rfl | rfl <;> assumption
theorem o_feed {x1 x2 x3 x4 x5 : Int} {st : St} (i1 : InR x1) (i2 : InR x2) (i3 : InR x3) (i4 : InR x4) (i5 : InR x5) (h : INV st) : OPr 1 45 [vi x1, vi x2, vi x3, vi x4, vi x5] st := by
  obtain ⟨tp, a, ex, tn, D, F, M1, M2, M3, L, t, fa, hC, hM, hP⟩ := h
  refine opp rl5 rl5 ?_
  obtain ⟨c1, c2⟩ := hC.1
  have hc8 := hP.1.1
  refine sp_wfeed c1 hc8 (fun z => ?_) (fun z => ?_)
  · refine ⟨_, tp, a, ex, tn, D, F, M1, M2, M3, L, t, fa, rfl, hC, hP, fun s hs => ?_⟩
    have hM := Min_s hM hs
    exact sp_mfeed hM.1.1 hc8 (fun _ => ⟨rfl, hM⟩) (fun z' => absurd z' z)
  · obtain ⟨f1, g1⟩ := fourBM i1
    obtain ⟨f2, g2⟩ := fourBM i2
    obtain ⟨f3, g3⟩ := fourBM i3
    obtain ⟨f4, g4⟩ := fourBM i4
    obtain ⟨f5, g5⟩ := fourBM i5
    have hlen : (fourB x1 ++ fourB x2 ++ fourB x3 ++ fourB x4 ++ fourB x5).length = 20 := rfl
    have hmem : ∀ y ∈ fourB x1 ++ fourB x2 ++ fourB x3 ++ fourB x4 ++ fourB x5, 0 ≤ y ∧ y ≤ 255 := fun y hy => by
      simp only [List.mem_append] at hy
      rcases hy with (((hy | hy) | hy) | hy) | hy
      · exact g1 y hy
      · exact g2 y hy
      · exact g3 y hy
      · exact g4 y hy
      · exact g5 y hy
    have hmap : fourM x1 ++ fourM x2 ++ fourM x3 ++ fourM x4 ++ fourM x5 = (fourB x1 ++ fourB x2 ++ fourB x3 ++ fourB x4 ++ fourB x5).map w8 := by rw [f1, f2, f3, f4, f5]; simp only [List.map_append]
    generalize hl : fourB x1 ++ fourB x2 ++ fourB x3 ++ fourB x4 ++ fourB x5 = l at *
    have hcn : (st 1 1).toNat = tp.1 := by rw [c1]; rfl
    refine ⟨_, (tp.1 + 20, fun i => if i < tp.1 then tp.2 i else l.getD (i - tp.1) 0), a, ex, tn, D, F, M1, M2, M3, L, t, fa, rfl, Cin_tp hC (fun q i _ h1 h2 => ?_) ?_ (fun i hi => ?_), Pur_tp hP ⟨z, fun i hi => ?_⟩, fun s hs => ?_⟩
    · by_cases zq : q = 1
      · subst zq
        exact pu_fld (by decide) (by omega)
      · rw [pu_oth h2 zq]
    · rw [pu_cnt (by decide), c1, hlen]
      rfl
    · have hi : i < tp.1 + 20 := hi
      rw [pu_row, hcn, hlen]
      show _ = if i < tp.1 then tp.2 i else l.getD (i - tp.1) 0
      by_cases zi : i < tp.1
      · rw [if_neg (by omega), if_pos zi]
        exact c2 i zi
      · rw [if_pos (by omega), if_neg zi]
    · have hi : i < tp.1 + 20 := hi
      show 0 ≤ (if i < tp.1 then tp.2 i else l.getD (i - tp.1) 0) ∧ (if i < tp.1 then tp.2 i else l.getD (i - tp.1) 0) ≤ 255
      by_cases zi : i < tp.1
      · rw [if_pos zi]
        exact hP.1.2 i zi
      · rw [if_neg zi, List.getD_eq_getElem?_getD, List.getElem?_eq_getElem (by omega)]
        exact hmem _ (List.getElem_mem _)
    · have hM := Min_s hM hs
      refine sp_mfeed hM.1.1 hc8 (fun z' => absurd z z') (fun _ => ⟨rfl, ?_⟩)
      rw [hmap]
      have hcm : (s 99 1).toNat = tp.1 := by rw [hM.1.1]; rfl
      refine Min_tp hM (fun q i _ h1 h2 => ?_) ?_ (fun i hi => ?_)
      · by_cases zq : q = 99
        · subst zq
          exact pu_fld (by decide) (by omega)
        · rw [pu_oth h2 zq]
      · rw [pu_cnt (by decide), hM.1.1, List.length_map, hlen]
        rfl
      · have hi : i < tp.1 + 20 := hi
        rw [pu_row, hcm, List.length_map, hlen]
        show _ = w8 (if i < tp.1 then tp.2 i else l.getD (i - tp.1) 0)
        by_cases zi : i < tp.1
        · rw [if_neg (by omega), if_pos zi]
          exact hM.1.2 i zi
        · rw [if_pos (by omega), if_neg zi, List.getD_eq_getElem?_getD, List.getD_eq_getElem?_getD, List.getElem?_map, List.getElem?_eq_getElem (by omega)]
          rfl
