/-! deeds and steps of the reference -/
def DA (f : Nat → Int) (D : List Dd) : Prop := ∀ k, k < D.length → f (4 * k) = (if (D.getD (D.length - 1 - k) (0, 0, 0)).2.1 = -1 then 0 else 1) ∧ f (4 * k + 1) = ((D.getD (D.length - 1 - k) (0, 0, 0)).1 : Nat) ∧ f (4 * k + 2) = (D.getD (D.length - 1 - k) (0, 0, 0)).2.1 ∧ f (4 * k + 3) = (D.getD (D.length - 1 - k) (0, 0, 0)).2.2
theorem DA_congr {f g : Nat → Int} {D : List Dd} (h : DA f D) (e : ∀ i, i < 4 * D.length → g i = f i) : DA g D := by
  intro k hk
  rw [e _ (by omega), e _ (by omega), e _ (by omega), e _ (by omega)]
  exact h k hk
theorem DA_tl {f : Nat → Int} {D : List Dd} {e : Dd} (h : DA f (e :: D)) : DA f D := by
  intro k hk
  have := h k (by simp; omega)
  rw [List.length_cons, show D.length + 1 - 1 - k = (D.length - 1 - k) + 1 by omega] at this
  simpa using this
theorem DA_hd {f : Nat → Int} {D : List Dd} {e : Dd} (h : DA f (e :: D)) : f (4 * D.length) = (if e.2.1 = -1 then 0 else 1) ∧ f (4 * D.length + 1) = (e.1 : Nat) ∧ f (4 * D.length + 2) = e.2.1 ∧ f (4 * D.length + 3) = e.2.2 := by
  have := h D.length (by simp)
  simpa using this
theorem DA_cons {f g : Nat → Int} {D : List Dd} {e : Dd} (h : DA f D) (hg : ∀ i, i < 4 * D.length → g i = f i) (h0 : g (4 * D.length) = (if e.2.1 = -1 then 0 else 1)) (h1 : g (4 * D.length + 1) = (e.1 : Nat)) (h2 : g (4 * D.length + 2) = e.2.1) (h3 : g (4 * D.length + 3) = e.2.2) : DA g (e :: D) := by
  intro k hk
  rw [List.length_cons] at *
  rcases Nat.lt_or_ge k D.length with z | z
  · have := DA_congr h hg k z
    rw [show D.length + 1 - 1 - k = (D.length - 1 - k) + 1 by omega]
    simpa using this
  · have : k = D.length := by omega
    subst this
    simp
    exact ⟨h0, h1, h2, h3⟩
def LM (st : St) (n q : Nat) (D : List Dd) (F : FS) : Prop := MR st n q F ∧ FI n F ∧ LA n q F ∧ (∃ J : Nat, st 99 24 = J ∧ J + cR F n = n) ∧ DA (st 118) D ∧ st 99 29 = (D.length : Nat) ∧ D.length ≤ 200
def FrD (st st' : St) : Prop := ∀ j i, j < 99 ∨ (j = 99 ∧ i ≠ 19 ∧ i ≠ 24 ∧ i ≠ 25 ∧ i ≠ 27 ∧ i ≠ 29) ∨ (99 < j ∧ j < 109) ∨ 118 < j → st' j i = st j i
theorem FrD_r {st : St} : FrD st st := fun _ _ _ => rfl
theorem FrD_t {s1 s2 s3 : St} (h1 : FrD s1 s2) (h2 : FrD s2 s3) : FrD s1 s3 := fun j i h => by rw [h2 j i h, h1 j i h]
theorem FrM_D {s1 s2 : St} (h1 : FrM s1 s2) : FrD s1 s2 := fun j i h => h1 j i (by omega)
theorem sp_write {d : Nat} {m : Int} {e : Dd} {st : St} {D : List Dd} {Q : Rn} (hA : DA (st 118) D) (hc : st 99 29 = (D.length : Nat)) (hc2 : D.length < 200) (hm : m = if e.2.1 = -1 then 0 else 1)
    (hq : ∀ st' : St, DA (st' 118) (e :: D) → st' 99 29 = ((e :: D).length : Nat) → (∀ a b, ¬ (a = 99 ∧ b = 29) → a ≠ 118 → st' a b = st a b) → Q none st') : MS (d + 1) 70 [vr 99, vi m, vi (e.1 : Nat), vi e.2.1, vi e.2.2] st Q := by
  have k0 : kl 99 = 12 := rfl
  have k18 : kl 118 = 50 := rfl
  have l18 : len 118 = 800 := rfl
  generalize hcl : D.length = c at *
  have w : Unit → wr ((c : Int) + 1) = ((c + 1 : Nat) : Int) := fun _ => by rw [wr_id (by omega) (by omega)]; omega
  have w4 : Unit → wr (4 * (c : Int)) = ((4 * c : Nat) : Int) := fun _ => by rw [wr_id (by omega) (by omega)]; omega
  have w1 : Unit → wr (((4 * c : Nat) : Int) + 1) = ((4 * c + 1 : Nat) : Int) := fun _ => by rw [wr_id (by omega) (by omega)]; omega
  have w2 : Unit → wr (((4 * c : Nat) : Int) + 2) = ((4 * c + 2 : Nat) : Int) := fun _ => by rw [wr_id (by omega) (by omega)]; omega
  have w3 : Unit → wr (((4 * c : Nat) : Int) + 3) = ((4 * c + 3 : Nat) : Int) := fun _ => by rw [wr_id (by omega) (by omega)]; omega
  have u : ∀ (s : St) (i : Nat) (v : Int), s 99 29 = c → up2 s 118 i v 99 29 = c := fun s i v h => by rw [up2_ne (by decide)]; exact h
  have u1 := u st (4 * c) m hc
  have u2 := u _ (4 * c + 1) (e.1 : Nat) u1
  have u3 := u _ (4 * c + 2) e.2.1 u2
  have u4 := u _ (4 * c + 3) e.2.2 u3
  refine MS_v [vr 99, vi m, vi (e.1 : Nat), vi e.2.1, vi e.2.2] rfl rfl rfl rfl ?_
  try simp only [awu 70 0, pe70, xs, i_load, i_loadR, i_inc, lg, lp, true_and, and_true, List.length_cons, List.length_nil, Nat.reduceAdd, Nat.reduceLeDiff, Nat.zero_le, Int.toNat_natCast, natLit, k0, k18, l18, hc, u1, u2, u3, u4, w (), w4 (), w1 (), w2 (), w3 ()]
  refine ⟨by omega, by omega, by omega, by omega, ?_⟩
  refine hq _ ?_ ?_ (fun a b h1 h2 => ?_)
  · rw [up2_ne (by decide), up2_self, up2_self, up2_self, up2_self]
    refine DA_cons hA (fun i hi => ?_) ?_ ?_ ?_ ?_
    · rw [hcl] at hi
      rw [upf_n (by omega), upf_n (by omega), upf_n (by omega), upf_n (by omega)]
    · rw [hcl, upf_n (by omega), upf_n (by omega), upf_n (by omega), upf_s]
      exact hm
    · rw [hcl, upf_n (by omega), upf_n (by omega), upf_s]
    · rw [hcl, upf_n (by omega), upf_s]
    · rw [hcl, upf_s]
  · rw [up2_self, upf_s, List.length_cons, hcl]
  · rw [up2_at]
    by_cases z : a = 99
    · subst z
      rw [if_pos rfl, if_neg (by omega)]
      rw [up2_ne (by decide), up2_ne (by decide), up2_ne (by decide), up2_ne (by decide)]
    · rw [if_neg z, up2_ne h2, up2_ne h2, up2_ne h2, up2_ne h2]
theorem MR_congr {st st' : St} {n q : Nat} {F : FS} (h : MR st n q F) (e1 : st' 99 14 = st 99 14) (e2 : st' 99 2 = st 99 2) (e3 : st' 99 19 = st 99 19) (e4 : ∀ j, 109 ≤ j → j ≤ 112 → st' j = st j) : MR st' n q F := by
  unfold MR at *
  rw [e1, e2, e3, e4 109 (by decide) (by decide), e4 110 (by decide) (by decide), e4 111 (by decide) (by decide), e4 112 (by decide) (by decide)]
  exact h
theorem sp_mergeNow {d n q i j : Nat} {s : Int} {st : St} {F F' : FS} {D : List Dd} {Q : Rn} (hn : n ≤ 120) (hq4 : q ≤ 4) (hC : LM st n q D F) (hD : D.length < 200) (hi : i < n) (hj : j < n) (hm : mg F i j = some F')
    (hq : ∀ st' : St, LM st' n q ((i, (j : Int), s) :: D) F' → FrD st st' → Q (vi (cR F' n : Nat)) st') : MS (d + 4) 71 [vr 99, vi i, vi j, vi s] st Q := by
  have k0 : kl 99 = 12 := rfl
  obtain ⟨c1, c2, c3, ⟨J, j1, j2⟩, c5, c6, c7⟩ := hC
  refine MS_v [vr 99, vi i, vi j, vi s, none] rfl rfl rfl rfl ?_
  try simp only [awu 71 0, pe71, xs, i_load, i_loadR, i_inc, lg, lp, true_and, and_true, List.length_cons, List.length_nil, Nat.reduceAdd, Nat.reduceLeDiff, Nat.zero_le, Int.toNat_natCast, natLit, k0]
  refine sp_merges hn hq4 c1 c2 c3 hi hj j1 j2 (fun F2 s2 k g1 g2 g3 g4 g5 g6 => ?_) (fun s2 g1 => by rw [hm] at g1; exact (nomatch g1))
  dsimp only
  have e : F' = F2 := Option.some.inj (hm.symm.trans g1)
  subst e
  try simp only [awu 71 0, pe71, xs, i_load, i_loadR, i_inc, lg, lp, true_and, and_true, List.length_cons, List.length_nil, Nat.reduceAdd, Nat.reduceLeDiff, Nat.zero_le, Int.toNat_natCast, natLit, k0]
  have hI := mg_I (q := q) c2 hi hj hm
  have hl := Sm_len g4
  refine sp_write (e := (i, (j : Int), s)) (D := D) (by rw [show s2 118 = st 118 from funext (fun z => g6 118 z (by omega))]; exact c5) (by rw [g6 99 29 (by omega)]; exact c6) hD (by dsimp only; rw [if_neg (by omega)]) (fun s3 y1 y2 y3 => ?_)
  dsimp only
  have m3 : MR s3 n q F' := MR_congr g2 (y3 _ _ (by omega) (by omega)) (y3 _ _ (by omega) (by omega)) (y3 _ _ (by omega) (by omega)) (fun j h1 h2 => by funext z; exact y3 _ _ (by omega) (by omega))
  have e19 := m3.2.2.2.2
  try simp only [awu 71 0, pe71, xs, i_load, i_loadR, i_inc, lg, lp, true_and, and_true, List.length_cons, List.length_nil, Nat.reduceAdd, Nat.reduceLeDiff, Nat.zero_le, Int.toNat_natCast, natLit, k0, e19]
  refine hq s3 ⟨m3, hI.1, hI.2.1 c3, ⟨J + k, ?_, by omega⟩, y1, y2, by simp; omega⟩ (fun a b h => ?_)
  · rw [y3 _ _ (by omega) (by omega)]
    exact g3
  · rw [y3 a b (by omega) (by omega)]
    exact g6 a b (by omega)
theorem MR_rdn {st : St} {n q k : Nat} {F : FS} {v : Int} (hC : MR st n q F) : MR (up2 st 111 k v) n q (rdn F k v) := by
  obtain ⟨h1, h2, h3, h4, h5⟩ := hC
  refine ⟨by rw [up2_ne (by decide)]; exact h1, by rw [up2_ne (by decide)]; exact h2, fun i hi => ?_, fun i hi => by rw [up2_ne (by decide)]; exact h4 i hi, by rw [up2_ne (by decide)]; exact h5⟩
  obtain ⟨q1, q2, q3⟩ := h3 i hi
  rw [up2_ne (by decide), up2_ne (by decide), up2_self]
  refine ⟨q1, q2, ?_⟩
  show upf (st 111) k v i = upf F.2.2.1 k v i
  unfold upf
  split
  · rfl
  · exact q3
theorem sp_mredden {d n q i : Nat} {st : St} {F : FS} {D : List Dd} {Q : Rn} (hn : n ≤ 120) (hC : LM st n q D F) (hD : D.length < 200) (hi : i < n)
    (hq : ∀ st' : St, LM st' n q ((i, -1, 0) :: D) (rdn F i 1) → FrD st st' → Q (vi (cR F n : Nat)) st') : MS (d + 2) 72 [vr 99, vi i] st Q := by
  have k0 : kl 99 = 12 := rfl
  have k11 : kl 111 = 52 := rfl
  have l11 : len 111 = 161 := rfl
  obtain ⟨c1, c2, c3, ⟨J, j1, j2⟩, c5, c6, c7⟩ := hC
  refine MS_v [vr 99, vi i] rfl rfl rfl rfl ?_
  try simp only [awu 72 0, pe72, xs, i_load, i_loadR, i_inc, lg, lp, true_and, and_true, List.length_cons, List.length_nil, Nat.reduceAdd, Nat.reduceLeDiff, Nat.zero_le, Int.toNat_natCast, natLit, k0, k11, l11]
  refine ⟨by omega, ok01_1, ?_⟩
  have m2 := MR_rdn (k := i) (v := 1) c1
  have f2 : ∀ a, a ≠ 111 → up2 st 111 i 1 a = st a := fun a h => up2_ne h
  generalize up2 st 111 i 1 = s2 at *
  refine sp_write (e := (i, -1, 0)) (D := D) (by rw [f2 118 (by decide)]; exact c5) (by rw [f2 99 (by decide)]; exact c6) hD rfl (fun s3 y1 y2 y3 => ?_)
  dsimp only
  have m3 : MR s3 n q (rdn F i 1) := MR_congr m2 (y3 _ _ (by omega) (by omega)) (y3 _ _ (by omega) (by omega)) (y3 _ _ (by omega) (by omega)) (fun j h1 h2 => by funext z; exact y3 _ _ (by omega) (by omega))
  have e19 : s3 99 19 = (cR F n : Nat) := m3.2.2.2.2
  try simp only [awu 72 0, pe72, xs, i_load, i_loadR, i_inc, lg, lp, true_and, and_true, List.length_cons, List.length_nil, Nat.reduceAdd, Nat.reduceLeDiff, Nat.zero_le, Int.toNat_natCast, natLit, k0, e19]
  refine hq s3 ⟨m3, rdn_FI c2 ok01_1, c3, ⟨J, ?_, j2⟩, y1, y2, by simp; omega⟩ (fun a b h => ?_)
  · rw [y3 _ _ (by omega) (by omega), f2 99 (by decide)]
    exact j1
  · rw [y3 a b (by omega) (by omega), f2 a (by omega)]
theorem LM_M {st st' : St} {n q J : Nat} {F : FS} {D : List Dd} (hC : LM st n q D F) (hJ : st 99 24 = J) (h1 : MR st' n q F) (h2 : st' 99 24 = J) (h3 : FrM st st') : LM st' n q D F := by
  obtain ⟨c1, c2, c3, ⟨J', j1, j2⟩, c5, c6, c7⟩ := hC
  refine ⟨h1, c2, c3, ⟨J, h2, by omega⟩, ?_, ?_, c7⟩
  · rw [show st' 118 = st 118 from funext (fun z => h3 118 z (by omega))]
    exact c5
  · rw [h3 99 29 (by omega)]
    exact c6
theorem sp_stepFirst {d n q b : Nat} {st : St} {F : FS} {D : List Dd} {Q : Rn} (hn : n ≤ 120) (hq4 : q ≤ 4) (hC : LM st n q D F) (hD : D.length < 200) (hb : b < n) (hbl : blB F n b = true)
    (hq : ∀ st' : St, LM st' n q ((stpF F n).1 :: D) (stpF F n).2 → FrD st st' → Q (vi (cR (stpF F n).2 n : Nat)) st') : MS (d + 5) 73 [vr 99] st Q := by
  have k0 : kl 99 = 12 := rfl
  have k11 : kl 111 = 52 := rfl
  have l11 : len 111 = 161 := rfl
  have hF := hC.2.1
  have hL := hC.2.2.1
  obtain ⟨b, hfs⟩ : ∃ b, fs (blB F n) n = some b := by
    cases e : fs (blB F n) n with
    | none => rw [fs_none.mp e b hb] at hbl; exact (nomatch hbl)
    | some k => exact ⟨k, rfl⟩
  obtain ⟨hb, hbl, hbf⟩ := fs_some.mp hfs
  obtain ⟨ub, rb⟩ := nrB_d hF hb (blB_nr hbl)
  have key : ∀ m r : Nat, ∀ s2 : St, r + m = n → LM s2 n q D F → FrD st s2 → (∀ i, i < r → rdB F i = true → mg F b i = none) → AW (P 73) Q (MS (d + 4)) 0 (fun _ => 0) 1 [vr 99, vi b, vi r] [] s2 := by
    intro m
    induction m with
    | zero =>
      intro r s2 g1 g2 g3 g4
      have : r = n := by omega
      subst this
      have h14 := g2.1.1
      have e : stpF F r = ((b, -1, 0), rdn F b 1) := by
        unfold stpF
        rw [hfs]
        dsimp only
        rw [fs_none.mpr (fun i hi => ?_)]
        cases hr2 : rdB F i
        · rfl
        · rw [g4 i hi hr2]
          rfl
      rw [e] at hq
      rw [awu 73 1]
      try simp only [awu 73 7, pe73, xs, i_load, i_loadR, i_inc, lg, lp, true_and, and_true, List.length_cons, List.length_nil, Nat.reduceAdd, Nat.reduceLeDiff, Nat.zero_le, Int.toNat_natCast, natLit, k0, h14]
      refine ⟨fun _ => ?_, fun h => by omega⟩
      refine sp_mredden hn g2 hD hb (fun s3 y1 y2 => ?_)
      dsimp only
      try simp only [awu 73 7, pe73, xs, i_load, i_loadR, i_inc, lg, lp, true_and, and_true, List.length_cons, List.length_nil, Nat.reduceAdd, Nat.reduceLeDiff, Nat.zero_le, Int.toNat_natCast, natLit, k0]
      exact hq s3 y1 (FrD_t g3 y2)
    | succ m ih =>
      intro r s2 g1 g2 g3 g4
      have hr : r < n := by omega
      have h14 := g2.1.1
      have w : Unit → wr ((r : Int) + 1) = ((r + 1 : Nat) : Int) := fun _ => by rw [wr_id (by omega) (by omega)]; omega
      obtain ⟨m1, m2⟩ := sp_mred (d := d) (kk := 0) (b1 := 0) (b2 := 0) (b3 := 0) hn g2.1 hF hr
      have nxt : ∀ s3 : St, LM s3 n q D F → FrD st s3 → (rdB F r = true → mg F b r = none) → AW (P 73) Q (MS (d + 4)) 0 (fun _ => 0) 6 [vr 99, vi b, vi r] [] s3 := by
        intro s3 y1 y2 y3
        rw [awu 73 6]
        try simp only [awu 73 6, pe73, xs, i_load, i_loadR, i_inc, lg, lp, true_and, and_true, List.length_cons, List.length_nil, Nat.reduceAdd, Nat.reduceLeDiff, Nat.zero_le, Int.toNat_natCast, natLit, k0, w ()]
        refine ih (r + 1) s3 (by omega) y1 y2 (fun i h1 h2 => ?_)
        rcases Nat.lt_or_ge i r with z | z
        · exact g4 i z h2
        · have : i = r := by omega
          subst this
          exact y3 h2
      rw [awu 73 1]
      try simp only [awu 73 2, pe73, xs, i_load, i_loadR, i_inc, lg, lp, true_and, and_true, List.length_cons, List.length_nil, Nat.reduceAdd, Nat.reduceLeDiff, Nat.zero_le, Int.toNat_natCast, natLit, k0, h14]
      refine ⟨fun h => by omega, fun _ => ?_⟩
      refine sp_mname hn g2.1 (fun h => ?_) (fun h => ?_)
      · rw [isN_nat hr] at h
        dsimp only
        try simp only [awu 73 3, awu 73 4, pe73, xs, i_load, i_loadR, i_inc, lg, lp, true_and, and_true, List.length_cons, List.length_nil, Nat.reduceAdd, Nat.reduceLeDiff, Nat.zero_le, Int.toNat_natCast, natLit, k0, k11, l11, m1 h]
        refine ⟨fun h => absurd h (by decide), fun _ => ⟨by omega, ?_⟩⟩
        by_cases hrd : rdB F r = true
        · rw [if_pos hrd]
          refine ⟨fun h => absurd h (by decide), fun _ => ?_⟩
          obtain ⟨J, j1, j2⟩ := g2.2.2.2.1
          refine sp_scoreOf hn hq4 g2.1 hF hL hb hr j1 j2 ⟨Int.le_refl _, by decide⟩ (fun s3 y1 y2 y3 => ?_)
          dsimp only
          have g3' := LM_M g2 j1 y1 y2 y3
          have g3'' := FrD_t g3 (FrM_D y3)
          have hs := (scr_b (how := 0) hF hb hr).1
          try simp only [awu 73 5, pe73, xs, i_load, i_loadR, i_inc, lg, lp, true_and, and_true, List.length_cons, List.length_nil, Nat.reduceAdd, Nat.reduceLeDiff, Nat.zero_le, Int.toNat_natCast, natLit, k0]
          refine ⟨fun h3 => nxt s3 g3' g3'' (fun _ => hs.mp h3), fun h3 => ?_⟩
          obtain ⟨F', hF'⟩ := Option.ne_none_iff_exists'.mp (fun z => h3 (hs.mpr z))
          have e : stpF F n = ((b, (r : Int), 0), F') := by
            unfold stpF
            rw [hfs]
            dsimp only
            have : fs (fun r => rdB F r && (mg F b r).isSome) n = some r := fs_some.mpr ⟨hr, by rw [hrd, hF']; rfl, fun i hi => by
              cases hi2 : rdB F i
              · rfl
              · rw [g4 i hi hi2]
                rfl⟩
            rw [this]
            dsimp only
            rw [hF']
            rfl
          rw [e] at hq
          refine sp_mergeNow hn hq4 g3' hD hb hr hF' (fun s4 x1 x2 => ?_)
          dsimp only
          try simp only [awu 73 5, pe73, xs, i_load, i_loadR, i_inc, lg, lp, true_and, and_true, List.length_cons, List.length_nil, Nat.reduceAdd, Nat.reduceLeDiff, Nat.zero_le, Int.toNat_natCast, natLit, k0]
          exact hq s4 x1 (FrD_t g3'' x2)
        · rw [if_neg hrd]
          exact ⟨fun _ => nxt s2 g2 g3 (fun h => absurd h hrd), fun h => absurd rfl h⟩
      · rw [isN_nat hr] at h
        dsimp only
        try simp only [awu 73 2, pe73, xs, i_load, i_loadR, i_inc, lg, lp, true_and, and_true, List.length_cons, List.length_nil, Nat.reduceAdd, Nat.reduceLeDiff, Nat.zero_le, Int.toNat_natCast, natLit, k0]
        exact ⟨fun _ => nxt s2 g2 g3 (fun h2 => by rw [m2 h] at h2; exact (nomatch h2)), fun h => absurd trivial h⟩
  refine MS_v [vr 99, none, none] rfl rfl rfl rfl ?_
  try simp only [awu 73 0, pe73, xs, i_load, i_loadR, i_inc, lg, lp, true_and, and_true, List.length_cons, List.length_nil, Nat.reduceAdd, Nat.reduceLeDiff, Nat.zero_le, Int.toNat_natCast, natLit, k0]
  refine sp_lblue hn hq4 hC.1 hF hL (Nat.zero_le _) (fun r hr => ?_)
  dsimp only
  rcases hr with ⟨-, h2⟩ | ⟨k, h1, h2, h3, h4, h5⟩
  · rw [h2 b (Nat.zero_le _) hb] at hbl
    exact (nomatch hbl)
  · have : k = b := by
      have := fs_some.mpr ⟨h3, h4, fun j hj => h5 j (Nat.zero_le _) hj⟩
      rw [hfs] at this
      exact (Option.some.inj this).symm
    subst this
    rw [h1]
    try simp only [awu 73 0, pe73, xs, i_load, i_loadR, i_inc, lg, lp, true_and, and_true, List.length_cons, List.length_nil, Nat.reduceAdd, Nat.reduceLeDiff, Nat.zero_le, Int.toNat_natCast, natLit, k0]
    exact key n 0 st (by omega) hC FrD_r (fun i hi => by omega)
