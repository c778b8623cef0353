/-! the least machine: the reference -/
def nbI (g f : Nat → Nat) (h v : Nat) : Int := match fs (fun j => g (f j) == v) h with
  | some j => (j : Int)
  | none => -1
def NB (st : St) (M : MC) (a c : Nat) (g f : Nat → Nat) (h : Nat) : Prop := (∀ j, j < h → st 139 j = (f j : Nat) ∧ f j ≤ M.1 ∧ rcB M a (gx M (f j)) = true) ∧ (∀ i j, i < h → j < h → g (f i) = g (f j) → i = j) ∧ ∀ v, v < c → st 140 v = nbI g f h v
theorem NB_le {st : St} {M : MC} {a c h : Nat} {g f : Nat → Nat} (hN : NB st M a c g f h) (hg : ∀ s, s ≤ M.1 → rcB M a (gx M s) = true → g s < c) : h ≤ c := by
  have := cn_ij (p := fun _ => true) (q := fun _ => true) (n := h) (m := c) (f := fun j => g (f j)) (fun j hj _ => ⟨hg _ (hN.1 j hj).2.1 (hN.1 j hj).2.2, rfl⟩) (fun i j hi hj _ _ e => hN.2.1 i j hi hj e)
  rw [cn_all (fun _ _ => rfl), cn_all (fun _ _ => rfl)] at this
  exact this
theorem nbI_some {g f : Nat → Nat} {h v i : Nat} (hu : ∀ i j, i < h → j < h → g (f i) = g (f j) → i = j) (hi : i < h) (e : g (f i) = v) : nbI g f h v = (i : Nat) := by
  unfold nbI
  have : fs (fun j => g (f j) == v) h = some i := by
    rw [fs_some]
    refine ⟨hi, by rw [e]; exact beq_self_eq_true _, fun j hj => ?_⟩
    rw [beq_eq_false_iff_ne]
    intro e'
    have := hu i j hi (by omega) (by rw [e, e'])
    omega
  rw [this]
theorem nbI_none {g f : Nat → Nat} {h v : Nat} (hn : ∀ i, i < h → g (f i) ≠ v) : nbI g f h v = -1 := by
  unfold nbI
  have : fs (fun j => g (f j) == v) h = none := by
    rw [fs_none]
    intro j hj
    exact beq_eq_false_iff_ne.mpr (hn j hj)
  rw [this]
theorem nbI_d {g f : Nat → Nat} {h v : Nat} : (∃ i : Nat, i < h ∧ g (f i) = v ∧ nbI g f h v = i) ∨ ((∀ i, i < h → g (f i) ≠ v) ∧ nbI g f h v = -1) := by
  unfold nbI
  cases e : fs (fun j => g (f j) == v) h with
  | some j =>
    have := fs_some.mp e
    exact Or.inl ⟨j, this.1, by simpa using this.2.1, rfl⟩
  | none =>
    refine Or.inr ⟨fun i hi e' => ?_, rfl⟩
    have := fs_none.mp e i hi
    rw [e'] at this
    simp at this
theorem sp_numSort {d a c h s : Nat} {st : St} {M : MC} {g f : Nat → Nat} {Q : Rn} (hN : M.1 ≤ 200) (hc : c ≤ 200) (hg : ∀ i, i ≤ M.1 → st 137 i = (g i : Nat)) (hgc : ∀ s, s ≤ M.1 → rcB M a (gx M s) = true → g s < c) (hB : NB st M a c g f h) (hs : s ≤ M.1) (hr : rcB M a (gx M s) = true)
    (h1 : ∀ i, i < h → g (f i) = g s → Q (vi (h : Nat)) st)
    (h0 : ∀ st' : St, (∀ i, i < h → g (f i) ≠ g s) → h < c → NB st' M a c g (updN f h s) (h + 1) → (∀ q, q ≠ 139 → q ≠ 140 → st' q = st q) → Q (vi (h + 1 : Nat)) st') : MS (d + 1) 138 [vr 99, vi s, vi h] st Q := by
  have k0 : kl 99 = 12 := rfl
  have k37 : kl 137 = 50 := rfl
  have l37 : len 137 = 201 := rfl
  have k39 : kl 139 = 50 := rfl
  have l39 : len 139 = 201 := rfl
  have k40 : kl 140 = 50 := rfl
  have l40 : len 140 = 201 := rfl
  have eg := hg s hs
  have hgs := hgc s hs hr
  have e40 := hB.2.2 (g s) hgs
  have hhc := NB_le hB hgc
  refine MS_v [vr 99, vi s, vi h] rfl rfl rfl rfl ?_
  rcases nbI_d (g := g) (f := f) (h := h) (v := g s) with ⟨i, i1, i2, i3⟩ | ⟨i2, i3⟩
  · rw [i3] at e40
    try simp only [awu 138 0, awu 138 1, pe138, xs, i_load, i_loadR, i_inc, lg, lp, true_and, and_true, List.length_cons, List.length_nil, Nat.reduceAdd, Nat.reduceLeDiff, Nat.zero_le, Int.toNat_natCast, natLit, k0, k37, l37, k40, l40, eg, e40]
    exact ⟨by omega, by omega, fun h => by omega, fun _ => h1 i i1 i2⟩
  · rw [i3] at e40
    have hlt : h < c := by
      have hB' : NB (up2 (up2 st 140 (g s) (h : Nat)) 139 h (s : Nat)) M a c g (updN f h s) (h + 1) ∨ True := Or.inr trivial
      have := cn_ij (p := fun _ => true) (q := fun _ => true) (n := h + 1) (m := c) (f := fun j => g (updN f h s j)) (fun j hj _ => by
        refine ⟨?_, rfl⟩
        show g (updN f h s j) < c
        rw [updN_at]
        split
        · exact hgs
        · exact hgc _ (hB.1 j (by omega)).2.1 (hB.1 j (by omega)).2.2) (fun i j hi hj _ _ e => by
        have e : g (updN f h s i) = g (updN f h s j) := e
        rw [updN_at, updN_at] at e
        by_cases zi : i = h
        · by_cases zj : j = h
          · omega
          · rw [if_pos zi, if_neg zj] at e
            exact absurd e.symm (i2 j (by omega))
        · by_cases zj : j = h
          · rw [if_neg zi, if_pos zj] at e
            exact absurd e (i2 i (by omega))
          · rw [if_neg zi, if_neg zj] at e
            exact hB.2.1 i j (by omega) (by omega) e)
      rw [cn_all (fun _ _ => rfl), cn_all (fun _ _ => rfl)] at this
      omega
    have wh : Unit → wr ((h : Int) + 1) = ((h + 1 : Nat) : Int) := fun _ => by rw [wr_id (by omega) (by omega)]; omega
    try simp only [awu 138 0, awu 138 2, pe138, xs, i_load, i_loadR, i_inc, lg, lp, true_and, and_true, List.length_cons, List.length_nil, Nat.reduceAdd, Nat.reduceLeDiff, Nat.zero_le, Int.toNat_natCast, natLit, k0, k37, l37, k39, l39, k40, l40, eg, e40, wh ()]
    refine ⟨by omega, by omega, fun _ => ⟨by omega, by omega, by omega, ?_⟩, fun h => absurd (by trivial) h⟩
    refine h0 _ i2 hlt ⟨fun j hj => ?_, fun i j hi hj e => ?_, fun v hv => ?_⟩ (fun q q1 q2 => by rw [up2_ne q1, up2_ne q2])
    · rw [up2_self, updN_at]
      by_cases z : j = h
      · rw [z, upf_s, if_pos rfl]
        exact ⟨rfl, hs, hr⟩
      · rw [upf_n z, if_neg z, up2_ne (by decide)]
        exact hB.1 j (by omega)
    · rw [updN_at, updN_at] at e
      by_cases zi : i = h
      · by_cases zj : j = h
        · omega
        · rw [if_pos zi, if_neg zj] at e
          exact absurd e.symm (i2 j (by omega))
      · by_cases zj : j = h
        · rw [if_neg zi, if_pos zj] at e
          exact absurd e (i2 i (by omega))
        · rw [if_neg zi, if_neg zj] at e
          exact hB.2.1 i j (by omega) (by omega) e
    · rw [up2_ne (by decide), up2_self]
      have hu : ∀ i j, i < h + 1 → j < h + 1 → g (updN f h s i) = g (updN f h s j) → i = j := by
        intro i j hi hj e
        rw [updN_at, updN_at] at e
        by_cases zi : i = h
        · by_cases zj : j = h
          · omega
          · rw [if_pos zi, if_neg zj] at e
            exact absurd e.symm (i2 j (by omega))
        · by_cases zj : j = h
          · rw [if_neg zi, if_pos zj] at e
            exact absurd e (i2 i (by omega))
          · rw [if_neg zi, if_neg zj] at e
            exact hB.2.1 i j (by omega) (by omega) e
      by_cases zv : v = g s
      · rw [zv, upf_s, nbI_some hu (show h < h + 1 by omega) (by rw [updN_at, if_pos rfl])]
      · rw [upf_n zv, hB.2.2 v hv]
        rcases nbI_d (g := g) (f := f) (h := h) (v := v) with ⟨i, j1, j2, j3⟩ | ⟨j2, j3⟩
        · rw [j3, nbI_some hu (show i < h + 1 by omega) (by rw [updN_at, if_neg (by omega)]; exact j2)]
        · rw [j3, nbI_none (fun i hi => by
            rw [updN_at]
            split
            · exact fun e => zv e.symm
            · exact j2 i (by omega))]
def TI (M : MC) (a : Nat) (g f : Nat → Nat) (h k l : Nat) (mk ar : Nat → Int) : Prop := (∀ s, s < k → mk s = if inM M (gx M (f s)) then 1 else 2) ∧ (∀ s j, s < k → j < 4 → a ≤ j → ar (4 * s + j) = -1) ∧ (∀ p j, lx p j k l → j < a → ∃ i : Nat, i < h ∧ ar (4 * p + j) = i ∧ g (f i) = g (sq M (f p) j)) ∧ ∀ j, 0 < j → j < h → ∃ p q, p < j ∧ q < a ∧ lx p q k l ∧ ar (4 * p + q) = (j : Nat) ∧ ∀ p' q', lx p' q' p q → q' < a → ar (4 * p' + q') < (j : Nat)
def FrU (st st' : St) : Prop := ∀ q i, ¬ (136 ≤ q ∧ q ≤ 140) → ¬ (q = 119 ∧ 4 ≤ i) → ¬ (q = 120 ∧ 800 ≤ i) → ¬ (q = 121 ∧ 3200 ≤ i) → st' q i = st q i
set_option maxHeartbeats 2000000 in
theorem sp_mtight {d m a : Nat} {st : St} {M : MC} {Q : Rn} {u2 u3 u4 u5 u6 : V} (hM : MCm st m M) (hm : m ≤ 3) (hW : MW a M) (ha : a ≤ 4) (m0 : 0 < M.1) (hl : st 99 2 = a) (hcap : ∀ c, NCp M a c → c ≤ 200)
    (hq : ∀ (st' : St) (T : MC), TT M a T → MCm st' 3 T → (∀ q i, ¬ (136 ≤ q ∧ q ≤ 140) → ¬ (q = 119 ∧ 3 ≤ i) → ¬ (q = 120 ∧ 600 ≤ i) → ¬ (q = 121 ∧ 2400 ≤ i) → st' q i = st q i) → Q (vi (T.1 : Nat)) st') : AW (P 139) Q (MS (d + 4)) 0 (fun _ => 0) 2 [vr 99, vi m, u2, u3, u4, u5, u6] [] st := by
  have k0 : kl 99 = 12 := rfl
  have k19 : kl 119 = 50 := rfl
  have l19 : len 119 = 5 := rfl
  have k20 : kl 120 = 50 := rfl
  have l20 : len 120 = 1000 := rfl
  have k37 : kl 137 = 50 := rfl
  have l37 : len 137 = 201 := rfl
  have k39 : kl 139 = 50 := rfl
  have l39 : len 139 = 201 := rfl
  have k40 : kl 140 = 50 := rfl
  have l40 : len 140 = 201 := rfl
  have hN := hM.2.1
  rw [awu 139 2]
  try simp only [awu 139 2, pe139, xs, i_load, i_loadR, i_inc, lg, lp, true_and, and_true, List.length_cons, List.length_nil, Nat.reduceAdd, Nat.reduceLeDiff, Nat.zero_le, Int.toNat_natCast, natLit, k0]
  refine sp_laySorts hM (by omega) hW ha m0 hl (fun s1 g c y1 y2 y3 => ?_)
  dsimp only
  have hc := hcap c (KM_NC hW ha m0 y2)
  have hgc := y2.2.1
  have fr0 : FrU st s1 := fun q i q1 _ _ _ => by rw [y3 q (by omega) (by omega) (by omega)]
  have fr : ∀ s2 : St, FrU st s2 → MCm s2 m M ∧ s2 99 2 = a := fun s2 h => ⟨MCm_congr hM (h 119 m (by omega) (by omega) (by omega) (by omega)) (fun i _ _ => h 120 i (by omega) (by omega) (by omega) (by omega)) (fun i _ _ => h 121 i (by omega) (by omega) (by omega) (by omega)), by rw [h 99 2 (by omega) (by omega) (by omega) (by omega)]; exact hl⟩
  have key : ∀ mm k : Nat, ∀ (s2 : St) (f : Nat → Nat) (h : Nat) (u5 u6 : V), k + mm = 201 → k ≤ h → 0 < h → f 0 = 0 → FrU st s2 → (∀ i, i ≤ M.1 → s2 137 i = (g i : Nat)) → NB s2 M a c g f h → TI M a g f h k 0 (fun s => s2 120 (800 + s)) (fun i => s2 121 (3200 + i)) → AW (P 139) Q (MS (d + 4)) 0 (fun _ => 0) 6 [vr 99, vi m, vi c, vi h, vi k, u5, u6] [] s2 := by
    intro mm
    induction mm with
    | zero =>
      intro k s2 f h u5 u6 g1 g2 g3 g4 g5 g6 g7 g8
      have := NB_le g7 hgc
      omega
    | succ mm ih =>
      intro k s2 f h u5 u6 g1 g2 g3 g4 g5 g6 g7 g8
      have hhc := NB_le g7 hgc
      by_cases hk : k = h
      · subst hk
        have hTT : TT M a (k, fun s => s2 120 (800 + s), fun i => s2 121 (3200 + i)) := by
          refine ⟨fun j => gx M (f j), g3, by show gx M (f 0) = 0; rw [g4, gx_s m0]; rfl, g8.1, fun j l hj hl => ?_, fun i j hi hj e => ?_, fun j hj0 hj => ?_, fun j l hj hl hl4 => g8.2.1 j l hj hl4 hl⟩
          · obtain ⟨i, i1, i2, i3⟩ := g8.2.2.1 j l (Or.inl hj) hl
            refine ⟨i, i1, i2, ?_⟩
            show Nq M a (gx M (f i)) (fo M (gx M (f j)) l)
            rw [← sq_x hW hl ha]
            exact (y2.1 _ _ (g7.1 i i1).2.1 (sq_b hW hl ha) (g7.1 i i1).2.2 (rc_sq hW ha hl (g7.1 j hj).2.2)).mp i3
          · exact g7.2.1 i j hi hj ((y2.1 _ _ (g7.1 i hi).2.1 (g7.1 j hj).2.1 (g7.1 i hi).2.2 (g7.1 j hj).2.2).mpr e)
          · obtain ⟨p, q, p1, p2, _, p4, p5⟩ := g8.2.2.2 j hj0 hj
            exact ⟨p, q, p1, p2, p4, p5⟩
        rw [awu 139 6]
        try simp only [awu 139 20, pe139, xs, i_load, i_loadR, i_inc, lg, lp, true_and, and_true, List.length_cons, List.length_nil, Nat.reduceAdd, Nat.reduceLeDiff, Nat.zero_le, Int.toNat_natCast, natLit, k0, k19, l19]
        refine ⟨fun _ => ⟨by omega, ?_⟩, fun h => absurd (Int.le_refl _) h⟩
        refine sp_mcopy (f := 4) (t := 3) (M := (k, fun s => s2 120 (800 + s), fun i => s2 121 (3200 + i))) ⟨?_, by show k ≤ 200; omega, fun s hs => ?_, fun i hi => ?_⟩ (by decide) (by decide) (by decide) (fun s3 w1 w2 => ?_)
        · rw [up2_self, show ((4 : Int)).toNat = 4 from rfl, upf_s]
        · rw [up2_ne (by decide)]
        · rw [up2_ne (by decide)]
        · dsimp only
          try simp only [awu 139 20, pe139, xs, i_load, i_loadR, i_inc, lg, lp, true_and, and_true, List.length_cons, List.length_nil, Nat.reduceAdd, Nat.reduceLeDiff, Nat.zero_le, Int.toNat_natCast, natLit, k0]
          refine hq s3 _ hTT w1 (fun q i q1 q2 q3 q4 => ?_)
          rw [w2 q i (by omega) (by omega) (by omega), up2_at]
          by_cases z : q = 119
          · subst z
            rw [if_pos rfl, if_neg (by rw [show ((4 : Int)).toNat = 4 from rfl]; omega)]
            exact g5 119 i (by omega) (by omega) (by omega) (by omega)
          · rw [if_neg z]
            exact g5 q i q1 (by omega) (by omega) (by omega)
      · have hk : k < h := by omega
        obtain ⟨fk1, fk2, fk3⟩ := g7.1 k hk
        obtain ⟨f1, f2⟩ := fr s2 g5
        have e19 := f1.1
        have wk : Unit → wr ((k : Int) + 1) = ((k + 1 : Nat) : Int) := fun _ => by rw [wr_id (by omega) (by omega)]; omega
        have w800 : Unit → wr (800 + (k : Int)) = ((800 + k : Nat) : Int) := fun _ => by rw [wr_id (by omega) (by omega)]; omega
        generalize hfk : f k = s at *
        -- the letters
        have lets : ∀ mm l : Nat, ∀ (s3 : St) (f : Nat → Nat) (h : Nat), l + mm = 4 → k < h → f 0 = 0 → f k = s → FrU st s3 → (∀ i, i ≤ M.1 → s3 137 i = (g i : Nat)) → NB s3 M a c g f h → TI M a g f h k (min l a) (fun s => s3 120 (800 + s)) (fun i => s3 121 (3200 + i)) → s3 120 (800 + k) = (if inM M (gx M s) then 1 else 2) → (∀ j, a ≤ j → j < l → s3 121 (3200 + (4 * k + j)) = -1) → AW (P 139) Q (MS (d + 4)) 0 (fun _ => 0) 12 [vr 99, vi m, vi c, vi h, vi k, vi s, vi l] [] s3 := by
          intro mm
          induction mm with
          | zero =>
            intro l s3 f h x1 x2 x3 x4 x5 x6 x7 x8 x9 x10
            have : l = 4 := by omega
            subst this
            rw [show min 4 a = a by omega] at x8
            rw [awu 139 12]
            try simp only [awu 139 19, pe139, xs, i_load, i_loadR, i_inc, lg, lp, true_and, and_true, List.length_cons, List.length_nil, Nat.reduceAdd, Nat.reduceLeDiff, Nat.zero_le, Int.toNat_natCast, natLit, k0, wk ()]
            refine ⟨fun _ => ih (k + 1) s3 f h _ _ (by omega) (by omega) (by omega) x3 x5 x6 x7 ⟨fun t ht => ?_, fun t j ht hj ha' => ?_, fun p j hp hj => x8.2.2.1 p j (by unfold lx at *; omega) hj, fun j hj0 hj => ?_⟩, fun h => absurd (by decide) h⟩
            · by_cases z : t = k
              · rw [z, x4]
                exact x9
              · exact x8.1 t (by omega)
            · by_cases z : t = k
              · rw [z]
                exact x10 j ha' hj
              · exact x8.2.1 t j (by omega) hj ha'
            · obtain ⟨p, q, p1, p2, p3, p4, p5⟩ := x8.2.2.2 j hj0 hj
              exact ⟨p, q, p1, p2, by unfold lx at *; omega, p4, p5⟩
          | succ mm ihl =>
            intro l s3 f h x1 x2 x3 x4 x5 x6 x7 x8 x9 x10
            obtain ⟨f1, f2⟩ := fr s3 x5
            have hhc := NB_le x7 hgc
            have wl' : Unit → wr ((l : Int) + 1) = ((l + 1 : Nat) : Int) := fun _ => by rw [wr_id (by omega) (by omega)]; omega
            rcases Nat.lt_or_ge l a with zl | zl
            · rw [show min l a = l by omega] at x8
              have hb := sq_b (s := s) hW zl ha
              have hr := rc_sq hW ha zl fk3
              have hgl := hgc _ hb hr
              -- then the arrow is put
              have arr : ∀ (s4 : St) (f : Nat → Nat) (h i : Nat), k < h → f 0 = 0 → f k = s → FrU st s4 → (∀ i, i ≤ M.1 → s4 137 i = (g i : Nat)) → NB s4 M a c g f h → i < h → g (f i) = g (sq M s l) → TI M a g f h k (l + 1) (fun s => s4 120 (800 + s)) (fun j => if j = 4 * k + l then (i : Int) else s4 121 (3200 + j)) → s4 120 (800 + k) = (if inM M (gx M s) then 1 else 2) → AW (P 139) Q (MS (d + 4)) 0 (fun _ => 0) 15 [vr 99, vi m, vi c, vi h, vi k, vi s, vi l] [] s4 := by
                intro s4 f h i v1 v2 v3 v4 v5 v6 v7 v8 v9 v10
                obtain ⟨f1, f2⟩ := fr s4 v4
                have hhc := NB_le v6 hgc
                have eg := v5 (sq M s l) hb
                have e40 : s4 140 (g (sq M s l)) = (i : Nat) := by
                  rw [v6.2.2 _ hgl]
                  exact nbI_some v6.2.1 v7 v8
                rw [awu 139 15]
                try simp only [awu 139 16, pe139, xs, i_load, i_loadR, i_inc, lg, lp, true_and, and_true, List.length_cons, List.length_nil, Nat.reduceAdd, Nat.reduceLeDiff, Nat.zero_le, Int.toNat_natCast, natLit, k0, f2]
                refine ⟨fun h => by omega, fun _ => ?_⟩
                refine sp_stepOf f1 (by omega) hW ha fk2 zl ?_
                dsimp only
                try simp only [awu 139 16, awu 139 18, pe139, xs, i_load, i_loadR, i_inc, lg, lp, true_and, and_true, List.length_cons, List.length_nil, Nat.reduceAdd, Nat.reduceLeDiff, Nat.zero_le, Int.toNat_natCast, natLit, k0, k37, l37, eg, k40, l40, e40]
                refine ⟨by omega, by omega, ?_⟩
                refine sp_putArrow (m := 4) (v := ((i : Nat) : Int)) (by decide) (show k < 200 by omega) (show l < 4 by omega) ?_
                dsimp only
                try simp only [awu 139 18, pe139, xs, i_load, i_loadR, i_inc, lg, lp, true_and, and_true, List.length_cons, List.length_nil, Nat.reduceAdd, Nat.reduceLeDiff, Nat.zero_le, Int.toNat_natCast, natLit, k0, wl' ()]
                refine ihl (l + 1) _ f h (by omega) v1 v2 v3 (fun q j q1 q2 q3 q4 => ?_) (fun j hj => by rw [up2_ne (by decide)]; exact v5 j hj) ⟨fun j hj => by rw [up2_ne (by decide)]; exact v6.1 j hj, v6.2.1, fun v hv => by rw [up2_ne (by decide)]; exact v6.2.2 v hv⟩ ?_ (by rw [up2_ne (by decide)]; exact v10) (fun j j1 j2 => by omega)
                · rw [up2_at]
                  by_cases z : q = 121
                  · subst z
                    rw [if_pos rfl, if_neg (by omega)]
                    exact v4 121 j q1 q2 q3 q4
                  · rw [if_neg z]
                    exact v4 q j q1 q2 q3 q4
                · rw [show min (l + 1) a = l + 1 by omega]
                  have em : (fun s => up2 s4 121 (800 * 4 + (4 * k + l)) ((i : Nat) : Int) 120 (800 + s)) = (fun s => s4 120 (800 + s)) := by
                    funext s
                    rw [up2_ne (by decide)]
                  have ea : (fun j => up2 s4 121 (800 * 4 + (4 * k + l)) ((i : Nat) : Int) 121 (3200 + j)) = (fun j => if j = 4 * k + l then (i : Int) else s4 121 (3200 + j)) := by
                    funext j
                    rw [up2_self]
                    by_cases z : j = 4 * k + l
                    · rw [if_pos z, z, show 3200 + (4 * k + l) = 800 * 4 + (4 * k + l) by omega, upf_s]
                    · rw [if_neg z, upf_n (by omega)]
                  rw [em, ea]
                  exact v9
              rw [awu 139 12]
              try simp only [awu 139 13, awu 139 14, pe139, xs, i_load, i_loadR, i_inc, lg, lp, true_and, and_true, List.length_cons, List.length_nil, Nat.reduceAdd, Nat.reduceLeDiff, Nat.zero_le, Int.toNat_natCast, natLit, k0, f2]
              refine ⟨fun h => by omega, fun _ => ⟨fun h => by omega, fun _ => ?_⟩⟩
              refine sp_stepOf f1 (by omega) hW ha fk2 zl ?_
              dsimp only
              try simp only [awu 139 14, pe139, xs, i_load, i_loadR, i_inc, lg, lp, true_and, and_true, List.length_cons, List.length_nil, Nat.reduceAdd, Nat.reduceLeDiff, Nat.zero_le, Int.toNat_natCast, natLit, k0]
              refine sp_numSort hN hc x6 hgc x7 hb hr (fun i i1 i2 => ?_) (fun s4 n1 n2 n3 n4 => ?_)
              · dsimp only
                try simp only [awu 139 14, pe139, xs, i_load, i_loadR, i_inc, lg, lp, true_and, and_true, List.length_cons, List.length_nil, Nat.reduceAdd, Nat.reduceLeDiff, Nat.zero_le, Int.toNat_natCast, natLit, k0]
                refine arr s3 f h i x2 x3 x4 x5 x6 x7 i1 i2 ⟨x8.1, fun t j ht hj ha' => ?_, fun p j hp hj => ?_, fun j hj0 hj => ?_⟩ x9
                · dsimp only
                  rw [if_neg (by omega)]
                  exact x8.2.1 t j ht hj ha'
                · by_cases z : p = k ∧ j = l
                  · obtain ⟨rfl, rfl⟩ := z
                    dsimp only
                    rw [if_pos rfl, x4]
                    exact ⟨i, i1, rfl, i2⟩
                  · dsimp only
                    rw [if_neg (by unfold lx at hp; omega)]
                    exact x8.2.2.1 p j (by unfold lx at *; omega) hj
                · obtain ⟨p, q, p1, p2, p3, p4, p5⟩ := x8.2.2.2 j hj0 hj
                  refine ⟨p, q, p1, p2, by unfold lx at *; omega, by dsimp only; rw [if_neg (by unfold lx at p3; omega)]; exact p4, fun p' q' hp' hq' => ?_⟩
                  dsimp only
                  rw [if_neg (by unfold lx at *; omega)]
                  exact p5 p' q' hp' hq'
              · dsimp only
                try simp only [awu 139 14, pe139, xs, i_load, i_loadR, i_inc, lg, lp, true_and, and_true, List.length_cons, List.length_nil, Nat.reduceAdd, Nat.reduceLeDiff, Nat.zero_le, Int.toNat_natCast, natLit, k0]
                have n5 : ∀ j, j < h → updN f h (sq M s l) j = f j := fun j hj => by rw [updN_at, if_neg (by omega)]
                refine arr s4 (updN f h (sq M s l)) (h + 1) h (by omega) (by rw [n5 0 (by omega)]; exact x3) (by rw [n5 k x2]; exact x4) (fun q i q1 q2 q3 q4 => by rw [n4 q (by omega) (by omega)]; exact x5 q i q1 q2 q3 q4) (fun j hj => by rw [n4 137 (by decide) (by decide)]; exact x6 j hj) n3 (by omega) (by rw [updN_at, if_pos rfl]) ⟨fun t ht => ?_, fun t j ht hj ha' => ?_, fun p j hp hj => ?_, fun j hj0 hj => ?_⟩ (by rw [n4 120 (by decide) (by decide)]; exact x9)
                · dsimp only
                  rw [n5 t (by omega), n4 120 (by decide) (by decide)]
                  exact x8.1 t ht
                · dsimp only
                  rw [if_neg (by omega), n4 121 (by decide) (by decide)]
                  exact x8.2.1 t j ht hj ha'
                · by_cases z : p = k ∧ j = l
                  · obtain ⟨rfl, rfl⟩ := z
                    dsimp only
                    rw [if_pos rfl, n5 p x2, x4]
                    exact ⟨h, by omega, rfl, by rw [updN_at, if_pos rfl]⟩
                  · dsimp only
                    rw [if_neg (by unfold lx at hp; omega), n4 121 (by decide) (by decide)]
                    obtain ⟨i, i1, i2, i3⟩ := x8.2.2.1 p j (by unfold lx at *; omega) hj
                    exact ⟨i, by omega, i2, by rw [n5 i i1, n5 p (by unfold lx at hp; omega)]; exact i3⟩
                · by_cases z : j = h
                  · refine ⟨k, l, by omega, zl, by unfold lx; omega, by dsimp only; rw [if_pos rfl, z], fun p' q' hp' hq' => ?_⟩
                    dsimp only
                    rw [if_neg (by unfold lx at hp'; omega), n4 121 (by decide) (by decide)]
                    obtain ⟨i, i1, i2, _⟩ := x8.2.2.1 p' q' hp' hq'
                    have i2 : s3 121 (3200 + (4 * p' + q')) = (i : Nat) := i2
                    rw [i2]
                    omega
                  · obtain ⟨p, q, p1, p2, p3, p4, p5⟩ := x8.2.2.2 j hj0 (by omega)
                    refine ⟨p, q, p1, p2, by unfold lx at *; omega, by dsimp only; rw [if_neg (by unfold lx at p3; omega), n4 121 (by decide) (by decide)]; exact p4, fun p' q' hp' hq' => ?_⟩
                    dsimp only
                    rw [if_neg (by unfold lx at *; omega), n4 121 (by decide) (by decide)]
                    exact p5 p' q' hp' hq'
            · rw [show min l a = a by omega] at x8
              rw [awu 139 12]
              try simp only [awu 139 13, awu 139 15, awu 139 17, awu 139 18, pe139, xs, i_load, i_loadR, i_inc, lg, lp, true_and, and_true, List.length_cons, List.length_nil, Nat.reduceAdd, Nat.reduceLeDiff, Nat.zero_le, Int.toNat_natCast, natLit, k0, f2]
              refine ⟨fun h => by omega, fun _ => ⟨fun _ => ⟨fun _ => ?_, fun h => absurd (by omega) h⟩, fun h => absurd (by omega) h⟩⟩
              refine sp_putArrow (m := 4) (by decide) (show k < 200 by omega) (show l < 4 by omega) ?_
              dsimp only
              try simp only [awu 139 18, pe139, xs, i_load, i_loadR, i_inc, lg, lp, true_and, and_true, List.length_cons, List.length_nil, Nat.reduceAdd, Nat.reduceLeDiff, Nat.zero_le, Int.toNat_natCast, natLit, k0, wl' ()]
              refine ihl (l + 1) _ f h (by omega) x2 x3 x4 (fun q j q1 q2 q3 q4 => ?_) (fun j hj => by rw [up2_ne (by decide)]; exact x6 j hj) ⟨fun j hj => by rw [up2_ne (by decide)]; exact x7.1 j hj, x7.2.1, fun v hv => by rw [up2_ne (by decide)]; exact x7.2.2 v hv⟩ ?_ (by rw [up2_ne (by decide)]; exact x9) (fun j j1 j2 => ?_)
              · rw [up2_at]
                by_cases z : q = 121
                · subst z
                  rw [if_pos rfl, if_neg (by omega)]
                  exact x5 121 j q1 q2 q3 q4
                · rw [if_neg z]
                  exact x5 q j q1 q2 q3 q4
              · rw [show min (l + 1) a = a by omega]
                have em : (fun s => up2 s3 121 (800 * 4 + (4 * k + l)) (-1) 120 (800 + s)) = (fun s => s3 120 (800 + s)) := by
                  funext s
                  rw [up2_ne (by decide)]
                have ar : ∀ p j, p < k ∨ (p = k ∧ j < l) → j < 4 → up2 s3 121 (800 * 4 + (4 * k + l)) (-1) 121 (3200 + (4 * p + j)) = s3 121 (3200 + (4 * p + j)) := fun p j hp hj => by rw [up2_self, upf_n (by omega)]
                rw [em]
                refine ⟨x8.1, fun t j ht hj ha' => ?_, fun p j hp hj => ?_, fun j hj0 hj => ?_⟩
                · dsimp only
                  rw [ar t j (by omega) hj]
                  exact x8.2.1 t j ht hj ha'
                · dsimp only
                  rw [ar p j (by unfold lx at hp; omega) (by omega)]
                  exact x8.2.2.1 p j hp hj
                · obtain ⟨p, q, p1, p2, p3, p4, p5⟩ := x8.2.2.2 j hj0 hj
                  refine ⟨p, q, p1, p2, p3, by dsimp only; rw [ar p q (by unfold lx at p3; omega) (by omega)]; exact p4, fun p' q' hp' hq' => ?_⟩
                  dsimp only
                  rw [ar p' q' (by unfold lx at *; omega) (by omega)]
                  exact p5 p' q' hp' hq'
              · rw [up2_self]
                by_cases z : j = l
                · rw [z, show 3200 + (4 * k + l) = 800 * 4 + (4 * k + l) by omega, upf_s]
                · rw [upf_n (by omega)]
                  exact x10 j j1 (by omega)
        have putM : ∀ (v : Int) (u6 : V), v = (if inM M (gx M s) then 1 else 2) → AW (P 139) Q (MS (d + 4)) 0 (fun _ => 0) 11 [vr 99, vi m, vi c, vi h, vi k, vi s, u6] [vi v, vi (800 + k : Nat), vr 120] s2 := by
          intro v u6 hv
          rw [awu 139 11]
          try simp only [awu 139 11, pe139, xs, i_load, i_loadR, i_inc, lg, lp, true_and, and_true, List.length_cons, List.length_nil, Nat.reduceAdd, Nat.reduceLeDiff, Nat.zero_le, Int.toNat_natCast, natLit, k0, k20, l20]
          refine ⟨by omega, ?_⟩
          refine lets 4 0 _ f h (by omega) hk g4 hfk (fun q i q1 q2 q3 q4 => ?_) (fun i hi => by rw [up2_ne (by decide)]; exact g6 i hi) ⟨fun j hj => by rw [up2_ne (by decide)]; exact g7.1 j hj, g7.2.1, fun v hv => by rw [up2_ne (by decide)]; exact g7.2.2 v hv⟩ ?_ (by rw [up2_self, upf_s]; exact hv) (fun j j1 j2 => by omega)
          · rw [up2_at]
            by_cases z : q = 120
            · subst z
              rw [if_pos rfl, if_neg (by omega)]
              exact g5 120 i q1 q2 q3 q4
            · rw [if_neg z]
              exact g5 q i q1 q2 q3 q4
          · rw [show min 0 a = 0 by omega]
            have ea : (fun i => up2 s2 120 (800 + k) v 121 (3200 + i)) = (fun i => s2 121 (3200 + i)) := by
              funext i
              rw [up2_ne (by decide)]
            rw [ea]
            refine ⟨fun t ht => ?_, g8.2⟩
            dsimp only
            rw [up2_self, upf_n (by omega)]
            exact g8.1 t ht
        rcases Nat.lt_or_ge s M.1 with zs | zs
        · rw [awu 139 6]
          try simp only [awu 139 7, awu 139 8, pe139, xs, i_load, i_loadR, i_inc, lg, lp, true_and, and_true, List.length_cons, List.length_nil, Nat.reduceAdd, Nat.reduceLeDiff, Nat.zero_le, Int.toNat_natCast, natLit, k0, k39, l39, fk1, k19, l19, e19, w800 ()]
          refine ⟨fun h => by omega, fun _ => ⟨by omega, by omega, fun h => by omega, fun _ => ?_⟩⟩
          refine sp_markOf f1 (by omega) zs ?_
          dsimp only
          rw [gx_s zs, inM_s zs] at putM
          try simp only [awu 139 8, awu 139 9, awu 139 10, pe139, xs, i_load, i_loadR, i_inc, lg, lp, true_and, and_true, List.length_cons, List.length_nil, Nat.reduceAdd, Nat.reduceLeDiff, Nat.zero_le, Int.toNat_natCast, natLit, k0]
          refine ⟨fun h => putM 2 _ (by rw [if_neg (by simpa using h)]), fun h => putM 1 _ (by rw [if_pos (by simpa using h)])⟩
        · have : s = M.1 := by omega
          rw [this, gx_N, inM_n] at putM
          rw [awu 139 6]
          try simp only [awu 139 7, awu 139 10, pe139, xs, i_load, i_loadR, i_inc, lg, lp, true_and, and_true, List.length_cons, List.length_nil, Nat.reduceAdd, Nat.reduceLeDiff, Nat.zero_le, Int.toNat_natCast, natLit, k0, k39, l39, fk1, k19, l19, e19, w800 ()]
          refine ⟨fun h => by omega, fun _ => ⟨by omega, by omega, fun _ => ?_, fun h => absurd (by omega) h⟩⟩
          rw [this]
          exact putM 2 _ rfl
  have fill : ∀ mm i : Nat, ∀ (s2 : St) (u4 u5 u6 : V), i + mm = c → (∀ q, q ≠ 140 → s2 q = s1 q) → (∀ v, v < i → s2 140 v = -1) → AW (P 139) Q (MS (d + 4)) 0 (fun _ => 0) 3 [vr 99, vi m, vi c, vi i, u4, u5, u6] [] s2 := by
    intro mm
    induction mm with
    | zero =>
      intro i s2 u4 u5 u6 g1 g2 g3
      have : i = c := by omega
      subst this
      have rc0 : rcB M a (gx M 0) = true := by rw [gx_s m0, rcB_d]; exact Rc_0
      have hg2 : ∀ i, i ≤ M.1 → s2 137 i = (g i : Nat) := fun i hi => by rw [g2 137 (by decide)]; exact y1 i hi
      rw [awu 139 3]
      try simp only [awu 139 5, pe139, xs, i_load, i_loadR, i_inc, lg, lp, true_and, and_true, List.length_cons, List.length_nil, Nat.reduceAdd, Nat.reduceLeDiff, Nat.zero_le, Int.toNat_natCast, natLit, k0]
      refine ⟨fun _ => ?_, fun h => absurd (Int.le_refl _) h⟩
      refine sp_numSort (h := 0) (s := 0) (f := fun _ => 0) hN hc hg2 hgc ⟨fun j hj => by omega, fun i j hi => by omega, fun v hv => by rw [g3 v hv]; rfl⟩ (by omega) rc0 (fun i hi => by omega) (fun s3 n1 n2 n3 n4 => ?_)
      dsimp only
      try simp only [awu 139 5, pe139, xs, i_load, i_loadR, i_inc, lg, lp, true_and, and_true, List.length_cons, List.length_nil, Nat.reduceAdd, Nat.reduceLeDiff, Nat.zero_le, Int.toNat_natCast, natLit, k0]
      refine key 201 0 s3 (updN (fun _ => 0) 0 0) 1 _ _ (by omega) (by omega) (by omega) (by rw [updN_at, if_pos rfl]) (fun q i q1 q2 q3 q4 => by rw [n4 q (by omega) (by omega), g2 q (by omega)]; exact fr0 q i q1 q2 q3 q4) (fun i hi => by rw [n4 137 (by decide) (by decide)]; exact hg2 i hi) n3 ⟨fun t ht => by omega, fun t j ht => by omega, fun p j hp => by unfold lx at hp; omega, fun j h1 h2 => by omega⟩
    | succ mm ih =>
      intro i s2 u4 u5 u6 g1 g2 g3
      have wk : Unit → wr ((i : Int) + 1) = ((i + 1 : Nat) : Int) := fun _ => by rw [wr_id (by omega) (by omega)]; omega
      rw [awu 139 3]
      try simp only [awu 139 4, pe139, xs, i_load, i_loadR, i_inc, lg, lp, true_and, and_true, List.length_cons, List.length_nil, Nat.reduceAdd, Nat.reduceLeDiff, Nat.zero_le, Int.toNat_natCast, natLit, k0, k40, l40, wk ()]
      refine ⟨fun h => by omega, fun _ => ⟨by omega, ih (i + 1) _ _ _ _ (by omega) (fun q q1 => by rw [up2_ne q1]; exact g2 q q1) (fun v hv => ?_)⟩⟩
      rw [up2_self]
      by_cases z : v = i
      · rw [z, upf_s]
      · rw [upf_n z]
        exact g3 v (by omega)
  try simp only [awu 139 2, pe139, xs, i_load, i_loadR, i_inc, lg, lp, true_and, and_true, List.length_cons, List.length_nil, Nat.reduceAdd, Nat.reduceLeDiff, Nat.zero_le, Int.toNat_natCast, natLit, k0]
  exact fill c 0 s1 _ _ _ (by omega) (fun _ _ => rfl) (fun v hv => by omega)
