/-! texts of machines -/
def arL (M : MC) (s : Int) : Nat → List Nat
  | 0 => []
  | l + 1 => arL M s l ++ (if fo M s l = -1 then [] else (97 + l) :: nuL (fo M s l).toNat)
theorem arL_s {M : MC} {s : Int} {l : Nat} : arL M s (l + 1) = arL M s l ++ (if fo M s l = -1 then [] else (97 + l) :: nuL (fo M s l).toNat) := rfl
theorem arL_len {M : MC} {s : Int} : ∀ l, (arL M s l).length ≤ 4 * l
  | 0 => by simp [arL]
  | l + 1 => by
    rw [arL_s, List.length_append]
    have := arL_len (M := M) (s := s) l
    have := nuL_len (fo M s l).toNat
    split
    · simp; omega
    · simp; omega
def sgn (v : Int) : Nat := if v = 1 then 43 else if v = 2 then 45 else 63
def txL (M : MC) (a : Nat) : Nat → List Nat
  | 0 => []
  | s + 1 => txL M a s ++ [sgn (M.2.1 s)] ++ arL M (s : Int) a ++ [59]
theorem txL_s {M : MC} {a s : Nat} : txL M a (s + 1) = txL M a s ++ [sgn (M.2.1 s)] ++ arL M (s : Int) a ++ [59] := rfl
theorem txL_len {M : MC} {a : Nat} (ha : a ≤ 4) : ∀ s, (txL M a s).length ≤ 18 * s
  | 0 => by simp [txL]
  | s + 1 => by
    rw [txL_s]
    have := txL_len (M := M) ha s
    have := arL_len (M := M) (s := (s : Int)) a
    simp
    omega
theorem sgn_b (v : Int) : sgn v ≤ 127 := by
  unfold sgn
  split
  · decide
  · split <;> decide
theorem sp_sign {d : Nat} {v : Int} {st : St} {Q : Rn} (hq : Q (vi (sgn v : Nat)) st) : MS (d + 1) 195 [vi v] st Q := by
  refine MS_s [vi v] rfl rfl rfl rfl ?_
  unfold sgn at hq
  try simp only [awu 195 0, awu 195 1, awu 195 2, awu 195 3, awu 195 4, awu 195 5, pe195, xs, i_load, i_loadR, i_inc, lg, lp, true_and, and_true, List.length_cons, List.length_nil, Nat.reduceAdd, Nat.reduceLeDiff, Nat.zero_le, Int.toNat_natCast, natLit]
  refine ⟨fun h => ⟨fun h2 => ?_, fun h2 => ?_⟩, fun h => ?_⟩
  · rw [if_neg h, if_neg h2] at hq
    exact hq
  · rw [if_neg h, if_pos (by omega)] at hq
    exact hq
  · rw [if_pos (by omega)] at hq
    exact hq
theorem sp_mcwrite {d o cap a : Nat} {st : St} {M : MC} {Q : Rn} (ho : isMc o cap) (ho4 : 4 < o) (hM : MCc st o cap M) (hM2 : M.1 ≤ 200) (hW : MW a M) (ha : a ≤ 4) (hL : WRc st [])
    (hq : ∀ st' : St, WRc st' (txL M a M.1) → FrWc st st' → Q none st') : MS (d + 3) 194 [vr o, vr 3, vi a] st Q := by
  obtain ⟨k0, ⟨k1, l1⟩, -, hcap⟩ := id ho
  have fr : ∀ s2 : St, FrWc st s2 → MCc s2 o cap M ∧ s2 o 2 = (M.1 : Nat) ∧ ∀ s, s < M.1 → s2 (o + 1) s = M.2.1 s := fun s2 h => by
    have := MCc_congr hM (fun q h1 h2 => by funext i; exact h q i (by omega) (by omega))
    exact ⟨this, this.1, this.2.2.1⟩
  have hMc := hM.2.1
  have key : ∀ m s : Nat, ∀ (s2 : St) (u4 u5 : V), s + m = M.1 → WRc s2 (txL M a s) → FrWc st s2 → AW (P 194) Q (MS (d + 2)) 0 (fun _ => 0) 1 [vr o, vr 3, vi a, vi s, u4, u5] [] s2 := by
    intro m
    induction m with
    | zero =>
      intro s s2 u4 u5 g1 g2 g3
      have : s = M.1 := by omega
      subst this
      obtain ⟨f1, f2, f3⟩ := fr s2 g3
      rw [awu 194 1]
      try simp only [awu 194 9, pe194, xs, i_load, i_loadR, i_inc, lg, lp, true_and, and_true, List.length_cons, List.length_nil, Nat.reduceAdd, Nat.reduceLeDiff, Nat.zero_le, Int.toNat_natCast, natLit, k0, f2]
      exact ⟨fun _ => hq s2 g2 g3, fun h => absurd (Int.le_refl _) h⟩
    | succ m ih =>
      intro s s2 u4 u5 g1 g2 g3
      obtain ⟨f1, f2, f3⟩ := fr s2 g3
      have hlen := txL_len (M := M) ha s
      have e3 := f3 s (by omega)
      have ws : Unit → wr ((s : Int) + 1) = ((s + 1 : Nat) : Int) := fun _ => by rw [wr_id (by omega) (by omega)]; omega
      have keyl : ∀ m l : Nat, ∀ (s3 : St) (u5 : V), l + m = a → WRc s3 (txL M a s ++ [sgn (M.2.1 s)] ++ arL M (s : Int) l) → FrWc st s3 → AW (P 194) Q (MS (d + 2)) 0 (fun _ => 0) 4 [vr o, vr 3, vi a, vi s, vi l, u5] [] s3 := by
        intro m
        induction m with
        | zero =>
          intro l s3 u5 h1 h2 h3
          have : l = a := by omega
          subst this
          have hal := arL_len (M := M) (s := (s : Int)) l
          rw [awu 194 4]
          try simp only [awu 194 8, pe194, xs, i_load, i_loadR, i_inc, lg, lp, true_and, and_true, List.length_cons, List.length_nil, Nat.reduceAdd, Nat.reduceLeDiff, Nat.zero_le, Int.toNat_natCast, natLit, k0]
          refine ⟨fun _ => ?_, fun h => absurd (Int.le_refl _) h⟩
          refine sp_cputN (v := 59) h2 (by simp; omega) (by decide) (fun s4 y1 y2 => ?_)
          dsimp only
          try simp only [awu 194 8, pe194, xs, i_load, i_loadR, i_inc, lg, lp, true_and, and_true, List.length_cons, List.length_nil, Nat.reduceAdd, Nat.reduceLeDiff, Nat.zero_le, Int.toNat_natCast, natLit, k0, ws ()]
          exact ih (s + 1) s4 _ _ (by omega) y1 (FrWc_t h3 y2)
        | succ m ihl =>
          intro l s3 u5 h1 h2 h3
          obtain ⟨f1, f2, f3⟩ := fr s3 h3
          have hal := arL_len (M := M) (s := (s : Int)) l
          have wl' : Unit → wr ((l : Int) + 1) = ((l + 1 : Nat) : Int) := fun _ => by rw [wr_id (by omega) (by omega)]; omega
          have w97 : Unit → wr (97 + (l : Int)) = ((97 + l : Nat) : Int) := fun _ => by rw [wr_id (by omega) (by omega)]; omega
          have hfb := fo_b (s := (s : Int)) hW (show l < 4 by omega)
          have ihl := fun s4 u5 => ihl (l + 1) s4 u5 (by omega)
          rw [arL_s] at ihl
          rw [awu 194 4]
          try simp only [awu 194 5, pe194, xs, i_load, i_loadR, i_inc, lg, lp, true_and, and_true, List.length_cons, List.length_nil, Nat.reduceAdd, Nat.reduceLeDiff, Nat.zero_le, Int.toNat_natCast, natLit, k0]
          refine ⟨fun h => by omega, fun _ => ?_⟩
          refine sp_mcfollow ho f1 hW (show l < 4 by omega) ?_
          dsimp only
          try simp only [awu 194 5, awu 194 6, awu 194 7, pe194, xs, i_load, i_loadR, i_inc, lg, lp, true_and, and_true, List.length_cons, List.length_nil, Nat.reduceAdd, Nat.reduceLeDiff, Nat.zero_le, Int.toNat_natCast, natLit, k0, w97 (), wl' ()]
          refine ⟨fun h => ?_, fun h => ?_⟩
          · rw [if_pos h, List.append_nil] at ihl
            exact ihl s3 _ h2 h3
          · rw [if_neg h] at ihl
            refine sp_cputN h2 (by simp; omega) (by omega) (fun s4 y1 y2 => ?_)
            dsimp only
            obtain ⟨t, ht⟩ : ∃ t : Nat, fo M (s : Int) l = t := ⟨(fo M (s : Int) l).toNat, by omega⟩
            rw [ht, Int.toNat_natCast] at ihl
            rw [ht]
            try simp only [awu 194 6, pe194, xs, i_load, i_loadR, i_inc, lg, lp, true_and, and_true, List.length_cons, List.length_nil, Nat.reduceAdd, Nat.reduceLeDiff, Nat.zero_le, Int.toNat_natCast, natLit, k0]
            refine sp_cnum y1 (by simp; omega) (by omega) (fun s5 z1 z2 => ?_)
            dsimp only
            try simp only [awu 194 7, pe194, xs, i_load, i_loadR, i_inc, lg, lp, true_and, and_true, List.length_cons, List.length_nil, Nat.reduceAdd, Nat.reduceLeDiff, Nat.zero_le, Int.toNat_natCast, natLit, k0, wl' ()]
            refine ihl s5 _ ?_ (FrWc_t h3 (FrWc_t y2 z2))
            rw [List.append_assoc] at z1
            rw [← List.append_assoc]
            exact z1
      rw [awu 194 1]
      try simp only [awu 194 2, awu 194 3, pe194, xs, i_load, i_loadR, i_inc, lg, lp, true_and, and_true, List.length_cons, List.length_nil, Nat.reduceAdd, Nat.reduceLeDiff, Nat.zero_le, Int.toNat_natCast, natLit, k0, f2, k1, l1, e3, true_or, or_true]
      refine ⟨fun h => by omega, fun _ => ⟨fun h => by omega, fun _ => ⟨by omega, ?_⟩⟩⟩
      refine sp_sign ?_
      dsimp only
      try simp only [awu 194 3, pe194, xs, i_load, i_loadR, i_inc, lg, lp, true_and, and_true, List.length_cons, List.length_nil, Nat.reduceAdd, Nat.reduceLeDiff, Nat.zero_le, Int.toNat_natCast, natLit, k0]
      refine sp_cputN g2 (by omega) (sgn_b _) (fun s3 y1 y2 => ?_)
      dsimp only
      try simp only [awu 194 3, pe194, xs, i_load, i_loadR, i_inc, lg, lp, true_and, and_true, List.length_cons, List.length_nil, Nat.reduceAdd, Nat.reduceLeDiff, Nat.zero_le, Int.toNat_natCast, natLit, k0]
      exact keyl a 0 s3 _ (by omega) (by rw [show arL M (s : Int) 0 = [] from rfl, List.append_nil]; exact y1) (FrWc_t g3 y2)
  refine MS_v [vr o, vr 3, vi a, none, none, none] rfl rfl k0 rfl ?_
  try simp only [awu 194 0, pe194, xs, i_load, i_loadR, i_inc, lg, lp, true_and, and_true, List.length_cons, List.length_nil, Nat.reduceAdd, Nat.reduceLeDiff, Nat.zero_le, Int.toNat_natCast, natLit, k0]
  exact key M.1 0 st none none (by omega) hL FrWc_r
theorem sp_mtext {d a m : Nat} {st : St} {M : MC} {Q : Rn} {u2 u3 : V} (hM : MCm st m M) (hm : m ≤ 3) (hW : MW a M) (ha : a ≤ 4) (hl : st 99 2 = a)
    (hq : ∀ st' : St, WRm st' (txL M a M.1) → FrWm st st' → Q (vi ((txL M a M.1).length : Nat)) st') : AW (P 148) Q (MS (d + 2)) 0 (fun _ => 0) 2 [vr 99, vi m, u2, u3] [] st := by
  have k0 : kl 99 = 12 := rfl
  have k19 : kl 119 = 50 := rfl
  have l19 : len 119 = 5 := rfl
  have hM2 := hM.2.1
  have fr : ∀ s2 : St, FrWm st s2 → MCm s2 m M ∧ s2 119 m = (M.1 : Nat) ∧ s2 99 2 = a := fun s2 h => by
    have := MCm_congr hM (h 119 m (by omega) (by omega)) (fun i _ _ => h 120 i (by omega) (by omega)) (fun i _ _ => h 121 i (by omega) (by omega))
    exact ⟨this, this.1, by rw [h 99 2 (by omega) (by omega)]; exact hl⟩
  have key : ∀ mm s : Nat, ∀ (s2 : St) (u3 : V), s + mm = M.1 → WRm s2 (txL M a s) → FrWm st s2 → AW (P 148) Q (MS (d + 2)) 0 (fun _ => 0) 3 [vr 99, vi m, vi s, u3] [] s2 := by
    intro mm
    induction mm with
    | zero =>
      intro s s2 u3 g1 g2 g3
      have : s = M.1 := by omega
      subst this
      obtain ⟨f1, f2, f3⟩ := fr s2 g3
      have e62 := g2.1
      rw [awu 148 3]
      try simp only [awu 148 16, pe148, xs, i_load, i_loadR, i_inc, lg, lp, true_and, and_true, List.length_cons, List.length_nil, Nat.reduceAdd, Nat.reduceLeDiff, Nat.zero_le, Int.toNat_natCast, natLit, k0, k19, l19, f2, e62]
      exact ⟨by omega, fun _ => hq s2 g2 g3, fun h => absurd (Int.le_refl _) h⟩
    | succ mm ih =>
      intro s s2 u3 g1 g2 g3
      obtain ⟨f1, f2, f3⟩ := fr s2 g3
      have hlen := txL_len (M := M) ha s
      have ws : Unit → wr ((s : Int) + 1) = ((s + 1 : Nat) : Int) := fun _ => by rw [wr_id (by omega) (by omega)]; omega
      have keyl : ∀ mm l : Nat, ∀ (s3 : St), l + mm = a → WRm s3 (txL M a s ++ [sgn (M.2.1 s)] ++ arL M (s : Int) l) → FrWm st s3 → AW (P 148) Q (MS (d + 2)) 0 (fun _ => 0) 10 [vr 99, vi m, vi s, vi l] [] s3 := by
        intro mm
        induction mm with
        | zero =>
          intro l s3 h1 h2 h3
          have : l = a := by omega
          subst this
          obtain ⟨f1, f2, f3⟩ := fr s3 h3
          have hal := arL_len (M := M) (s := (s : Int)) l
          rw [awu 148 10]
          try simp only [awu 148 15, pe148, xs, i_load, i_loadR, i_inc, lg, lp, true_and, and_true, List.length_cons, List.length_nil, Nat.reduceAdd, Nat.reduceLeDiff, Nat.zero_le, Int.toNat_natCast, natLit, k0, f3]
          refine ⟨fun _ => ?_, fun h => absurd (Int.le_refl _) h⟩
          refine sp_mputN (v := 59) h2 (by simp; omega) (by decide) (fun s4 y1 y2 => ?_)
          dsimp only
          try simp only [awu 148 15, pe148, xs, i_load, i_loadR, i_inc, lg, lp, true_and, and_true, List.length_cons, List.length_nil, Nat.reduceAdd, Nat.reduceLeDiff, Nat.zero_le, Int.toNat_natCast, natLit, k0, ws ()]
          exact ih (s + 1) s4 _ (by omega) y1 (FrWm_t h3 y2)
        | succ mm ihl =>
          intro l s3 h1 h2 h3
          obtain ⟨f1, f2, f3⟩ := fr s3 h3
          have hal := arL_len (M := M) (s := (s : Int)) l
          have wl' : Unit → wr ((l : Int) + 1) = ((l + 1 : Nat) : Int) := fun _ => by rw [wr_id (by omega) (by omega)]; omega
          have w97 : Unit → wr (97 + (l : Int)) = ((97 + l : Nat) : Int) := fun _ => by rw [wr_id (by omega) (by omega)]; omega
          have hfb := fo_b (s := (s : Int)) hW (show l < 4 by omega)
          have ihl := fun s4 => ihl (l + 1) s4 (by omega)
          rw [arL_s] at ihl
          rw [awu 148 10]
          try simp only [awu 148 11, pe148, xs, i_load, i_loadR, i_inc, lg, lp, true_and, and_true, List.length_cons, List.length_nil, Nat.reduceAdd, Nat.reduceLeDiff, Nat.zero_le, Int.toNat_natCast, natLit, k0, f3]
          refine ⟨fun h => by omega, fun _ => ?_⟩
          refine sp_arrowOf f1 (by omega) (Or.inr ⟨by omega, by omega⟩) (show l < 4 by omega) ?_
          dsimp only
          try simp only [awu 148 12, awu 148 13, awu 148 14, pe148, xs, i_load, i_loadR, i_inc, lg, lp, true_and, and_true, List.length_cons, List.length_nil, Nat.reduceAdd, Nat.reduceLeDiff, Nat.zero_le, Int.toNat_natCast, natLit, k0, w97 (), wl' ()]
          refine ⟨fun h => ?_, fun h => ?_⟩
          · rw [if_neg h] at ihl
            refine sp_mputN h2 (by simp; omega) (by omega) (fun s4 y1 y2 => ?_)
            dsimp only
            try simp only [awu 148 13, pe148, xs, i_load, i_loadR, i_inc, lg, lp, true_and, and_true, List.length_cons, List.length_nil, Nat.reduceAdd, Nat.reduceLeDiff, Nat.zero_le, Int.toNat_natCast, natLit, k0]
            refine sp_arrowOf (fr s4 (FrWm_t h3 y2)).1 (by omega) (Or.inr ⟨by omega, by omega⟩) (show l < 4 by omega) ?_
            dsimp only
            obtain ⟨t, ht⟩ : ∃ t : Nat, fo M (s : Int) l = t := ⟨(fo M (s : Int) l).toNat, by omega⟩
            rw [ht, Int.toNat_natCast] at ihl
            rw [ht]
            try simp only [awu 148 13, pe148, xs, i_load, i_loadR, i_inc, lg, lp, true_and, and_true, List.length_cons, List.length_nil, Nat.reduceAdd, Nat.reduceLeDiff, Nat.zero_le, Int.toNat_natCast, natLit, k0]
            refine sp_mnum y1 (by simp; omega) (by omega) (fun s5 z1 z2 => ?_)
            dsimp only
            try simp only [awu 148 14, pe148, xs, i_load, i_loadR, i_inc, lg, lp, true_and, and_true, List.length_cons, List.length_nil, Nat.reduceAdd, Nat.reduceLeDiff, Nat.zero_le, Int.toNat_natCast, natLit, k0, wl' ()]
            refine ihl s5 ?_ (FrWm_t h3 (FrWm_t y2 z2))
            rw [List.append_assoc] at z1
            rw [← List.append_assoc]
            exact z1
          · rw [if_pos (by omega), List.append_nil] at ihl
            exact ihl s3 h2 h3
      have aft : ∀ v : Nat, v = sgn (M.2.1 s) → AW (P 148) Q (MS (d + 2)) 0 (fun _ => 0) 9 [vr 99, vi m, vi s, u3] [vi v, vr 99] s2 := by
        intro v hv
        rw [awu 148 9]
        try simp only [awu 148 9, pe148, xs, i_load, i_loadR, i_inc, lg, lp, true_and, and_true, List.length_cons, List.length_nil, Nat.reduceAdd, Nat.reduceLeDiff, Nat.zero_le, Int.toNat_natCast, natLit, k0]
        refine sp_mputN g2 (by omega) (by rw [hv]; exact sgn_b _) (fun s3 y1 y2 => ?_)
        dsimp only
        try simp only [awu 148 9, pe148, xs, i_load, i_loadR, i_inc, lg, lp, true_and, and_true, List.length_cons, List.length_nil, Nat.reduceAdd, Nat.reduceLeDiff, Nat.zero_le, Int.toNat_natCast, natLit, k0]
        exact keyl a 0 s3 (by omega) (by rw [show arL M (s : Int) 0 = [] from rfl, List.append_nil, ← hv]; exact y1) (FrWm_t g3 y2)
      have hmk := hW.1 s (by omega)
      rw [awu 148 3]
      try simp only [awu 148 4, pe148, xs, i_load, i_loadR, i_inc, lg, lp, true_and, and_true, List.length_cons, List.length_nil, Nat.reduceAdd, Nat.reduceLeDiff, Nat.zero_le, Int.toNat_natCast, natLit, k0, k19, l19, f2]
      refine ⟨by omega, fun h => by omega, fun _ => ?_⟩
      refine sp_markOf f1 (by omega) (show s < M.1 by omega) ?_
      dsimp only
      try simp only [awu 148 5, awu 148 6, pe148, xs, i_load, i_loadR, i_inc, lg, lp, true_and, and_true, List.length_cons, List.length_nil, Nat.reduceAdd, Nat.reduceLeDiff, Nat.zero_le, Int.toNat_natCast, natLit, k0]
      refine ⟨fun h => ?_, fun h => ?_⟩
      · refine sp_markOf f1 (by omega) (show s < M.1 by omega) ?_
        dsimp only
        try simp only [awu 148 7, awu 148 8, pe148, xs, i_load, i_loadR, i_inc, lg, lp, true_and, and_true, List.length_cons, List.length_nil, Nat.reduceAdd, Nat.reduceLeDiff, Nat.zero_le, Int.toNat_natCast, natLit, k0]
        refine ⟨fun h2 => aft 45 ?_, fun h2 => aft 43 ?_⟩
        · unfold sgn
          rw [if_neg h2, if_pos (by omega)]
        · unfold sgn
          rw [if_pos (by omega)]
      · refine aft 63 ?_
        unfold sgn
        rw [if_neg (by omega), if_neg (by omega)]
  rw [awu 148 2]
  try simp only [awu 148 2, pe148, xs, i_load, i_loadR, i_inc, lg, lp, true_and, and_true, List.length_cons, List.length_nil, Nat.reduceAdd, Nat.reduceLeDiff, Nat.zero_le, Int.toNat_natCast, natLit, k0]
  exact key M.1 0 _ _ (by omega) WRm_0 FrWm_0
theorem sp_mwrnode {d k n : Nat} {w : Nat} {st : St} {Q : Rn} {u2 : V} (hk : k < 161) (h4 : st 104 k = (wl w : Nat)) (h5 : st 105 k = (wc w : Nat)) (hw : wf w)
    (hq : ∀ st' : St, WRm st' (wdL w (wl w)) → FrWm st st' → Q (vi (wl w : Nat)) st') : AW (P 90) Q (MS (d + 1)) 0 (fun _ => 0) 2 [vr 99, vi k, u2] [] st := by
  have k0 : kl 99 = 12 := rfl
  have k4 : kl 104 = 50 := rfl
  have l4 : len 104 = 161 := rfl
  have k5 : kl 105 = 50 := rfl
  have l5 : len 105 = 161 := rfl
  have hw10 := hw.1
  have hc20 := wc_lt w
  have key : ∀ m p : Nat, ∀ s2 : St, p + m = wl w → WRm s2 (wdL w p) → FrWm st s2 → AW (P 90) Q (MS (d + 1)) 0 (fun _ => 0) 3 [vr 99, vi k, vi p] [] s2 := by
    intro m
    induction m with
    | zero =>
      intro p s2 g1 g2 g3
      have : p = wl w := by omega
      subst this
      have e4 : s2 104 k = (wl w : Nat) := by rw [g3 104 k (by omega) (by omega)]; exact h4
      have e62 := g2.1
      rw [wdL_len] at e62
      rw [awu 90 3]
      try simp only [awu 90 5, pe90, xs, i_load, i_loadR, i_inc, lg, lp, true_and, and_true, List.length_cons, List.length_nil, Nat.reduceAdd, Nat.reduceLeDiff, Nat.zero_le, Int.toNat_natCast, natLit, k0, k4, l4, e4, e62]
      exact ⟨by omega, fun _ => hq s2 g2 g3, fun h => absurd (Int.le_refl _) h⟩
    | succ m ih =>
      intro p s2 g1 g2 g3
      have e4 : s2 104 k = (wl w : Nat) := by rw [g3 104 k (by omega) (by omega)]; exact h4
      have e5 : s2 105 k = (wc w : Nat) := by rw [g3 105 k (by omega) (by omega)]; exact h5
      have hlt := lt_wc (w := w) (p := p) hw10 (by omega)
      have hl4 := lt_lt w p
      have e : Unit → wr ((p : Int) + 1) = ((p + 1 : Nat) : Int) := fun _ => by rw [wr_id (by omega) (by omega)]; omega
      have e2 : Unit → wr (97 + ((lt w p : Nat) : Int)) = ((97 + lt w p : Nat) : Int) := fun _ => by rw [wr_id (by omega) (by omega)]; omega
      rw [awu 90 3]
      try simp only [awu 90 4, pe90, xs, i_load, i_loadR, i_inc, lg, lp, true_and, and_true, List.length_cons, List.length_nil, Nat.reduceAdd, Nat.reduceLeDiff, Nat.zero_le, Int.toNat_natCast, natLit, k0, k4, l4, k5, l5, e4, e5]
      refine ⟨by omega, fun h => by omega, fun _ => ?_⟩
      refine ⟨by omega, by omega, ?_⟩
      refine sp_letterAt (by omega) hw10 (show p < wl w by omega) ?_
      rw [← hlt]
      dsimp only
      try simp only [awu 90 4, pe90, xs, i_load, i_loadR, i_inc, lg, lp, true_and, and_true, List.length_cons, List.length_nil, Nat.reduceAdd, Nat.reduceLeDiff, Nat.zero_le, Int.toNat_natCast, natLit, k0, e2 ()]
      refine sp_mputN g2 (by rw [wdL_len]; omega) (by omega) (fun s3 y1 y2 => ?_)
      dsimp only
      try simp only [awu 90 4, pe90, xs, i_load, i_loadR, i_inc, lg, lp, true_and, and_true, List.length_cons, List.length_nil, Nat.reduceAdd, Nat.reduceLeDiff, Nat.zero_le, Int.toNat_natCast, natLit, k0, e ()]
      exact ih (p + 1) s3 (by omega) y1 (FrWm_t g3 y2)
  rw [awu 90 2]
  try simp only [awu 90 2, pe90, xs, i_load, i_loadR, i_inc, lg, lp, true_and, and_true, List.length_cons, List.length_nil, Nat.reduceAdd, Nat.reduceLeDiff, Nat.zero_le, Int.toNat_natCast, natLit, k0]
  exact key (wl w) 0 _ (by omega) WRm_0 FrWm_0
