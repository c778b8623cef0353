/-! the tree of the reference -/
theorem wl_wc (w : Nat) : wl w * 1048576 + wc w = w := by unfold wl wc; omega
def mK0 : kl 99 = 12 := rfl
theorem sp_mno {d n : Nat} {st : St} {f : Nat → Nat} {w : Nat} {Q : Rn} (hc : st 99 14 = n) (hn : n ≤ 120) (hf : ∀ k, k < n → st 104 k = wl (f k) ∧ st 105 k = wc (f k)) (hs : Srt f n) (hq : ∀ p, IsPl (fun i => (f i : Int)) n w p → Q (vi (p : Nat)) st) : MS (d + 2) 55 [vr 99, vi (wl w : Nat), vi (wc w : Nat)] st Q := by
  have k0 : kl 99 = 12 := rfl
  have k1 : kl 104 = 50 := rfl
  have l1 : len 104 = 161 := rfl
  have k2 : kl 105 = 50 := rfl
  have l2 : len 105 = 161 := rfl
  refine MS_v [vr 99, vi (wl w : Nat), vi (wc w : Nat), none] rfl rfl rfl rfl ?_
  try simp only [awu 55 0, pe55, xs, i_load, i_loadR, i_inc, lg, lp, true_and, and_true, List.length_cons, List.length_nil, Nat.reduceAdd, Nat.reduceLeDiff, Nat.zero_le, Int.toNat_natCast, natLit, k0]
  have key : ∀ m k : Nat, k ≤ n → n - k = m → (∀ i, i < k → f i < w) → AW (P 55) Q (MS (d + 1)) 0 (fun _ => 0) 1 [vr 99, vi (wl w : Nat), vi (wc w : Nat), vi k] [] st := by
    intro m
    induction m with
    | zero =>
      intro k g1 g2 g3
      rw [awu 55 1]
      try simp only [awu 55 2, awu 55 4, pe55, xs, i_load, i_loadR, i_inc, lg, lp, true_and, and_true, List.length_cons, List.length_nil, Nat.reduceAdd, Nat.reduceLeDiff, Nat.zero_le, Int.toNat_natCast, natLit, k0, k1, l1, k2, l2, hc]
      exact ⟨fun _ => hq k ⟨g1, fun i hi => by have := g3 i hi; dsimp only; omega, fun h => by omega⟩, fun h => by omega⟩
    | succ m ih =>
      intro k g1 g2 g3
      obtain ⟨h1, h2⟩ := hf k (by omega)
      rw [awu 55 1]
      try simp only [awu 55 2, awu 55 4, pe55, xs, i_load, i_loadR, i_inc, lg, lp, true_and, and_true, List.length_cons, List.length_nil, Nat.reduceAdd, Nat.reduceLeDiff, Nat.zero_le, Int.toNat_natCast, natLit, k0, k1, l1, k2, l2, hc, h1, h2]
      refine ⟨fun h => by omega, fun _ => ⟨by omega, by omega, sp_ahead ?_⟩⟩
      dsimp only
      have a1 := wl_wc w
      have a2 := wl_wc (f k)
      have a3 := wc_lt w
      have a4 := wc_lt (f k)
      by_cases ha : f k < w
      · rw [if_pos (by omega)]
        try simp only [awu 55 3, awu 55 4, pe55, xs, i_load, i_loadR, i_inc, lg, lp, true_and, and_true, List.length_cons, List.length_nil, Nat.reduceAdd, Nat.reduceLeDiff, Nat.zero_le, Int.toNat_natCast, natLit, k0]
        refine ⟨fun h => absurd h (by decide), fun h1 => ?_⟩
        clear h1
        rw [wr_id (by omega) (by omega)]
        refine ih (k + 1) (by omega) (by omega) (fun i hi => ?_)
        by_cases e : i = k
        · subst e; exact ha
        · exact g3 i (by omega)
      · rw [if_neg (by omega)]
        try simp only [awu 55 3, awu 55 4, pe55, xs, i_load, i_loadR, i_inc, lg, lp, true_and, and_true, List.length_cons, List.length_nil, Nat.reduceAdd, Nat.reduceLeDiff, Nat.zero_le, Int.toNat_natCast, natLit, k0]
        exact ⟨fun _ => hq k ⟨g1, fun i hi => by have := g3 i hi; dsimp only; omega, fun _ => by dsimp only; omega⟩, fun h => absurd trivial h⟩
  exact key n 0 (Nat.zero_le _) rfl (fun i hi => by omega)
theorem sp_misn {d n k : Nat} {st : St} {f : Nat → Nat} {w : Nat} {Q : Rn} (hc : st 99 14 = n) (hn : n ≤ 120) (hf : ∀ k, k < n → st 104 k = wl (f k) ∧ st 105 k = wc (f k)) (hq : Q (vi (if k < n ∧ f k = w then 1 else 0)) st) : MS (d + 1) 56 [vr 99, vi k, vi (wl w : Nat), vi (wc w : Nat)] st Q := by
  have k0 : kl 99 = 12 := rfl
  have k1 : kl 104 = 50 := rfl
  have l1 : len 104 = 161 := rfl
  have k2 : kl 105 = 50 := rfl
  have l2 : len 105 = 161 := rfl
  refine MS_v [vr 99, vi k, vi (wl w : Nat), vi (wc w : Nat)] rfl rfl rfl rfl ?_
  try simp only [awu 56 0, awu 56 1, awu 56 2, awu 56 3, awu 56 4, awu 56 5, pe56, xs, i_load, i_loadR, i_inc, lg, lp, true_and, and_true, List.length_cons, List.length_nil, Nat.reduceAdd, Nat.reduceLeDiff, Nat.zero_le, Int.toNat_natCast, natLit, k0, k1, l1, k2, l2, hc]
  refine ⟨fun a => ?_, fun a => ⟨by omega, ?_⟩⟩
  · rw [if_neg (by omega)] at hq
    exact ⟨ok01_0, hq⟩
  · obtain ⟨h1, h2⟩ := hf k (by omega)
    rw [h1, h2]
    have a1 := wl_wc w
    have a2 := wl_wc (f k)
    refine ⟨fun b => ?_, fun b => ⟨by omega, fun g => ?_, fun g => ?_⟩⟩
    · rw [if_neg (fun h => b (by rw [h.2]))] at hq
      exact ⟨ok01_0, hq⟩
    · rw [if_neg (fun h => g (by rw [h.2]))] at hq
      exact ⟨ok01_0, hq⟩
    · rw [if_pos (by omega)] at hq
      exact ⟨ok01_1, hq⟩
theorem sp_madd {d n : Nat} {st : St} {f : Nat → Nat} {w : Nat} {Q : Rn} (hc : st 99 14 = n) (hn : n ≤ 120) (hf : ∀ k, k < n → st 104 k = wl (f k) ∧ st 105 k = wc (f k)) (hs : Srt f n) (hcp : Cp 120 (fun x => Mm f n x ∨ x = w))
    (hq : ∀ (st' : St) (f' : Nat → Nat) (n' : Nat), st' 99 14 = n' → n' ≤ 120 → (∀ k, k < n' → st' 104 k = wl (f' k) ∧ st' 105 k = wc (f' k)) → ndI f n w f' n' → (∀ j i, ¬ (j = 99 ∧ i = 14) → j ≠ 104 → j ≠ 105 → st' j i = st j i) → Q none st') : MS (d + 3) 57 [vr 99, vi (wl w : Nat), vi (wc w : Nat)] st Q := by
  have k0 : kl 99 = 12 := rfl
  have k1 : kl 104 = 50 := rfl
  have l1 : len 104 = 161 := rfl
  have k2 : kl 105 = 50 := rfl
  have l2 : len 105 = 161 := rfl
  refine MS_v [vr 99, vi (wl w : Nat), vi (wc w : Nat), none, none] rfl rfl rfl rfl ?_
  try simp only [awu 57 0, pe57, xs, i_load, i_loadR, i_inc, lg, lp, true_and, and_true, List.length_cons, List.length_nil, Nat.reduceAdd, Nat.reduceLeDiff, Nat.zero_le, Int.toNat_natCast, natLit, k0, hc]
  refine sp_mno hc hn hf hs (fun p hp => ?_)
  have hpn := hp.1
  have hmm := IsPl_mm hs hp
  dsimp only
  try simp only [awu 57 0, pe57, xs, i_load, i_loadR, i_inc, lg, lp, true_and, and_true, List.length_cons, List.length_nil, Nat.reduceAdd, Nat.reduceLeDiff, Nat.zero_le, Int.toNat_natCast, natLit, k0, hc]
  refine sp_misn hc hn hf ?_
  dsimp only
  by_cases hin : Mm f n w
  · have hin' := hmm.mp hin
    have hdone : Q none st := hq st f n hc hn hf ⟨hs, Nat.le_refl _, fun x => ⟨Or.inl, fun h => h.elim id (fun e => by rw [e]; exact hin)⟩⟩ (fun _ _ _ _ _ => rfl)
    rw [if_pos hin']
    try simp only [awu 57 1, awu 57 2, pe57, xs, i_load, i_loadR, i_inc, lg, lp, true_and, and_true, List.length_cons, List.length_nil, Nat.reduceAdd, Nat.reduceLeDiff, Nat.zero_le, Int.toNat_natCast, natLit, k0, hc]
    exact ⟨fun h => absurd h (by decide), fun _ => hdone⟩
  · rw [if_neg (fun h => hin (hmm.mpr h))]
    have h2 : ∀ i, p ≤ i → i < n → w < f i := by
      intro i a b
      have h3 := hp.2.2 (by omega)
      have h4 := Srt_le hs a b
      have h5 : f i ≠ w := fun e => hin ⟨i, b, e⟩
      dsimp only at h3
      omega
    have h1 : ∀ i, i < p → f i < w := fun i a => by have := hp.2.1 i a; dsimp only at this; omega
    have hlt : n < 120 := by
      have := hcp (insN f p w) (n + 1) (Srt_ins hs hpn h1 h2) (fun i hi => (Mm_ins (f := f) (v := w) hpn).mp ⟨i, hi, rfl⟩)
      omega
    have key : ∀ m k : Nat, ∀ st' : St, p ≤ k → k ≤ n → k - p = m → (∀ i, i < k → st' 104 i = wl (f i) ∧ st' 105 i = wc (f i)) → (∀ i, k < i → i ≤ n → st' 104 i = wl (f (i - 1)) ∧ st' 105 i = wc (f (i - 1))) → (∀ j, j ≠ 104 → j ≠ 105 → st' j = st j) → AW (P 57) Q (MS (d + 2)) 0 (fun _ => 0) 3 [vr 99, vi (wl w : Nat), vi (wc w : Nat), vi p, vi k] [] st' := by
      intro m
      induction m with
      | zero =>
        intro k st' g1 g2 g3 g4 g5 g6
        have : k = p := by omega
        subst this
        have hc' : st' 99 14 = n := by rw [g6 99 (by omega) (by omega)]; exact hc
        have hc2 : up2 (up2 st' 104 k (wl w : Nat)) 105 k (wc w : Nat) 99 14 = n := by rw [up2_ne (by omega), up2_ne (by omega)]; exact hc'
        have ew : Unit → wr ((n : Int) + 1) = ((n + 1 : Nat) : Int) := fun _ => by rw [wr_id (by omega) (by omega)]; omega
        rw [awu 57 3]
        try simp only [awu 57 5, pe57, xs, i_load, i_loadR, i_inc, lg, lp, true_and, and_true, List.length_cons, List.length_nil, Nat.reduceAdd, Nat.reduceLeDiff, Nat.zero_le, Int.toNat_natCast, natLit, k0, k1, l1, k2, l2, hc2, ew ()]
        refine ⟨fun _ => ⟨by omega, by omega, ?_⟩, fun h => by omega⟩
        refine hq _ (insN f k w) (n + 1) ?_ (by omega) ?_ ⟨Srt_ins hs hpn h1 h2, by omega, fun x => Mm_ins hpn⟩ ?_
        · rw [up2_at, if_pos rfl, if_pos rfl]
        · intro i hi
          rw [up2_ne (by omega), up2_ne (by omega), up2_self, up2_ne (by omega), up2_self, up2_ne (by omega)]
          unfold insN
          by_cases e : i = k
          · subst e
            rw [upf_s, upf_s, if_neg (by omega), if_pos rfl]
            exact ⟨rfl, rfl⟩
          · rw [upf_n e, upf_n e]
            by_cases e2 : i < k
            · rw [if_pos e2]
              exact g4 i e2
            · rw [if_neg e2, if_neg e]
              exact g5 i (by omega) (by omega)
        · intro j i q1 q2 q3
          rw [up2_at]
          by_cases e : j = 99
          · subst e
            rw [if_pos rfl, if_neg (fun z => q1 ⟨rfl, z⟩), up2_ne (by omega), up2_ne (by omega), g6 99 (by omega) (by omega)]
          · rw [if_neg e, up2_ne q3, up2_ne q2, g6 j q2 q3]
      | succ m ih =>
        intro k st' g1 g2 g3 g4 g5 g6
        have ek : Unit → wr ((k : Int) - 1) = ((k - 1 : Nat) : Int) := fun _ => by rw [wr_id (by omega) (by omega)]; omega
        have ek2 : Unit → wr ((k : Int) + -1) = ((k - 1 : Nat) : Int) := fun _ => by rw [wr_id (by omega) (by omega)]; omega
        rw [awu 57 3]
        try simp only [awu 57 4, pe57, xs, i_load, i_loadR, i_inc, lg, lp, true_and, and_true, List.length_cons, List.length_nil, Nat.reduceAdd, Nat.reduceLeDiff, Nat.zero_le, Int.toNat_natCast, natLit, k0, k1, l1, k2, l2, ek (), ek2 ()]
        refine ⟨fun h => by omega, fun _ => ⟨by omega, by omega, by omega, by omega, ?_⟩⟩
        refine ih (k - 1) _ (by omega) (by omega) (by omega) ?_ ?_ ?_
        · intro i hi
          rw [up2_ne (by omega), up2_self, up2_self, up2_ne (by omega), upf_n (by omega), upf_n (by omega)]
          exact g4 i (by omega)
        · intro i q1 q2
          rw [up2_ne (by omega), up2_self, up2_self, up2_ne (by omega)]
          by_cases e : i = k
          · subst e
            rw [upf_s, upf_s]
            exact g4 _ (by omega)
          · rw [upf_n e, upf_n e]
            exact g5 i (by omega) q2
        · intro j hj hj2
          rw [up2_ne hj2, up2_ne hj]
          exact g6 j hj hj2
    try simp only [awu 57 1, awu 57 2, pe57, xs, i_load, i_loadR, i_inc, lg, lp, true_and, and_true, List.length_cons, List.length_nil, Nat.reduceAdd, Nat.reduceLeDiff, Nat.zero_le, Int.toNat_natCast, natLit, k0, hc]
    exact ⟨fun _ => key (n - p) n st hpn (Nat.le_refl _) rfl hf (fun i a b => by omega) (fun _ _ _ => rfl), fun h => absurd trivial h⟩
theorem sp_mmore {d n : Nat} {st : St} {f : Nat → Nat} {w : Nat} {Q : Rn} (hc : st 99 14 = n) (hn : n ≤ 120) (hf : ∀ k, k < n → st 104 k = wl (f k) ∧ st 105 k = wc (f k)) (hs : Srt f n) (h0 : Mm f n 0) (hw : wf w) (hq : Q (vi (lk f n w (wl w) : Nat)) st) : MS (d + 3) 58 [vr 99, vi (wl w : Nat), vi (wc w : Nat)] st Q := by
  have k0 : kl 99 = 12 := rfl
  have hw10 := hw.1
  have hcl := wc_lt w
  refine MS_v [vr 99, vi (wl w : Nat), vi (wc w : Nat), none, none] rfl rfl rfl rfl ?_
  try simp only [awu 58 0, pe58, xs, i_load, i_loadR, i_inc, lg, lp, true_and, and_true, List.length_cons, List.length_nil, Nat.reduceAdd, Nat.reduceLeDiff, Nat.zero_le, Int.toNat_natCast, natLit, k0]
  have key : ∀ m k : Nat, k ≤ wl w + 1 → wl w + 1 - k = m → AW (P 58) Q (MS (d + 2)) 0 (fun _ => 0) 1 [vr 99, vi (wl w : Nat), vi (wc w : Nat), vi (lk f n w (k - 1) : Nat), vi k] [] st := by
    intro m
    induction m with
    | zero =>
      intro k g1 g2
      have : k = wl w + 1 := by omega
      subst this
      rw [awu 58 1]
      try simp only [awu 58 6, pe58, xs, i_load, i_loadR, i_inc, lg, lp, true_and, and_true, List.length_cons, List.length_nil, Nat.reduceAdd, Nat.reduceLeDiff, Nat.zero_le, Int.toNat_natCast, natLit, k0]
      exact ⟨fun _ => hq, fun h => by omega⟩
    | succ m ih =>
      intro k g1 g2
      have hkw : k ≤ wl w := by omega
      have hle := lk_le (f := f) (n := n) (w := w) (k - 1)
      have e1 : Unit → wr (((wl w : Nat) : Int) - k) = ((wl w - k : Nat) : Int) := fun _ => by rw [wr_id (by omega) (by omega)]; omega
      have e2 : Unit → wr (2 * ((wl w - k : Nat) : Int)) = ((2 * (wl w - k) : Nat) : Int) := fun _ => by rw [wr_id (by omega) (by omega)]; omega
      have e3 : bshr ((wc w : Nat) : Int) ((2 * (wl w - k) : Nat) : Int) = ((wc (bg w k) : Nat) : Int) := by rw [bshr_nat _ _ (by omega) (by omega), wc_bg hw hkw]
      have e4 : (k : Int) = ((wl (bg w k) : Nat) : Int) := by rw [wl_bg hw hkw]
      have e5 : Unit → wr ((k : Int) + 1) = ((k + 1 : Nat) : Int) := fun _ => by rw [wr_id (by omega) (by omega)]; omega
      have e6 : lk f n w k = lk f n w (k - 1) + (if mmB f n (bg w k) then 0 else 1) := by
        cases k with
        | zero =>
          have : mmB f n (bg w 0) = true := mmB_iff.mpr (by rw [bg_0 hw]; exact h0)
          simp [this]
        | succ j => rfl
      have ih' := ih (k + 1) (by omega) (by omega)
      rw [show k + 1 - 1 = k by omega, e6] at ih'
      rw [awu 58 1]
      try simp only [awu 58 2, pe58, xs, i_load, i_loadR, i_inc, lg, lp, true_and, and_true, List.length_cons, List.length_nil, Nat.reduceAdd, Nat.reduceLeDiff, Nat.zero_le, Int.toNat_natCast, natLit, k0, e1 (), e2 (), e3]
      refine ⟨fun h => by omega, fun _ => ?_⟩
      have hmno : ∀ R : Rn, (∀ p, IsPl (fun i => (f i : Int)) n (bg w k) p → R (vi (p : Nat)) st) → MS (d + 2) 55 [vr 99, vi k, vi (wc (bg w k) : Nat)] st R := by
        intro R hR
        rw [e4]
        exact sp_mno hc hn hf hs hR
      refine hmno _ (fun p hp => ?_)
      have hmm := IsPl_mm hs hp
      dsimp only
      try simp only [awu 58 2, pe58, xs, i_load, i_loadR, i_inc, lg, lp, true_and, and_true, List.length_cons, List.length_nil, Nat.reduceAdd, Nat.reduceLeDiff, Nat.zero_le, Int.toNat_natCast, natLit, k0, e1 (), e2 (), e3]
      have hmis : ∀ R : Rn, R (vi (if p < n ∧ f p = bg w k then 1 else 0)) st → MS (d + 2) 56 [vr 99, vi p, vi k, vi (wc (bg w k) : Nat)] st R := by
        intro R hR
        rw [e4]
        exact sp_misn hc hn hf hR
      refine hmis _ ?_
      dsimp only
      by_cases hin : Mm f n (bg w k)
      · rw [if_pos (hmm.mp hin)]
        rw [if_pos (mmB_iff.mpr hin), Nat.add_zero] at ih'
        try simp only [awu 58 3, awu 58 4, awu 58 5, pe58, xs, i_load, i_loadR, i_inc, lg, lp, true_and, and_true, List.length_cons, List.length_nil, Nat.reduceAdd, Nat.reduceLeDiff, Nat.zero_le, Int.toNat_natCast, natLit, k0, e5 ()]
        refine ⟨fun h => absurd h (by decide), fun _ => ?_⟩
        rw [Int.add_zero, wr_id (by omega) (by omega)]
        exact ih'
      · rw [if_neg (fun h => hin (hmm.mpr h))]
        rw [if_neg (fun h => hin (mmB_iff.mp h))] at ih'
        try simp only [awu 58 3, awu 58 4, awu 58 5, pe58, xs, i_load, i_loadR, i_inc, lg, lp, true_and, and_true, List.length_cons, List.length_nil, Nat.reduceAdd, Nat.reduceLeDiff, Nat.zero_le, Int.toNat_natCast, natLit, k0, e5 ()]
        refine ⟨fun _ => ?_, fun h => absurd trivial h⟩
        rw [wr_id (by omega) (by omega)]
        exact ih'
  exact key (wl w + 1) 0 (by omega) (by omega)
