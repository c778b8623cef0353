/-! the reference lays its tree and its states -/
def TOKm (st : St) (n : Nat) (f : Nat → Nat) (Ex : Nat → Int → Prop) : Prop := st 99 14 = n ∧ n ≤ 120 ∧ (∀ k, k < n → st 104 k = wl (f k) ∧ st 105 k = wc (f k)) ∧ ND f n ∧ (∀ x, Mm f n x ↔ Pf (fun w => ∃ v, Ex w v) x) ∧ TM f n (st 106) Ex ∧ TP f n (st 107) ∧ TC f n (st 108)
def MOK (st : St) (c : Nat) (e : Nat → Nat) (a : Nat) : Prop := st 99 8 = c ∧ c ≤ 40 ∧ (∀ i, i < c → st 101 i = wl (e i) ∧ st 102 i = wc (e i)) ∧ (∀ i, i < c → ok01 (st 103 i)) ∧ Srt e c ∧ ∀ i, i < c → okw a (e i)
/-- the states as at first -/
def FS0 (st : St) (n : Nat) : Prop := (∀ k, k < n → st 109 k = -1 ∧ st 110 k = st 106 k ∧ st 111 k = (if k = 0 then 1 else 0)) ∧ (∀ k, k < 4 * n → st 112 k = st 108 k) ∧ st 99 19 = n ∧ st 99 24 = 0
def FrS (st st' : St) : Prop := ∀ j i, ¬ (j = 99 ∧ (i = 19 ∨ i = 24)) → j < 109 ∨ 112 < j → st' j i = st j i
theorem sp_mlays {d n : Nat} {st : St} {Q : Rn} (hc : st 99 14 = n) (hn : n ≤ 120) (hq : ∀ st' : St, FS0 st' n → FrS st st' → Q none st') : MS (d + 1) 60 [vr 99] st Q := by
  have k0 : kl 99 = 12 := rfl
  have k1 : kl 109 = 50 := rfl
  have l1 : len 109 = 161 := rfl
  have k2 : kl 110 = 50 := rfl
  have l2 : len 110 = 161 := rfl
  have k3 : kl 111 = 52 := rfl
  have l3 : len 111 = 161 := rfl
  have k4 : kl 112 = 50 := rfl
  have l4 : len 112 = 644 := rfl
  have k6 : kl 106 = 50 := rfl
  have l6 : len 106 = 161 := rfl
  have k8 : kl 108 = 50 := rfl
  have l8 : len 108 = 644 := rfl
  have e4 : Unit → wr (4 * (n : Int)) = ((4 * n : Nat) : Int) := fun _ => by rw [wr_id (by omega) (by omega)]; omega
  have L2 : ∀ m k : Nat, ∀ s2 : St, k ≤ 4 * n → 4 * n - k = m → (∀ j, j < 109 ∨ 112 < j → s2 j = st j) → (∀ k, k < n → s2 109 k = -1 ∧ s2 110 k = st 106 k ∧ s2 111 k = (if k = 0 then 1 else 0)) → (∀ i, i < k → s2 112 i = st 108 i) → AW (P 60) Q (MS d) 0 (fun _ => 0) 7 [vr 99, vi k] [] s2 := by
    intro m
    induction m with
    | zero =>
      intro k s2 g1 g2 g3 g4 g5
      have : k = 4 * n := by omega
      subst this
      have hc' : s2 99 14 = n := by rw [g3 99 (by omega)]; exact hc
      rw [awu 60 7]
      try simp only [awu 60 9, pe60, xs, i_load, i_loadR, i_inc, lg, lp, true_and, and_true, List.length_cons, List.length_nil, Nat.reduceAdd, Nat.reduceLeDiff, Nat.zero_le, Int.toNat_natCast, natLit, k0, hc', e4 ()]
      refine ⟨fun _ => hq _ ⟨fun i hi => ?_, fun i hi => ?_, ?_, ?_⟩ ?_, fun h => by omega⟩
      · rw [up2_ne (by omega), up2_ne (by omega), up2_ne (by omega), up2_ne (by omega), up2_ne (by omega), up2_ne (by omega), up2_ne (by omega), up2_ne (by omega), g3 106 (by omega)]
        exact g4 i hi
      · rw [up2_ne (by omega), up2_ne (by omega), up2_ne (by omega), up2_ne (by omega), g3 108 (by omega)]
        exact g5 i hi
      · simp [up2_at]
      · simp [up2_at]
      · intro j i h1 h2
        simp only [up2_at]
        by_cases e : j = 99
        · subst e
          have h3 : i ≠ 19 := fun e => h1 ⟨rfl, Or.inl e⟩
          have h4 : i ≠ 24 := fun e => h1 ⟨rfl, Or.inr e⟩
          simp [h3, h4, g3 99]
        · simp [e, g3 j h2]
    | succ m ih =>
      intro k s2 g1 g2 g3 g4 g5
      have hc' : s2 99 14 = n := by rw [g3 99 (by omega)]; exact hc
      have e8 : s2 108 k = st 108 k := by rw [g3 108 (by omega)]
      have ew : Unit → wr ((k : Int) + 1) = ((k + 1 : Nat) : Int) := fun _ => by rw [wr_id (by omega) (by omega)]; omega
      rw [awu 60 7]
      try simp only [awu 60 8, awu 60 9, pe60, xs, i_load, i_loadR, i_inc, lg, lp, true_and, and_true, List.length_cons, List.length_nil, Nat.reduceAdd, Nat.reduceLeDiff, Nat.zero_le, Int.toNat_natCast, natLit, k0, hc', e4 (), k4, l4, k8, l8, e8, ew ()]
      refine ⟨fun h => by omega, fun _ => ⟨by omega, by omega, ?_⟩⟩
      refine ih (k + 1) _ (by omega) (by omega) (fun j hj => by rw [up2_ne (by omega)]; exact g3 j hj) (fun i hi => by rw [up2_ne (by omega), up2_ne (by omega), up2_ne (by omega)]; exact g4 i hi) (fun i hi => ?_)
      rw [up2_self]
      by_cases z : i = k
      · subst z
        rw [upf_s]
      · rw [upf_n z]
        exact g5 i (by omega)
  have L1 : ∀ m k : Nat, ∀ s1' : St, k ≤ n → n - k = m → (∀ j, j < 109 ∨ 111 < j → s1' j = st j) → (∀ i, i < k → s1' 109 i = -1 ∧ s1' 110 i = st 106 i ∧ s1' 111 i = (if i = 0 then 1 else 0)) → AW (P 60) Q (MS d) 0 (fun _ => 0) 1 [vr 99, vi k] [] s1' := by
    intro m
    induction m with
    | zero =>
      intro k s1' g1 g2 g3 g4
      have : k = n := by omega
      subst this
      have hc' : s1' 99 14 = k := by rw [g3 99 (by omega)]; exact hc
      rw [awu 60 1]
      try simp only [awu 60 6, pe60, xs, i_load, i_loadR, i_inc, lg, lp, true_and, and_true, List.length_cons, List.length_nil, Nat.reduceAdd, Nat.reduceLeDiff, Nat.zero_le, Int.toNat_natCast, natLit, k0, hc']
      exact ⟨fun _ => L2 (4 * k) 0 s1' (Nat.zero_le _) rfl (fun j hj => g3 j (by omega)) g4 (fun i hi => by omega), fun h => by omega⟩
    | succ m ih =>
      intro k s1' g1 g2 g3 g4
      have hc' : s1' 99 14 = n := by rw [g3 99 (by omega)]; exact hc
      have e6 : up2 s1' 109 k (-1) 106 k = st 106 k := by rw [up2_ne (by omega), g3 106 (by omega)]
      have ew : Unit → wr ((k : Int) + 1) = ((k + 1 : Nat) : Int) := fun _ => by rw [wr_id (by omega) (by omega)]; omega
      rw [awu 60 1]
      try simp only [awu 60 2, awu 60 3, awu 60 4, awu 60 5, pe60, xs, i_load, i_loadR, i_inc, lg, lp, true_and, and_true, List.length_cons, List.length_nil, Nat.reduceAdd, Nat.reduceLeDiff, Nat.zero_le, Int.toNat_natCast, natLit, k0, hc', k1, l1, k2, l2, k3, l3, k6, l6, e6, ew ()]
      have fin : ∀ v : Int, v = (if k = 0 then 1 else 0) → AW (P 60) Q (MS d) 0 (fun _ => 0) 1 [vr 99, vi (k + 1 : Nat)] [] (up2 (up2 (up2 s1' 109 k (-1)) 110 k (st 106 k)) 111 k v) := by
        intro v hv
        refine ih (k + 1) _ (by omega) (by omega) (fun j hj => by rw [up2_ne (by omega), up2_ne (by omega), up2_ne (by omega)]; exact g3 j hj) (fun i hi => ?_)
        simp only [up2_at]
        by_cases z : i = k
        · subst z
          simp [hv]
        · simp [z, g4 i (by omega)]
      refine ⟨fun h => by omega, fun _ => ⟨by omega, by omega, by omega, ?_⟩⟩
      by_cases hk : k = 0
      · subst hk
        exact ⟨fun h => absurd rfl h, fun _ => ⟨by omega, ok01_1, fin 1 rfl⟩⟩
      · exact ⟨fun _ => ⟨by omega, ok01_0, fin 0 (by rw [if_neg hk])⟩, fun h => by omega⟩
  refine MS_v [vr 99, none] rfl rfl rfl rfl ?_
  try simp only [awu 60 0, pe60, xs, i_load, i_loadR, i_inc, lg, lp, true_and, and_true, List.length_cons, List.length_nil, Nat.reduceAdd, Nat.reduceLeDiff, Nat.zero_le, Int.toNat_natCast, natLit, k0]
  exact L1 n 0 st (Nat.zero_le _) rfl (fun _ _ => rfl) (fun i hi => by omega)
def FrT (st st' : St) : Prop := ∀ j i, ¬ (j = 99 ∧ (i = 14 ∨ i = 19 ∨ i = 24)) → j < 104 ∨ 112 < j → st' j i = st j i
set_option maxHeartbeats 1000000 in
theorem sp_layTree {d c a : Nat} {st : St} {e : Nat → Nat} {Q : Rn} (hM : MOK st c e a) (hcp : Cp 120 (Pf (fun w => ∃ v, ExR e (st 103) c (-1) w v)))
    (hq : ∀ (st' : St) (f : Nat → Nat) (n : Nat), TOKm st' n f (ExR e (st 103) c (-1)) → FS0 st' n → FrT st st' → Q none st') : MS (d + 4) 59 [vr 99] st Q := by
  obtain ⟨hsc, hc40, he, h01, hes, hok⟩ := id hM
  have k0 : kl 99 = 12 := rfl
  have k1 : kl 101 = 50 := rfl
  have l1 : len 101 = 40 := rfl
  have k2 : kl 102 = 50 := rfl
  have l2 : len 102 = 40 := rfl
  have k3 : kl 103 = 52 := rfl
  have l3 : len 103 = 40 := rfl
  have k4 : kl 104 = 50 := rfl
  have l4 : len 104 = 161 := rfl
  have k5 : kl 105 = 50 := rfl
  have l5 : len 105 = 161 := rfl
  have k6 : kl 106 = 50 := rfl
  have l6 : len 106 = 161 := rfl
  have k7 : kl 107 = 50 := rfl
  have l7 : len 107 = 161 := rfl
  have k8 : kl 108 = 50 := rfl
  have l8 : len 108 = 644 := rfl
  have hwfE : ∀ w, (∃ v, ExR e (st 103) c (-1) w v) → wf w := by
    rintro w ⟨v, i, h1, h2, rfl, h4⟩
    exact okw_wf (hok i h1)
  -- marks
  have L5 : ∀ m k : Nat, ∀ (s5 : St) (f : Nat → Nat) (n : Nat) (u : V), k ≤ c → c - k = m → s5 99 14 = n → n ≤ 120 → (∀ i, i < n → s5 104 i = wl (f i) ∧ s5 105 i = wc (f i)) → ND f n → (∀ x, Mm f n x ↔ Pf (fun w => ∃ v, ExR e (st 103) c (-1) w v) x) → TM f n (s5 106) (ExR e (st 103) k (-1)) → TP f n (s5 107) → TC f n (s5 108) → (∀ j i, ¬ (j = 99 ∧ i = 14) → j < 104 ∨ 108 < j → s5 j i = st j i) → AW (P 59) Q (MS (d + 3)) 0 (fun _ => 0) 16 [vr 99, vi k, u] [] s5 := by
    intro m
    induction m with
    | zero =>
      intro k s5 f n u g1 g2 g3 g4 g5 g6 g7 g8 g9 g10 g11
      have : k = c := by omega
      subst this
      have hsc' : s5 99 8 = k := by rw [g11 99 8 (by omega) (by omega)]; exact hsc
      rw [awu 59 16]
      try simp only [awu 59 21, pe59, xs, i_load, i_loadR, i_inc, lg, lp, true_and, and_true, List.length_cons, List.length_nil, Nat.reduceAdd, Nat.reduceLeDiff, Nat.zero_le, Int.toNat_natCast, natLit, k0, hsc']
      refine ⟨fun _ => ?_, fun h => by omega⟩
      refine sp_mlays g3 g4 (fun st' q1 q2 => ?_)
      have e14 : st' 99 14 = n := by rw [q2 99 14 (by omega) (by omega)]; exact g3
      have fe : ∀ j, 100 ≤ j → j < 109 → st' j = s5 j := fun j a1 a2 => by funext i; exact q2 j i (by omega) (by omega)
      dsimp only
      refine hq st' f n ⟨e14, g4, ?_, g6, g7, ?_, ?_, ?_⟩ q1 (fun j i a1 a2 => ?_)
      · rw [fe 104 (by omega) (by omega), fe 105 (by omega) (by omega)]
        exact g5
      · rw [fe 106 (by omega) (by omega)]
        exact g8
      · rw [fe 107 (by omega) (by omega)]
        exact g9
      · rw [fe 108 (by omega) (by omega)]
        exact g10
      · rw [q2 j i (by omega) (by omega)]
        exact g11 j i (by omega) (by omega)
    | succ m ih =>
      intro k s5 f n u g1 g2 g3 g4 g5 g6 g7 g8 g9 g10 g11
      have hsc' : s5 99 8 = c := by rw [g11 99 8 (by omega) (by omega)]; exact hsc
      have e1 : s5 101 k = wl (e k) := by rw [g11 101 k (by omega) (by omega)]; exact (he k (by omega)).1
      have e2 : s5 102 k = wc (e k) := by rw [g11 102 k (by omega) (by omega)]; exact (he k (by omega)).2
      have e3 : s5 103 k = st 103 k := g11 103 k (by omega) (by omega)
      have ew : Unit → wr ((k : Int) + 1) = ((k + 1 : Nat) : Int) := fun _ => by rw [wr_id (by omega) (by omega)]; omega
      have hmem : Mm f n (e k) := by
        rcases Pn_self (okw_wf (hok k (by omega))) with h | ⟨w, rfl, h⟩
        · exact (g7 _).mpr (Or.inl h)
        · exact (g7 _).mpr (Or.inr ⟨e k, ⟨st 103 k, k, by omega, by omega, rfl, rfl⟩, h⟩)
      rw [awu 59 16]
      try simp only [awu 59 17, pe59, xs, i_load, i_loadR, i_inc, lg, lp, true_and, and_true, List.length_cons, List.length_nil, Nat.reduceAdd, Nat.reduceLeDiff, Nat.zero_le, Int.toNat_natCast, natLit, k0, hsc', k1, l1, k2, l2, e1, e2]
      refine ⟨fun h => by omega, fun _ => ⟨by omega, by omega, ?_⟩⟩
      refine sp_mno g3 g4 g5 g6.1 (fun p hp => ?_)
      obtain ⟨hp1, hp2⟩ := (IsPl_mm g6.1 hp).mp hmem
      dsimp only
      try simp only [awu 59 17, awu 59 18, awu 59 19, awu 59 20, pe59, xs, i_load, i_loadR, i_inc, lg, lp, true_and, and_true, List.length_cons, List.length_nil, Nat.reduceAdd, Nat.reduceLeDiff, Nat.zero_le, Int.toNat_natCast, natLit, k0, k3, l3, k6, l6, e3, ew ()]
      have fin : ∀ v : Int, v = (if st 103 k = 1 then 1 else 2) → AW (P 59) Q (MS (d + 3)) 0 (fun _ => 0) 16 [vr 99, vi (k + 1 : Nat), u] [] (up2 s5 106 p v) := by
        intro v hv
        refine ih (k + 1) _ f n _ (by omega) (by omega) (by rw [up2_ne (by omega)]; exact g3) g4 (by rw [up2_ne (by omega), up2_ne (by omega)]; exact g5) g6 g7 (fun i hi => ?_) (by rw [up2_ne (by omega)]; exact g9) (by rw [up2_ne (by omega)]; exact g10) (fun j i a1 a2 => by rw [up2_ne (by omega)]; exact g11 j i a1 a2)
        rw [up2_self]
        by_cases hiq : i = p
        · subst hiq
          rw [upf_s]
          constructor
          · rintro w ⟨j, h1, h2, h3, h4⟩
            have : j = k := Srt_inj hes (by omega) (by omega) (by rw [h3, hp2])
            subst this
            rw [hv, h4]
          · intro h
            exact absurd ⟨k, by omega, by omega, hp2.symm, rfl⟩ (h (st 103 k))
        · rw [upf_n hiq]
          obtain ⟨a, b⟩ := g8 i hi
          have nk : ∀ w j, j < k + 1 → e j = f i → st 103 j = w → j < k := by
            intro w j h1 h3 h4
            rcases Nat.lt_or_ge j k with z | z
            · exact z
            · have : j = k := by omega
              subst this
              exact absurd (Srt_inj g6.1 hi hp1 (by rw [← h3, ← hp2])) hiq
          constructor
          · rintro w ⟨j, h1, h2, h3, h4⟩
            exact a w ⟨j, nk w j h1 h3 h4, h2, h3, h4⟩
          · intro h
            exact b (fun w ⟨j, h1, h2, h3, h4⟩ => h w ⟨j, by omega, h2, h3, h4⟩)
      refine ⟨by omega, ?_⟩
      rcases h01 k (by omega) with e7 | e7
      · exact ⟨fun _ => ⟨by omega, fin 2 (by rw [e7]; rfl)⟩, fun h => absurd e7 h⟩
      · exact ⟨fun h => by omega, fun _ => ⟨by omega, fin 1 (by rw [e7]; rfl)⟩⟩
  -- ways up and down
  have L4 : ∀ m k : Nat, ∀ (s4 : St) (f : Nat → Nat) (n : Nat) (u : V), 1 ≤ k → k ≤ n → n - k = m → s4 99 14 = n → n ≤ 120 → (∀ i, i < n → s4 104 i = wl (f i) ∧ s4 105 i = wc (f i)) → ND f n → (∀ x, Mm f n x ↔ Pf (fun w => ∃ v, ExR e (st 103) c (-1) w v) x) → (∀ i, i < n → s4 106 i = 0) → (s4 107 0 = -1 ∧ ∀ i, 0 < i → i < k → ∃ b, b < i ∧ s4 107 i = (b : Nat) ∧ f b = bg (f i) (wl (f i) - 1)) → (∀ i l, i < n → l < 4 → noF f k (lw (f i) l) (s4 108 (4 * i + l))) → (∀ j i, ¬ (j = 99 ∧ i = 14) → j < 104 ∨ 108 < j → s4 j i = st j i) → AW (P 59) Q (MS (d + 3)) 0 (fun _ => 0) 13 [vr 99, vi k, u] [] s4 := by
    intro m
    induction m with
    | zero =>
      intro k s4 f n u g0 g1 g2 g3 g4 g5 g6 g7 g8 g9 g10 g11
      have : k = n := by omega
      subst this
      rw [awu 59 13]
      try simp only [awu 59 15, pe59, xs, i_load, i_loadR, i_inc, lg, lp, true_and, and_true, List.length_cons, List.length_nil, Nat.reduceAdd, Nat.reduceLeDiff, Nat.zero_le, Int.toNat_natCast, natLit, k0, g3]
      exact ⟨fun _ => L5 c 0 s4 f k u (Nat.zero_le _) rfl g3 g4 g5 g6 g7 (fun i hi => ⟨fun v ⟨j, h1, _⟩ => by omega, fun _ => g8 i hi⟩) g9 g10 g11, fun h => by omega⟩
    | succ m ih =>
      intro k s4 f n u g0 g1 g2 g3 g4 g5 g6 g7 g8 g9 g10 g11
      obtain ⟨hs, hn1, hf0, hw⟩ := id g6
      obtain ⟨w1, w2⟩ := hw k (by omega)
      obtain ⟨w3, b, hb1, hb2⟩ := w2 (by omega)
      have hwl := wf_lt w1
      have hcl := wc_lt (f k)
      have hbk := ND_par g6 (show k < n by omega) (by omega) hb1 hb2
      obtain ⟨h4, h5⟩ := g5 k (by omega)
      have e1 : Unit → wr (((wl (f k) : Nat) : Int) - 1) = ((wl (bg (f k) (wl (f k) - 1)) : Nat) : Int) := fun _ => by rw [wl_bg w1 (by omega), wr_id (by have := w1.1; omega) (by have := w1.1; omega)]; omega
      have e2 : bshr ((wc (f k) : Nat) : Int) 2 = ((wc (bg (f k) (wl (f k) - 1)) : Nat) : Int) := by
        have := bshr_nat (wc (f k)) 2 (by omega) (by decide)
        rw [natLit] at this
        rw [this, wc_bg w1 (by omega), show 2 * (wl (f k) - (wl (f k) - 1)) = 2 by omega]
      rw [awu 59 13]
      try simp only [awu 59 14, pe59, xs, i_load, i_loadR, i_inc, lg, lp, true_and, and_true, List.length_cons, List.length_nil, Nat.reduceAdd, Nat.reduceLeDiff, Nat.zero_le, Int.toNat_natCast, natLit, k0, g3, k4, l4, k5, l5, h4, h5, e1 (), e2]
      refine ⟨fun h => by omega, fun _ => ⟨by omega, by omega, ?_⟩⟩
      refine sp_mno g3 g4 g5 hs (fun p hp => ?_)
      obtain ⟨hp1, hp2⟩ := (IsPl_mm hs hp).mp ⟨b, hb1, hb2⟩
      have hpb : p = b := Srt_inj hs hp1 hb1 (by rw [hp2, hb2])
      subst hpb
      have e3 : band ((wc (f k) : Nat) : Int) 3 = ((f k % 4 : Nat) : Int) := by
        rw [band3 _ (by omega)]
        have : wc (f k) % 4 = f k % 4 := by unfold wc; omega
        rw [this]
      have e4 : up2 s4 107 k (p : Nat) 107 k = (p : Nat) := by rw [up2_self, upf_s]
      have e5 : up2 s4 107 k (p : Nat) 105 k = ((wc (f k) : Nat) : Int) := by rw [up2_ne (by omega)]; exact h5
      have e6 : Unit → wr (4 * (p : Int)) = ((4 * p : Nat) : Int) := fun _ => by rw [wr_id (by omega) (by omega)]; omega
      have e7 : Unit → wr (((4 * p : Nat) : Int) + ((f k % 4 : Nat) : Int)) = ((4 * p + f k % 4 : Nat) : Int) := fun _ => by rw [wr_id (by omega) (by omega)]; omega
      have ew : Unit → wr ((k : Int) + 1) = ((k + 1 : Nat) : Int) := fun _ => by rw [wr_id (by omega) (by omega)]; omega
      dsimp only
      try simp only [awu 59 14, pe59, xs, i_load, i_loadR, i_inc, lg, lp, true_and, and_true, List.length_cons, List.length_nil, Nat.reduceAdd, Nat.reduceLeDiff, Nat.zero_le, Int.toNat_natCast, natLit, k0, k5, l5, k7, l7, k8, l8, e3, e4, e5, e6 (), e7 (), ew ()]
      refine ⟨by omega, by omega, by omega, by omega, ?_⟩
      refine ih (k + 1) _ f n _ (by omega) (by omega) (by omega) (by rw [up2_ne (by omega), up2_ne (by omega)]; exact g3) g4 (by rw [up2_ne (by omega), up2_ne (by omega), up2_ne (by omega), up2_ne (by omega)]; exact g5) g6 g7 (fun i hi => by rw [up2_ne (by omega), up2_ne (by omega)]; exact g8 i hi) ⟨?_, ?_⟩ ?_ (fun j i a1 a2 => by rw [up2_ne (by omega), up2_ne (by omega)]; exact g11 j i a1 a2)
      · rw [up2_ne (by omega), up2_self, upf_n (by omega)]
        exact g9.1
      · intro i h1 h2
        rw [up2_ne (by omega), up2_self]
        by_cases hik : i = k
        · subst hik
          rw [upf_s]
          exact ⟨p, hbk, rfl, hb2⟩
        · rw [upf_n hik]
          exact g9.2 i h1 (by omega)
      · intro i l hi hl
        have hbl := bg_lw w1 w3
        rw [up2_self, up2_ne (by omega)]
        obtain ⟨x1, x2⟩ := g10 i l hi hl
        by_cases hx : 4 * i + l = 4 * p + f k % 4
        · have hib : i = p := by omega
          have hll : l = f k % 4 := by omega
          subst hib
          subst hll
          rw [upf_s]
          constructor
          · intro j hj ej
            rw [hb2, hbl] at ej
            rw [Srt_inj hs (show j < n by omega) (show k < n by omega) ej]
          · intro h
            exact absurd (by rw [hb2, hbl]) (h k (by omega))
        · rw [upf_n hx]
          have nk : ∀ j, j < k + 1 → f j = lw (f i) l → j < k := by
            intro j hj ej
            rcases Nat.lt_or_ge j k with z | z
            · exact z
            · exfalso
              have hjk : j = k := by omega
              subst hjk
              obtain ⟨wi, -⟩ := hw i hi
              have hwi : wl (f i) ≤ 9 := by
                have e1 := wl_lw (w := f i) (l := l) hl
                rw [← ej] at e1
                have := w1.1
                omega
              obtain ⟨-, y2, y3, y4⟩ := lw_bg wi hwi hl
              rw [← ej] at y2 y3 y4
              have : f i = f p := by rw [hb2, y2, Nat.add_sub_cancel, y3]
              have := Srt_inj hs hi hb1 this
              omega
          constructor
          · intro j hj ej
            exact x1 j (nk j hj ej) ej
          · intro h
            exact x2 (fun j hj => h j (by omega))
  -- no ways down
  have L3 : ∀ m k : Nat, ∀ (s4 : St) (f : Nat → Nat) (n : Nat) (u : V), k ≤ 4 * n → 4 * n - k = m → s4 99 14 = n → n ≤ 120 → (∀ i, i < n → s4 104 i = wl (f i) ∧ s4 105 i = wc (f i)) → ND f n → (∀ x, Mm f n x ↔ Pf (fun w => ∃ v, ExR e (st 103) c (-1) w v) x) → (∀ i, i < n → s4 106 i = 0) → (∀ i, i < k → s4 108 i = -1) → (∀ j i, ¬ (j = 99 ∧ i = 14) → j < 104 ∨ 108 < j → s4 j i = st j i) → AW (P 59) Q (MS (d + 3)) 0 (fun _ => 0) 10 [vr 99, vi k, u] [] s4 := by
    intro m
    induction m with
    | zero =>
      intro k s4 f n u g1 g2 g3 g4 g5 g6 g7 g8 g9 g11
      have : k = 4 * n := by omega
      subst this
      have e4 : Unit → wr (4 * (n : Int)) = ((4 * n : Nat) : Int) := fun _ => by rw [wr_id (by omega) (by omega)]; omega
      rw [awu 59 10]
      try simp only [awu 59 12, pe59, xs, i_load, i_loadR, i_inc, lg, lp, true_and, and_true, List.length_cons, List.length_nil, Nat.reduceAdd, Nat.reduceLeDiff, Nat.zero_le, Int.toNat_natCast, natLit, k0, g3, e4 (), k7, l7]
      refine ⟨fun _ => ⟨by omega, ?_⟩, fun h => by omega⟩
      refine L4 (n - 1) 1 _ f n u (Nat.le_refl _) g6.2.1 rfl (by rw [up2_ne (by omega)]; exact g3) g4 (by rw [up2_ne (by omega), up2_ne (by omega)]; exact g5) g6 g7 (fun i hi => by rw [up2_ne (by omega)]; exact g8 i hi) ⟨by rw [up2_self]; exact upf_s, fun i a b => by omega⟩ (fun i l hi hl => ?_) (fun j i a1 a2 => by rw [up2_ne (by omega)]; exact g11 j i a1 a2)
      rw [up2_ne (by omega), g9 _ (by omega)]
      constructor
      · intro j hj ej
        have : j = 0 := by omega
        subst this
        rw [g6.2.2.1] at ej
        unfold lw at ej
        omega
      · intro _
        rfl
    | succ m ih =>
      intro k s4 f n u g1 g2 g3 g4 g5 g6 g7 g8 g9 g11
      have e4 : Unit → wr (4 * (n : Int)) = ((4 * n : Nat) : Int) := fun _ => by rw [wr_id (by omega) (by omega)]; omega
      have ew : Unit → wr ((k : Int) + 1) = ((k + 1 : Nat) : Int) := fun _ => by rw [wr_id (by omega) (by omega)]; omega
      rw [awu 59 10]
      try simp only [awu 59 11, pe59, xs, i_load, i_loadR, i_inc, lg, lp, true_and, and_true, List.length_cons, List.length_nil, Nat.reduceAdd, Nat.reduceLeDiff, Nat.zero_le, Int.toNat_natCast, natLit, k0, g3, e4 (), k8, l8, ew ()]
      refine ⟨fun h => by omega, fun _ => ⟨by omega, ?_⟩⟩
      refine ih (k + 1) _ f n u (by omega) (by omega) (by rw [up2_ne (by omega)]; exact g3) g4 (by rw [up2_ne (by omega), up2_ne (by omega)]; exact g5) g6 g7 (fun i hi => by rw [up2_ne (by omega)]; exact g8 i hi) (fun i hi => ?_) (fun j i a1 a2 => by rw [up2_ne (by omega)]; exact g11 j i a1 a2)
      rw [up2_self]
      by_cases z : i = k
      · subst z
        rw [upf_s]
      · rw [upf_n z]
        exact g9 i (by omega)
  -- no marks
  have L2 : ∀ m k : Nat, ∀ (s4 : St) (f : Nat → Nat) (n : Nat) (u : V), k ≤ n → n - k = m → s4 99 14 = n → n ≤ 120 → (∀ i, i < n → s4 104 i = wl (f i) ∧ s4 105 i = wc (f i)) → ND f n → (∀ x, Mm f n x ↔ Pf (fun w => ∃ v, ExR e (st 103) c (-1) w v) x) → (∀ i, i < k → s4 106 i = 0) → (∀ j i, ¬ (j = 99 ∧ i = 14) → j < 104 ∨ 108 < j → s4 j i = st j i) → AW (P 59) Q (MS (d + 3)) 0 (fun _ => 0) 7 [vr 99, vi k, u] [] s4 := by
    intro m
    induction m with
    | zero =>
      intro k s4 f n u g1 g2 g3 g4 g5 g6 g7 g8 g11
      have : k = n := by omega
      subst this
      rw [awu 59 7]
      try simp only [awu 59 9, pe59, xs, i_load, i_loadR, i_inc, lg, lp, true_and, and_true, List.length_cons, List.length_nil, Nat.reduceAdd, Nat.reduceLeDiff, Nat.zero_le, Int.toNat_natCast, natLit, k0, g3]
      exact ⟨fun _ => L3 (4 * k) 0 s4 f k u (Nat.zero_le _) rfl g3 g4 g5 g6 g7 g8 (fun i hi => by omega) g11, fun h => by omega⟩
    | succ m ih =>
      intro k s4 f n u g1 g2 g3 g4 g5 g6 g7 g8 g11
      have ew : Unit → wr ((k : Int) + 1) = ((k + 1 : Nat) : Int) := fun _ => by rw [wr_id (by omega) (by omega)]; omega
      rw [awu 59 7]
      try simp only [awu 59 8, pe59, xs, i_load, i_loadR, i_inc, lg, lp, true_and, and_true, List.length_cons, List.length_nil, Nat.reduceAdd, Nat.reduceLeDiff, Nat.zero_le, Int.toNat_natCast, natLit, k0, g3, k6, l6, ew ()]
      refine ⟨fun h => by omega, fun _ => ⟨by omega, ?_⟩⟩
      refine ih (k + 1) _ f n u (by omega) (by omega) (by rw [up2_ne (by omega)]; exact g3) g4 (by rw [up2_ne (by omega), up2_ne (by omega)]; exact g5) g6 g7 (fun i hi => ?_) (fun j i a1 a2 => by rw [up2_ne (by omega)]; exact g11 j i a1 a2)
      rw [up2_self]
      by_cases z : i = k
      · subst z
        rw [upf_s]
      · rw [upf_n z]
        exact g8 i (by omega)
  -- the nodes
  have L1 : ∀ m k : Nat, ∀ (s2 : St) (f : Nat → Nat) (n : Nat) (u : V), k ≤ c → c - k = m → s2 99 14 = n → n ≤ 120 → (∀ i, i < n → s2 104 i = wl (f i) ∧ s2 105 i = wc (f i)) → Srt f n → (∀ x, Mm f n x ↔ Pf (fun w => ∃ v, ExR e (st 103) k (-1) w v) x) → (∀ j i, ¬ (j = 99 ∧ i = 14) → j < 104 ∨ 105 < j → s2 j i = st j i) → AW (P 59) Q (MS (d + 3)) 0 (fun _ => 0) 1 [vr 99, vi k, u] [] s2 := by
    intro m
    induction m with
    | zero =>
      intro k s2 f n u g1 g2 g3 g4 g5 g6 g7 g8
      have : k = c := by omega
      subst this
      have hsc' : s2 99 8 = k := by rw [g8 99 8 (by omega) (by omega)]; exact hsc
      rw [awu 59 1]
      try simp only [awu 59 6, pe59, xs, i_load, i_loadR, i_inc, lg, lp, true_and, and_true, List.length_cons, List.length_nil, Nat.reduceAdd, Nat.reduceLeDiff, Nat.zero_le, Int.toNat_natCast, natLit, k0, hsc']
      exact ⟨fun _ => L2 n 0 s2 f n u (Nat.zero_le _) rfl g3 g4 g5 (ND_of g6 g7 hwfE) g7 (fun i hi => by omega) (fun j i a1 a2 => g8 j i a1 (by omega)), fun h => by omega⟩
    | succ m ih =>
      intro k s2 f n u g1 g2 g3 g4 g5 g6 g7 g8
      have hsc' : s2 99 8 = c := by rw [g8 99 8 (by omega) (by omega)]; exact hsc
      have hwk := okw_wf (hok k (by omega))
      have hwk10 := hwk.1
      have hcl := wc_lt (e k)
      have ew : Unit → wr ((k : Int) + 1) = ((k + 1 : Nat) : Int) := fun _ => by rw [wr_id (by omega) (by omega)]; omega
      have inner : ∀ q l : Nat, ∀ (s3 : St) (f3 : Nat → Nat) (n3 : Nat), 1 ≤ l → l ≤ wl (e k) + 1 → wl (e k) + 1 - l = q → s3 99 14 = n3 → n3 ≤ 120 → (∀ i, i < n3 → s3 104 i = wl (f3 i) ∧ s3 105 i = wc (f3 i)) → Srt f3 n3 → (∀ x, Mm f3 n3 x ↔ Mm f n x ∨ ∃ j, 1 ≤ j ∧ j < l ∧ x = bg (e k) j) → (∀ j i, ¬ (j = 99 ∧ i = 14) → j < 104 ∨ 105 < j → s3 j i = st j i) → AW (P 59) Q (MS (d + 3)) 0 (fun _ => 0) 3 [vr 99, vi k, vi l] [] s3 := by
        intro q
        induction q with
        | zero =>
          intro l s3 f3 n3 a0 a1 a2 a3 a4 a5 a6 a7 a8
          have : l = wl (e k) + 1 := by omega
          subst this
          have e1 : s3 101 k = wl (e k) := by rw [a8 101 k (by omega) (by omega)]; exact (he k (by omega)).1
          rw [awu 59 3]
          try simp only [awu 59 5, pe59, xs, i_load, i_loadR, i_inc, lg, lp, true_and, and_true, List.length_cons, List.length_nil, Nat.reduceAdd, Nat.reduceLeDiff, Nat.zero_le, Int.toNat_natCast, natLit, k0, k1, l1, e1, ew ()]
          refine ⟨by omega, fun _ => ?_, fun h => by omega⟩
          refine ih (k + 1) s3 f3 n3 _ (by omega) (by omega) a3 a4 a5 a6 (fun x => ?_) a8
          rw [a7, g7]
          constructor
          · rintro ((h | ⟨w, ⟨v, i, h1, h2, h3, h4⟩, h5⟩) | ⟨j, h1, h2, h3⟩)
            · exact Or.inl h
            · exact Or.inr ⟨w, ⟨v, i, by omega, h2, h3, h4⟩, h5⟩
            · exact Or.inr ⟨e k, ⟨st 103 k, k, by omega, by omega, rfl, rfl⟩, j, h1, by omega, h3⟩
          · rintro (h | ⟨w, ⟨v, i, h1, h2, h3, h4⟩, j, h5, h6, h7⟩)
            · exact Or.inl (Or.inl h)
            · by_cases hik : i = k
              · subst hik
                rw [← h3] at h6 h7
                exact Or.inr ⟨j, h5, by omega, h7⟩
              · exact Or.inl (Or.inr ⟨w, ⟨v, i, by omega, h2, h3, h4⟩, j, h5, h6, h7⟩)
        | succ q ihq =>
          intro l s3 f3 n3 a0 a1 a2 a3 a4 a5 a6 a7 a8
          have e1 : s3 101 k = wl (e k) := by rw [a8 101 k (by omega) (by omega)]; exact (he k (by omega)).1
          have e2 : s3 102 k = wc (e k) := by rw [a8 102 k (by omega) (by omega)]; exact (he k (by omega)).2
          have hl : l ≤ wl (e k) := by omega
          have e3 : Unit → wr (((wl (e k) : Nat) : Int) - l) = ((wl (e k) - l : Nat) : Int) := fun _ => by rw [wr_id (by omega) (by omega)]; omega
          have e4 : Unit → wr (2 * ((wl (e k) - l : Nat) : Int)) = ((2 * (wl (e k) - l) : Nat) : Int) := fun _ => by rw [wr_id (by omega) (by omega)]; omega
          have e5 : bshr ((wc (e k) : Nat) : Int) ((2 * (wl (e k) - l) : Nat) : Int) = ((wc (bg (e k) l) : Nat) : Int) := by rw [bshr_nat _ _ (by omega) (by omega), wc_bg hwk hl]
          have e6 : (l : Int) = ((wl (bg (e k) l) : Nat) : Int) := by rw [wl_bg hwk hl]
          have e7 : Unit → wr ((l : Int) + 1) = ((l + 1 : Nat) : Int) := fun _ => by rw [wr_id (by omega) (by omega)]; omega
          have hma : ∀ R : Rn, (∀ (st' : St) (f' : Nat → Nat) (n' : Nat), st' 99 14 = n' → n' ≤ 120 → (∀ k, k < n' → st' 104 k = wl (f' k) ∧ st' 105 k = wc (f' k)) → ndI f3 n3 (bg (e k) l) f' n' → (∀ j i, ¬ (j = 99 ∧ i = 14) → j ≠ 104 → j ≠ 105 → st' j i = s3 j i) → R none st') → MS (d + 3) 57 [vr 99, vi l, vi (wc (bg (e k) l) : Nat)] s3 R := by
            intro R hR
            rw [e6]
            refine sp_madd a3 a4 a5 a6 (Cp_sub hcp ?_) hR
            rintro x (h | h)
            · rcases (a7 x).mp h with h | ⟨j, h1, h2, h3⟩
              · rcases (g7 x).mp h with h | ⟨w, ⟨v, i, h1, h2, h3, h4⟩, h5⟩
                · exact Or.inl h
                · exact Or.inr ⟨w, ⟨v, i, by omega, h2, h3, h4⟩, h5⟩
              · exact Or.inr ⟨e k, ⟨st 103 k, k, by omega, by omega, rfl, rfl⟩, j, h1, by omega, h3⟩
            · exact Or.inr ⟨e k, ⟨st 103 k, k, by omega, by omega, rfl, rfl⟩, l, a0, hl, h⟩
          rw [awu 59 3]
          try simp only [awu 59 4, pe59, xs, i_load, i_loadR, i_inc, lg, lp, true_and, and_true, List.length_cons, List.length_nil, Nat.reduceAdd, Nat.reduceLeDiff, Nat.zero_le, Int.toNat_natCast, natLit, k0, k1, l1, k2, l2, e1, e2, e3 (), e4 (), e5]
          refine ⟨by omega, fun h => by omega, fun _ => ⟨by omega, by omega, ?_⟩⟩
          refine hma _ (fun s5 f5 n5 q1 q2 q3 q4 q5 => ?_)
          dsimp only
          try simp only [awu 59 4, pe59, xs, i_load, i_loadR, i_inc, lg, lp, true_and, and_true, List.length_cons, List.length_nil, Nat.reduceAdd, Nat.reduceLeDiff, Nat.zero_le, Int.toNat_natCast, natLit, k0, e7 ()]
          refine ihq (l + 1) s5 f5 n5 (by omega) (by omega) (by omega) q1 q2 q3 q4.1 (fun x => ?_) (fun j i b1 b2 => by rw [q5 j i b1 (by omega) (by omega)]; exact a8 j i b1 b2)
          rw [q4.2.2, a7]
          constructor
          · rintro ((h | ⟨j, h1, h2, h3⟩) | h)
            · exact Or.inl h
            · exact Or.inr ⟨j, h1, by omega, h3⟩
            · exact Or.inr ⟨l, a0, by omega, h⟩
          · rintro (h | ⟨j, h1, h2, h3⟩)
            · exact Or.inl (Or.inl h)
            · by_cases hj : j = l
              · subst hj
                exact Or.inr h3
              · exact Or.inl (Or.inr ⟨j, h1, by omega, h3⟩)
      rw [awu 59 1]
      try simp only [awu 59 2, pe59, xs, i_load, i_loadR, i_inc, lg, lp, true_and, and_true, List.length_cons, List.length_nil, Nat.reduceAdd, Nat.reduceLeDiff, Nat.zero_le, Int.toNat_natCast, natLit, k0, hsc']
      exact ⟨fun h => by omega, fun _ => inner (wl (e k)) 1 s2 f n (Nat.le_refl _) (by omega) (by omega) g3 g4 g5 g6 (fun x => ⟨Or.inl, fun h => h.elim id (fun ⟨j, a, b, _⟩ => by omega)⟩) g8⟩
  refine MS_v [vr 99, none, none] rfl rfl rfl rfl ?_
  try simp only [awu 59 0, pe59, xs, i_load, i_loadR, i_inc, lg, lp, true_and, and_true, List.length_cons, List.length_nil, Nat.reduceAdd, Nat.reduceLeDiff, Nat.zero_le, Int.toNat_natCast, natLit, k0]
  have hma : ∀ R : Rn, (∀ (st' : St) (f' : Nat → Nat) (n' : Nat), st' 99 14 = n' → n' ≤ 120 → (∀ k, k < n' → st' 104 k = wl (f' k) ∧ st' 105 k = wc (f' k)) → ndI (fun _ => 0) 0 0 f' n' → (∀ j i, ¬ (j = 99 ∧ i = 14) → j ≠ 104 → j ≠ 105 → st' j i = (up2 st 99 14 0) j i) → R none st') → MS (d + 3) 57 [vr 99, vi 0, vi 0] (up2 st 99 14 0) R := by
    intro R hR
    refine sp_madd (f := fun _ => 0) (n := 0) (w := 0) (by rw [up2_self]; exact upf_s) (by omega) (fun k hk => by omega) (fun i j _ h => by omega) (Cp_sub hcp ?_) hR
    rintro x (⟨i, h, _⟩ | h)
    · omega
    · exact Or.inl h
  refine hma _ (fun s5 f5 n5 q1 q2 q3 q4 q5 => ?_)
  dsimp only
  refine L1 c 0 s5 f5 n5 none (Nat.zero_le _) rfl q1 q2 q3 q4.1 (fun x => ?_) (fun j i b1 b2 => ?_)
  · rw [q4.2.2]
    constructor
    · rintro (⟨i, h, _⟩ | h)
      · omega
      · exact Or.inl h
    · rintro (h | ⟨w, ⟨v, i, h1, _⟩, _⟩)
      · exact Or.inr h
      · omega
  · rw [q5 j i b1 (by omega) (by omega), up2_at]
    by_cases e : j = 99
    · subst e
      rw [if_pos rfl, if_neg (fun z => b1 ⟨rfl, z⟩)]
    · rw [if_neg e]
