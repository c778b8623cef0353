/-! merges of the reference -/
def Sm (st : St) (n q lo : Nat) : Nat → FS → FS → Prop
  | 0, F, G => F = G
  | k + 1, F, G => ∃ (M : FS) (a b : Nat), Sm st n q lo k F M ∧ a < b ∧ b < n ∧ M.1 a = a ∧ M.1 b = b ∧ FI n M ∧ LA n q M ∧ G = ab M a b ∧ st 113 (lo + k) = b ∧ st 114 (lo + k) = M.2.1 a ∧ st 115 (lo + k) = M.2.2.1 a ∧ ∀ l, l < q → st 116 (4 * (lo + k) + l) = M.2.2.2 (4 * a + l)
theorem Sm_congr {st st' : St} {n q lo : Nat} (hq4 : q ≤ 4) : ∀ {k : Nat} {F G : FS}, (∀ i, i < lo + k → st' 113 i = st 113 i ∧ st' 114 i = st 114 i ∧ st' 115 i = st 115 i) → (∀ i, i < 4 * (lo + k) → st' 116 i = st 116 i) → Sm st n q lo k F G → Sm st' n q lo k F G
  | 0, _, _, _, _, h => h
  | k + 1, F, G, he, hk, ⟨M, a, b, h1, h2, h3, h4, h5, h6, h7, h8, h9, h10, h11, h12⟩ => ⟨M, a, b, Sm_congr hq4 (fun i hi => he i (by omega)) (fun i hi => hk i (by omega)) h1, h2, h3, h4, h5, h6, h7, h8, by rw [(he (lo + k) (by omega)).1]; exact h9, by rw [(he (lo + k) (by omega)).2.1]; exact h10, by rw [(he (lo + k) (by omega)).2.2]; exact h11, fun l hl => by rw [hk _ (by omega)]; exact h12 l hl⟩
theorem Sm_len {st : St} {n q lo : Nat} : ∀ {k : Nat} {F G : FS}, Sm st n q lo k F G → cR G n + k = cR F n
  | 0, F, G, h => by
    have h : F = G := h
    rw [h]; rfl
  | k + 1, F, G, ⟨M, a, b, h1, h2, h3, h4, h5, h6, h6', h7, _⟩ => by
    have ih := Sm_len h1
    have := cR_ab (F := M) h2 h3 h5
    rw [h7]
    omega
theorem Sm_FI {st : St} {n q lo : Nat} : ∀ {k : Nat} {F G : FS}, FI n F → LA n q F → Sm st n q lo k F G → FI n G ∧ LA n q G
  | 0, F, G, hF, hL, h => by
    have h : F = G := h
    rw [← h]; exact ⟨hF, hL⟩
  | k + 1, F, G, hF, hL, ⟨M, a, b, h1, h2, h3, h4, h5, h6, h6', h7, _⟩ => by
    rw [h7]
    exact ⟨ab_FI h6 h2 h3, LA_ab h6' (by omega) h3⟩
def FrM (st st' : St) : Prop := ∀ j i, j < 99 ∨ (j = 99 ∧ i ≠ 19 ∧ i ≠ 24 ∧ i ≠ 25 ∧ i ≠ 27) ∨ (99 < j ∧ j < 109) ∨ 117 < j → st' j i = st j i
set_option maxHeartbeats 1000000 in
theorem sp_muntie {d n q lo k : Nat} {st : St} {F G : FS} {Q : Rn} (hn : n ≤ 120) (hq4 : q ≤ 4) (hC : MR st n q G) (hj : st 99 24 = (lo + k : Nat)) (hjn : lo + k ≤ 120) (hS : Sm st n q lo k F G)
    (hq : ∀ st' : St, MR st' n q F → st' 99 24 = lo → (∀ j i, ¬ (j = 99 ∧ (i = 19 ∨ i = 24)) → j < 109 ∨ 112 < j → st' j i = st j i) → Q none st') : MS (d + 1) 65 [vr 99, vi lo] st Q := by
  have k0 : kl 99 = 12 := rfl
  have k1 : kl 109 = 50 := rfl
  have l1 : len 109 = 161 := rfl
  have k2 : kl 110 = 50 := rfl
  have l2 : len 110 = 161 := rfl
  have k3 : kl 111 = 52 := rfl
  have l3 : len 111 = 161 := rfl
  have k4 : kl 112 = 50 := rfl
  have l4 : len 112 = 644 := rfl
  have k5 : kl 113 = 50 := rfl
  have l5 : len 113 = 161 := rfl
  have k6 : kl 114 = 50 := rfl
  have l6 : len 114 = 161 := rfl
  have k7 : kl 115 = 52 := rfl
  have l7 : len 115 = 161 := rfl
  have k8 : kl 116 = 50 := rfl
  have l8 : len 116 = 644 := rfl
  have key : ∀ (k : Nat) (s2 : St) (G : FS) (u2 u3 u4 : V), MR s2 n q G → s2 99 24 = (lo + k : Nat) → lo + k ≤ 120 → Sm st n q lo k F G → (∀ j i, ¬ (j = 99 ∧ (i = 19 ∨ i = 24)) → j < 109 ∨ 112 < j → s2 j i = st j i) → AW (P 65) Q (MS d) 0 (fun _ => 0) 0 [vr 99, vi lo, u2, u3, u4] [] s2 := by
    intro k
    induction k with
    | zero =>
      intro s2 G u2 u3 u4 g1 g2 g3 g4 g5
      have g4 : F = G := g4
      subst g4
      rw [awu 65 0]
      try simp only [awu 65 5, pe65, xs, i_load, i_loadR, i_inc, lg, lp, true_and, and_true, List.length_cons, List.length_nil, Nat.reduceAdd, Nat.reduceLeDiff, Nat.zero_le, Int.toNat_natCast, natLit, k0, g2]
      exact ⟨fun _ => hq s2 g1 g2 g5, fun h => by omega⟩
    | succ k ih =>
      intro s2 G u2 u3 u4 g1 g2 g3 g4 g5
      obtain ⟨M, a, b, h1, hab, hb, ua, ub, hM, hLM, rfl, e5, e6, e7, e8⟩ := g4
      obtain ⟨c14, c2, c1, c4, c19⟩ := g1
      have hra := hM.2.2.1 a (by omega)
      have hcR := cR_ab (F := M) hab hb ub
      have hcRl : cR M n ≤ n := cn_le n
      have w1 : Unit → wr (((lo + (k + 1) : Nat) : Int) - 1) = ((lo + k : Nat) : Int) := fun _ => by rw [wr_id (by omega) (by omega)]; omega
      generalize hs3 : up2 s2 99 24 (lo + k : Nat) = s3
      have f3 : ∀ j i, ¬ (j = 99 ∧ i = 24) → s3 j i = s2 j i := fun j i h => by
        rw [← hs3, up2_at]
        by_cases e : j = 99
        · subst e
          rw [if_pos rfl, if_neg (fun z => h ⟨rfl, z⟩)]
        · rw [if_neg e]
      have j3 : s3 99 24 = (lo + k : Nat) := by rw [← hs3, up2_self, upf_s]
      have r5 : s3 113 (lo + k) = b := by rw [f3 113 _ (by omega), g5 113 _ (by omega) (by omega)]; exact e5
      have r6 : s3 114 (lo + k) = M.2.1 a := by rw [f3 114 _ (by omega), g5 114 _ (by omega) (by omega)]; exact e6
      have r7 : s3 115 (lo + k) = M.2.2.1 a := by rw [f3 115 _ (by omega), g5 115 _ (by omega) (by omega)]; exact e7
      have r8 : ∀ l, l < q → s3 116 (4 * (lo + k) + l) = M.2.2.2 (4 * a + l) := fun l hl => by rw [f3 116 _ (by omega), g5 116 _ (by omega) (by omega)]; exact e8 l hl
      have r1 : s3 109 b = (a : Nat) := by
        rw [f3 109 _ (by omega), (c1 b hb).1]
        show (if updN M.1 b a b = b then -1 else ((updN M.1 b a b : Nat) : Int)) = _
        unfold updN
        rw [if_pos rfl, if_neg (by omega)]
      -- the letters
      have L : ∀ m l : Nat, ∀ s4 : St, l ≤ q → q - l = m → (∀ i, i < n → s4 109 i = (if M.1 i = i then -1 else (M.1 i : Int)) ∧ s4 110 i = M.2.1 i ∧ s4 111 i = M.2.2.1 i) → (∀ i, i < 4 * n → s4 112 i = if 4 * a ≤ i ∧ i < 4 * a + l then M.2.2.2 i else abk M a b 4 i) → s4 99 19 = (cR (ab M a b) n : Nat) → s4 99 24 = (lo + k : Nat) → (∀ j i, ¬ (j = 99 ∧ (i = 19 ∨ i = 24)) → j < 109 ∨ 112 < j → s4 j i = st j i) → AW (P 65) Q (MS d) 0 (fun _ => 0) 2 [vr 99, vi lo, vi b, vi a, vi l] [] s4 := by
        intro m
        induction m with
        | zero =>
          intro l s4 y0 y1 z1 z4 z19 z24 zf
          have : l = q := by omega
          subst this
          have e2 : s4 99 2 = l := by rw [zf 99 2 (by omega) (by omega), ← g5 99 2 (by omega) (by omega)]; exact c2
          have w2 : Unit → wr ((cR (ab M a b) n : Int) + 1) = (cR M n : Int) := fun _ => by rw [wr_id (by omega) (by omega)]; omega
          rw [awu 65 2]
          try simp only [awu 65 4, pe65, xs, i_load, i_loadR, i_inc, lg, lp, true_and, and_true, List.length_cons, List.length_nil, Nat.reduceAdd, Nat.reduceLeDiff, Nat.zero_le, Int.toNat_natCast, natLit, k0, e2, z19, w2 ()]
          refine ⟨fun _ => ?_, fun h => by omega⟩
          refine ih _ M _ _ _ ⟨?_, ?_, fun i hi => ?_, fun i hi => ?_, ?_⟩ ?_ (by omega) h1 (fun j i h1 h2 => ?_)
          · rw [up2_at, if_pos rfl, if_neg (by omega), zf 99 14 (by omega) (by omega), ← g5 99 14 (by omega) (by omega)]; exact c14
          · rw [up2_at, if_pos rfl, if_neg (by omega)]; exact e2
          · rw [up2_ne (by omega), up2_ne (by omega), up2_ne (by omega)]; exact z1 i hi
          · rw [up2_ne (by omega), z4 i hi]
            split
            · rfl
            · unfold abk
              split
              · rename_i q1 q2
                have r1 := hLM b (i - 4 * a) hb (by omega) (by omega)
                rw [r1]
                exact q2.2.2.symm
              · rfl
          · rw [up2_at, if_pos rfl, if_pos rfl]
          · rw [up2_at, if_pos rfl, if_neg (by omega)]; exact z24
          · rw [up2_at]
            by_cases e : j = 99
            · subst e
              rw [if_pos rfl, if_neg (by omega)]; exact zf 99 i h1 h2
            · rw [if_neg e]; exact zf j i h1 h2
        | succ m ihm =>
          intro l s4 y0 y1 z1 z4 z19 z24 zf
          have hl : l < q := by omega
          have e2 : s4 99 2 = q := by rw [zf 99 2 (by omega) (by omega), ← g5 99 2 (by omega) (by omega)]; exact c2
          have e9 : s4 116 (4 * (lo + k) + l) = M.2.2.2 (4 * a + l) := by rw [zf 116 _ (by omega) (by omega)]; exact e8 l hl
          have w1 : Unit → wr (4 * (a : Int)) = ((4 * a : Nat) : Int) := fun _ => by rw [wr_id (by omega) (by omega)]; omega
          have w2 : Unit → wr (((4 * a : Nat) : Int) + (l : Int)) = ((4 * a + l : Nat) : Int) := fun _ => by rw [wr_id (by omega) (by omega)]; omega
          have w3 : Unit → wr (4 * ((lo + k : Nat) : Int)) = ((4 * (lo + k) : Nat) : Int) := fun _ => by rw [wr_id (by omega) (by omega)]; omega
          have w4 : Unit → wr (((4 * (lo + k) : Nat) : Int) + (l : Int)) = ((4 * (lo + k) + l : Nat) : Int) := fun _ => by rw [wr_id (by omega) (by omega)]; omega
          have w5 : Unit → wr ((l : Int) + 1) = ((l + 1 : Nat) : Int) := fun _ => by rw [wr_id (by omega) (by omega)]; omega
          rw [awu 65 2]
          try simp only [awu 65 3, pe65, xs, i_load, i_loadR, i_inc, lg, lp, true_and, and_true, List.length_cons, List.length_nil, Nat.reduceAdd, Nat.reduceLeDiff, Nat.zero_le, Int.toNat_natCast, natLit, k0, e2, k4, l4, k8, l8, z24, w1 (), w2 (), w3 (), w4 (), w5 (), e9]
          refine ⟨fun h => by omega, fun _ => ⟨by omega, by omega, ?_⟩⟩
          refine ihm (l + 1) _ (by omega) (by omega) (fun i hi => by rw [up2_ne (by omega), up2_ne (by omega), up2_ne (by omega)]; exact z1 i hi) (fun i hi => ?_) (by rw [up2_ne (by omega)]; exact z19) (by rw [up2_ne (by omega)]; exact z24) (fun j i h1 h2 => by rw [up2_ne (by omega)]; exact zf j i h1 h2)
          rw [up2_self]
          by_cases e : i = 4 * a + l
          · subst e
            rw [upf_s, if_pos (by omega)]
          · rw [upf_n e, z4 i hi]
            by_cases e2 : 4 * a ≤ i ∧ i < 4 * a + l
            · rw [if_pos e2, if_pos (by omega)]
            · rw [if_neg e2, if_neg (by omega)]
      have t1 : up2 s3 109 b (-1) 99 24 = (lo + k : Nat) := by rw [up2_ne (by omega)]; exact j3
      have t2 : up2 s3 109 b (-1) 114 (lo + k) = M.2.1 a := by rw [up2_ne (by omega)]; exact r6
      have t3 : up2 (up2 s3 109 b (-1)) 110 a (M.2.1 a) 99 24 = (lo + k : Nat) := by rw [up2_ne (by omega), up2_ne (by omega)]; exact j3
      have t4 : up2 (up2 s3 109 b (-1)) 110 a (M.2.1 a) 115 (lo + k) = M.2.2.1 a := by rw [up2_ne (by omega), up2_ne (by omega)]; exact r7
      rw [awu 65 0]
      try simp only [awu 65 1, pe65, xs, i_load, i_loadR, i_inc, lg, lp, true_and, and_true, List.length_cons, List.length_nil, Nat.reduceAdd, Nat.reduceLeDiff, Nat.zero_le, Int.toNat_natCast, natLit, k0, g2, w1 (), hs3, j3, k5, l5, r5, k1, l1, r1, k6, l6, k2, l2, t1, t2, k7, l7, k3, l3, t3, t4]
      refine ⟨fun h => by omega, fun _ => ⟨by omega, by omega, by omega, by omega, by omega, by omega, by omega, hra, ?_⟩⟩
      refine L q 0 _ (Nat.zero_le _) rfl (fun i hi => ?_) (fun i hi => ?_) ?_ ?_ (fun j i h1 h2 => ?_)
      · obtain ⟨v1, v2, v3⟩ := c1 i hi
        rw [up2_ne (by omega), up2_ne (by omega), up2_self, up2_ne (by omega), up2_self, up2_self, up2_ne (by omega), up2_ne (by omega)]
        refine ⟨?_, ?_, ?_⟩
        · by_cases e : i = b
          · subst e
            rw [upf_s, if_pos ub]
          · rw [upf_n e, f3 109 i (by omega), v1]
            show (if updN M.1 b a i = i then -1 else ((updN M.1 b a i : Nat) : Int)) = _
            unfold updN
            rw [if_neg e]
        · by_cases e : i = a
          · subst e
            rw [upf_s]
          · rw [upf_n e, f3 110 i (by omega), v2]
            exact upf_n e
        · by_cases e : i = a
          · subst e
            rw [upf_s]
          · rw [upf_n e, up2_ne (by omega), f3 111 i (by omega), v3]
            exact upf_n e
      · rw [up2_ne (by omega), up2_ne (by omega), up2_ne (by omega), f3 112 i (by omega), c4 i hi, if_neg (by omega)]
        rfl
      · rw [up2_ne (by omega), up2_ne (by omega), up2_ne (by omega), f3 99 19 (by omega)]; exact c19
      · rw [up2_ne (by omega), up2_ne (by omega), up2_ne (by omega)]; exact j3
      · rw [up2_ne (by omega), up2_ne (by omega), up2_ne (by omega), f3 j i (by omega)]; exact g5 j i h1 h2
  refine MS_v [vr 99, vi lo, none, none, none] rfl rfl rfl rfl ?_
  exact key k st G none none none hC hj hjn hS (fun _ _ _ _ => rfl)
