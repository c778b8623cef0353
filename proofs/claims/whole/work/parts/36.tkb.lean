/-! joinings are taken back (class) -/
def Sg (st : St) (o n lo : Nat) : Nat → FS → FS → Prop
  | 0, F, G => F = G
  | k + 1, F, G => ∃ (M : FS) (a b : Nat), Sg st o n lo k F M ∧ a < b ∧ b < n ∧ M.1 a = a ∧ M.1 b = b ∧ FI n M ∧ G = ab M a b ∧ st (o + 5) (lo + k) = b ∧ st (o + 6) (lo + k) = (chg M a b 4 : Nat)
theorem Sg_congr {st st' : St} {o n lo : Nat} : ∀ {k : Nat} {F G : FS}, (∀ i, i < lo + k → st' (o + 5) i = st (o + 5) i ∧ st' (o + 6) i = st (o + 6) i) → Sg st o n lo k F G → Sg st' o n lo k F G
  | 0, _, _, _, h => h
  | k + 1, F, G, he, ⟨M, a, b, h1, h2, h3, h4, h5, h6, h7, h8, h9⟩ => ⟨M, a, b, Sg_congr (fun i hi => he i (by omega)) h1, h2, h3, h4, h5, h6, h7, by rw [(he (lo + k) (by omega)).1]; exact h8, by rw [(he (lo + k) (by omega)).2]; exact h9⟩
theorem bits7 : ∀ w, w < 128 → (band (w : Nat) 3 = (w % 4 : Nat) ∧ band (w : Nat) 4 = (4 * (w / 4 % 2) : Nat)) ∧ (band (w : Nat) 8 = (8 * (w / 8 % 2) : Nat) ∧ band (w : Nat) 16 = (16 * (w / 16 % 2) : Nat)) ∧ (band (w : Nat) 32 = (32 * (w / 32 % 2) : Nat) ∧ band (w : Nat) 64 = (64 * (w / 64 % 2) : Nat)) := by decide +kernel
theorem chg_bits {n a b : Nat} {M : FS} (h : FI n M) (ha : a < n) : band (chg M a b 4 : Nat) 3 = M.2.1 a ∧ (band (chg M a b 4 : Nat) 4 = 4 * M.2.2.1 a) ∧ ∀ l : Nat, l < 4 → band (chg M a b 4 : Nat) (bshl 8 (l : Int)) = ((if gt M a b l then 8 * 2 ^ l else 0 : Nat) : Int) := by
  have hm := h.2.1 a ha
  have hr := h.2.2.1 a ha
  have e : chg M a b 4 = (M.2.1 a).toNat + 4 * (M.2.2.1 a).toNat + 8 * (if gt M a b 0 then 1 else 0) + 16 * (if gt M a b 1 then 1 else 0) + 32 * (if gt M a b 2 then 1 else 0) + 64 * (if gt M a b 3 then 1 else 0) := by
    show (M.2.1 a).toNat + 4 * (M.2.2.1 a).toNat + (if gt M a b 0 then 8 * 2 ^ 0 else 0) + (if gt M a b 1 then 8 * 2 ^ 1 else 0) + (if gt M a b 2 then 8 * 2 ^ 2 else 0) + (if gt M a b 3 then 8 * 2 ^ 3 else 0) = _
    split <;> split <;> split <;> split <;> rfl
  have g2 : ∀ l, (if gt M a b l then 1 else 0) < 2 := fun l => by split <;> decide
  have q0 := g2 0
  have q1 := g2 1
  have q2 := g2 2
  have q3 := g2 3
  have hr2 : (M.2.2.1 a).toNat < 2 := by rcases hr with q | q <;> rw [q] <;> decide
  have s0 : (if gt M a b 0 then 8 * 2 ^ 0 else 0) = 8 * (if gt M a b 0 then 1 else 0) := by split <;> rfl
  have s1 : (if gt M a b 1 then 8 * 2 ^ 1 else 0) = 16 * (if gt M a b 1 then 1 else 0) := by split <;> rfl
  have s2 : (if gt M a b 2 then 8 * 2 ^ 2 else 0) = 32 * (if gt M a b 2 then 1 else 0) := by split <;> rfl
  have s3 : (if gt M a b 3 then 8 * 2 ^ 3 else 0) = 64 * (if gt M a b 3 then 1 else 0) := by split <;> rfl
  have hlt := chg_lt (F := M) (b := b) hm hr 4
  obtain ⟨⟨x1, x2⟩, ⟨x3, x4⟩, x5, x6⟩ := bits7 (chg M a b 4) (by omega)
  generalize hg0 : (if gt M a b 0 then 1 else 0) = v0 at e q0 s0
  generalize hg1 : (if gt M a b 1 then 1 else 0) = v1 at e q1 s1
  generalize hg2 : (if gt M a b 2 then 1 else 0) = v2 at e q2 s2
  generalize hg3 : (if gt M a b 3 then 1 else 0) = v3 at e q3 s3
  refine ⟨by rw [x1]; omega, by rw [x2]; unfold ok01 at hr; omega, fun l hl => ?_⟩
  have e1 : bshl 8 (l : Int) = ((8 * 2 ^ l : Nat) : Int) := bshl_nat 8 l (by have : 2 ^ l ≤ 2 ^ 3 := Nat.pow_le_pow_right (by decide) (by omega); omega) (by omega)
  rw [e1]
  match l, hl with
  | 0, _ =>
    show band _ 8 = _
    rw [x3, s0]; omega
  | 1, _ =>
    show band _ 16 = _
    rw [x4, s1]; omega
  | 2, _ =>
    show band _ 32 = _
    rw [x5, s2]; omega
  | 3, _ =>
    show band _ 64 = _
    rw [x6, s3]; omega
set_option maxHeartbeats 1000000 in
theorem sp_ftake {d o n lo : Nat} {st : St} {F G : FS} {k : Nat} {Q : Rn} (ho : isFd o) (hn : n ≤ 120) (hC : CR st o n G) (hj : st o 12 = (lo + k : Nat)) (hjn : lo + k ≤ 120) (hS : Sg st o n lo k F G)
    (hq : ∀ st' : St, CR st' o n F → st' o 12 = lo → st' o 13 = st o 13 → (∀ j, j < o ∨ o + 5 ≤ j → st' j = st j) → Q none st') : MS (d + 1) 169 [vr o, vi lo] st Q := by
  obtain ⟨k0, ⟨k1, l1⟩, ⟨k2, l2⟩, ⟨k3, l3⟩, ⟨k4, l4⟩, ⟨k5, l5⟩, ⟨k6, l6⟩, -⟩ := id ho
  have key : ∀ (k : Nat) (s2 : St) (G : FS) (u3 u4 u5 u6 : V), CR s2 o n G → s2 o 12 = (lo + k : Nat) → lo + k ≤ 120 → Sg st o n lo k F G → s2 o 13 = st o 13 → (∀ j, j < o ∨ o + 5 ≤ j → s2 j = st j) → AW (P 169) Q (MS d) 0 (fun _ => 0) 1 [vr o, vi lo, vi ((lo + k : Nat) - 1), u3, u4, u5, u6] [] s2 := by
    intro k
    induction k with
    | zero =>
      intro s2 G u3 u4 u5 u6 g1 g2 g3 g4 g5 g6
      have g4 : F = G := g4
      subst g4
      have hh := hq s2 g1 g2 g5 g6
      rw [awu 169 1]
      try simp only [awu 169 2, awu 169 15, pe169, xs, i_load, i_loadR, i_inc, lg, lp, true_and, and_true, List.length_cons, List.length_nil, Nat.reduceAdd, Nat.reduceLeDiff, Nat.zero_le, Int.toNat_natCast, natLit, k0]
      exact ⟨fun _ => hh, fun _ => ⟨fun _ => hh, fun h => by omega⟩⟩
    | succ k ih =>
      intro s2 G u3 u4 u5 u6 g1 g2 g3 g4 g5 g6
      obtain ⟨M, a, b, h1, hab, hb, ua, ub, hM, rfl, e5, e6⟩ := g4
      obtain ⟨c9, c1, c4, c10, c11⟩ := g1
      have ek : ((lo + (k + 1) : Nat) : Int) - 1 = ((lo + k : Nat) : Int) := by omega
      rw [ek]
      have r5 : s2 (o + 5) (lo + k) = b := by rw [g6 (o + 5) (by omega)]; exact e5
      have r6 : s2 (o + 6) (lo + k) = (chg M a b 4 : Nat) := by rw [g6 (o + 6) (by omega)]; exact e6
      have r1 : s2 (o + 1) b = (a : Nat) := by
        rw [(c1 b hb).1]
        show ((updN M.1 b a b : Nat) : Int) = a
        unfold updN
        rw [if_pos rfl]
      obtain ⟨x1, x2, x3⟩ := chg_bits (b := b) hM (show a < n by omega)
      have hcR := cR_ab (F := M) hab hb ub
      have hcM := cM_ab (F := M) hab hb ua ub
      have hcRl : cR M n ≤ n := cn_le n
      have hcMl : cM M n ≤ n := cn_le n
      -- behind the letters
      have E : ∀ s4 : St, s4 o 9 = n → (∀ i, i < n → s4 (o + 1) i = ((ab M a b).1 i : Nat) ∧ s4 (o + 2) i = M.2.1 i ∧ s4 (o + 3) i = M.2.2.1 i) → (∀ i, i < 4 * n → s4 (o + 4) i = M.2.2.2 i) → s4 o 10 = (cR (ab M a b) n : Nat) → s4 o 11 = (cM (ab M a b) n : Nat) → s4 o 13 = st o 13 → (∀ j, j < o ∨ o + 5 ≤ j → s4 j = st j) → AW (P 169) Q (MS d) 0 (fun _ => 0) 11 [vr o, vi lo, vi (lo + k : Nat), vi b, vi a, vi (chg M a b 4 : Nat), vi 4] [] s4 := by
        intro s4 z9 z1 z4 z10 z11 z13 zf
        have ma := (z1 a (by omega)).2.1
        have mb := (z1 b hb).2.1
        have w1 : Unit → wr ((cM (ab M a b) n : Int) + 1) = (cM (ab M a b) n : Int) + 1 := fun _ => by rw [wr_id (by omega) (by omega)]
        have w2 : Unit → wr ((cR (ab M a b) n : Int) + 1) = (cR (ab M a b) n : Int) + 1 := fun _ => by rw [wr_id (by omega) (by omega)]
        have w3 : Unit → wr (((lo + k : Nat) : Int) + -1) = ((lo + k : Nat) : Int) - 1 := fun _ => by rw [wr_id (by omega) (by omega)]; omega
        have fin : ∀ s5 : St, s5 o 9 = n → (∀ i, i < n → s5 (o + 1) i = ((ab M a b).1 i : Nat) ∧ s5 (o + 2) i = M.2.1 i ∧ s5 (o + 3) i = M.2.2.1 i) → (∀ i, i < 4 * n → s5 (o + 4) i = M.2.2.2 i) → s5 o 10 = (cR (ab M a b) n : Nat) → s5 o 11 = (cM M n : Nat) → s5 o 13 = st o 13 → (∀ j, j < o ∨ o + 5 ≤ j → s5 j = st j) → AW (P 169) Q (MS d) 0 (fun _ => 0) 14 [vr o, vi lo, vi (lo + k : Nat), vi b, vi a, vi (chg M a b 4 : Nat), vi 4] [] s5 := by
          intro s5 y9 y1 y4 y10 y11 y13 yf
          have q1 : up2 s5 (o + 1) b b o 10 = (cR (ab M a b) n : Nat) := by rw [up2_ne (by omega)]; exact y10
          rw [awu 169 14]
          try simp only [awu 169 15, pe169, xs, i_load, i_loadR, i_inc, lg, lp, true_and, and_true, List.length_cons, List.length_nil, Nat.reduceAdd, Nat.reduceLeDiff, Nat.zero_le, Int.toNat_natCast, natLit, k0, k1, l1, q1, w2 (), w3 ()]
          refine ⟨by omega, ?_⟩
          refine ih _ M _ _ _ _ ⟨?_, fun i hi => ?_, fun i hi => ?_, ?_, ?_⟩ ?_ (by omega) h1 ?_ (fun j hj => ?_)
          · simp only [up2_at]; simp [y9]
          · obtain ⟨v1, v2, v3⟩ := y1 i hi
            simp only [up2_at]
            simp
            refine ⟨?_, v2, v3⟩
            by_cases e : i = b
            · simp [e, ub]
            · simp [e, v1]
              show ((updN M.1 b a i : Nat) : Int) = _
              unfold updN
              rw [if_neg e]
          · have := y4 i hi
            simp only [up2_at]
            simp
            exact this
          · simp only [up2_at]; simp; omega
          · simp only [up2_at]; simp [y11]
          · simp only [up2_at]; simp
          · simp only [up2_at]; simp [y13]
          · rw [up2_ne (by omega), up2_ne (by omega), up2_ne (by omega)]
            exact yf j hj
        rw [awu 169 11]
        try simp only [awu 169 12, awu 169 13, pe169, xs, i_load, i_loadR, i_inc, lg, lp, true_and, and_true, List.length_cons, List.length_nil, Nat.reduceAdd, Nat.reduceLeDiff, Nat.zero_le, Int.toNat_natCast, natLit, k0, k2, l2, ma, mb, z11, w1 ()]
        refine ⟨by omega, fun h => ?_, fun h => ⟨by omega, fun h2 => ?_, fun h2 => ?_⟩⟩
        · rw [if_neg (fun z => z.1 h), Nat.add_zero] at hcM
          exact fin s4 z9 z1 z4 z10 (by rw [← hcM]; exact z11) z13 zf
        · rw [if_neg (fun z => z.2 h2), Nat.add_zero] at hcM
          exact fin s4 z9 z1 z4 z10 (by rw [← hcM]; exact z11) z13 zf
        · rw [if_pos ⟨h, h2⟩] at hcM
          refine fin _ ?_ (fun i hi => ?_) (fun i hi => ?_) ?_ ?_ ?_ (fun j hj => ?_)
          · rw [up2_at, if_pos rfl, if_neg (by omega)]; exact z9
          · rw [up2_ne (by omega), up2_ne (by omega), up2_ne (by omega)]; exact z1 i hi
          · rw [up2_ne (by omega)]; exact z4 i hi
          · rw [up2_at, if_pos rfl, if_neg (by omega)]; exact z10
          · rw [up2_at, if_pos rfl, if_pos rfl]; omega
          · rw [up2_at, if_pos rfl, if_neg (by omega)]; exact z13
          · rw [up2_ne (by omega)]; exact zf j hj
      -- the letters
      have L : ∀ m l : Nat, ∀ s4 : St, l ≤ 4 → 4 - l = m → s4 o 9 = n → (∀ i, i < n → s4 (o + 1) i = ((ab M a b).1 i : Nat) ∧ s4 (o + 2) i = M.2.1 i ∧ s4 (o + 3) i = M.2.2.1 i) → (∀ i, i < 4 * n → s4 (o + 4) i = if 4 * a ≤ i ∧ i < 4 * a + l then M.2.2.2 i else abk M a b 4 i) → s4 o 10 = (cR (ab M a b) n : Nat) → s4 o 11 = (cM (ab M a b) n : Nat) → s4 o 13 = st o 13 → (∀ j, j < o ∨ o + 5 ≤ j → s4 j = st j) → AW (P 169) Q (MS d) 0 (fun _ => 0) 7 [vr o, vi lo, vi (lo + k : Nat), vi b, vi a, vi (chg M a b 4 : Nat), vi l] [] s4 := by
        intro m
        induction m with
        | zero =>
          intro l s4 y0 y1 z9 z1 z4 z10 z11 z13 zf
          have : l = 4 := by omega
          subst this
          rw [awu 169 7]
          try simp only [awu 169 8, pe169, xs, i_load, i_loadR, i_inc, lg, lp, true_and, and_true, List.length_cons, List.length_nil, Nat.reduceAdd, Nat.reduceLeDiff, Nat.zero_le, Int.toNat_natCast, natLit, k0]
          refine ⟨fun _ => E s4 z9 z1 (fun i hi => ?_) z10 z11 z13 zf, fun h => by omega⟩
          rw [z4 i hi]
          split
          · rfl
          · unfold abk
            rw [if_neg (by omega)]
        | succ m ihm =>
          intro l s4 y0 y1 z9 z1 z4 z10 z11 z13 zf
          have hl : l < 4 := by omega
          have w1 : Unit → wr ((a : Int) * 4) = ((4 * a : Nat) : Int) := fun _ => by rw [wr_id (by omega) (by omega)]; omega
          have w2 : Unit → wr (((4 * a : Nat) : Int) + (l : Int)) = ((4 * a + l : Nat) : Int) := fun _ => by rw [wr_id (by omega) (by omega)]; omega
          have w5 : Unit → wr ((l : Int) + 1) = ((l + 1 : Nat) : Int) := fun _ => by rw [wr_id (by omega) (by omega)]; omega
          have hp : 0 < 2 ^ l := Nat.two_pow_pos l
          rw [awu 169 7]
          try simp only [awu 169 8, awu 169 9, awu 169 10, pe169, xs, i_load, i_loadR, i_inc, lg, lp, true_and, and_true, List.length_cons, List.length_nil, Nat.reduceAdd, Nat.reduceLeDiff, Nat.zero_le, Int.toNat_natCast, natLit, k0, k4, l4, w1 (), w2 (), w5 (), x3 l hl]
          refine ⟨fun h => by omega, fun _ => ⟨fun h => ?_, fun h => ⟨by omega, ?_⟩⟩⟩
          · have hg : gt M a b l = false := by
              cases hg : gt M a b l with
              | false => rfl
              | true =>
                rw [hg, if_pos rfl] at h
                omega
            refine ihm (l + 1) s4 (by omega) (by omega) z9 z1 (fun i hi => ?_) z10 z11 z13 zf
            rw [z4 i hi]
            by_cases e : i = 4 * a + l
            · subst e
              rw [if_neg (by omega), if_pos (by omega)]
              unfold abk
              split
              · rename_i q
                unfold gt at hg
                simp [q.2.2] at hg
                rw [q.2.2, show 4 * b + (4 * a + l - 4 * a) = 4 * b + l by omega]
                exact hg
              · rfl
            · by_cases e2 : 4 * a ≤ i ∧ i < 4 * a + l
              · rw [if_pos e2, if_pos (by omega)]
              · rw [if_neg e2, if_neg (by omega)]
          · have hg : gt M a b l = true := by
              cases hg : gt M a b l with
              | true => rfl
              | false =>
                rw [hg] at h
                exact absurd rfl h
            refine ihm (l + 1) _ (by omega) (by omega) (by rw [up2_ne (by omega)]; exact z9) (fun i hi => by rw [up2_ne (by omega), up2_ne (by omega), up2_ne (by omega)]; exact z1 i hi) (fun i hi => ?_) (by rw [up2_ne (by omega)]; exact z10) (by rw [up2_ne (by omega)]; exact z11) (by rw [up2_ne (by omega)]; exact z13) (fun j hj => by rw [up2_ne (by omega)]; exact zf j hj)
            rw [up2_self]
            by_cases e : i = 4 * a + l
            · subst e
              rw [upf_s, if_pos (by omega)]
              unfold gt at hg
              simp at hg
              exact hg.1.symm
            · rw [upf_n e, z4 i hi]
              by_cases e2 : 4 * a ≤ i ∧ i < 4 * a + l
              · rw [if_pos e2, if_pos (by omega)]
              · rw [if_neg e2, if_neg (by omega)]
      have bk : ∀ v : Int, v = M.2.2.1 a → AW (P 169) Q (MS d) 0 (fun _ => 0) 7 [vr o, vi lo, vi (lo + k : Nat), vi b, vi a, vi (chg M a b 4 : Nat), vi 0] [] (up2 (up2 s2 (o + 2) a (M.2.1 a)) (o + 3) a v) := by
        intro v hv
        refine L 4 0 _ (by omega) rfl ?_ (fun i hi => ?_) (fun i hi => ?_) ?_ ?_ ?_ (fun j hj => ?_)
        · rw [up2_ne (by omega), up2_ne (by omega)]; exact c9
        · obtain ⟨v1, v2, v3⟩ := c1 i hi
          rw [up2_ne (by omega), up2_ne (by omega), up2_ne (by omega), up2_self, up2_self, up2_ne (by omega)]
          refine ⟨v1, ?_, ?_⟩
          · by_cases e : i = a
            · subst e
              rw [upf_s]
            · rw [upf_n e, v2]
              exact upf_n e
          · by_cases e : i = a
            · subst e
              rw [upf_s, hv]
            · rw [upf_n e, v3]
              exact upf_n e
        · rw [up2_ne (by omega), up2_ne (by omega), c4 i hi, if_neg (by omega)]
          rfl
        · rw [up2_ne (by omega), up2_ne (by omega)]; exact c10
        · rw [up2_ne (by omega), up2_ne (by omega)]; exact c11
        · rw [up2_ne (by omega), up2_ne (by omega)]; exact g5
        · rw [up2_ne (by omega), up2_ne (by omega)]; exact g6 j hj
      rw [awu 169 1]
      try simp only [awu 169 2, awu 169 3, awu 169 4, awu 169 5, awu 169 6, awu 169 15, pe169, xs, i_load, i_loadR, i_inc, lg, lp, true_and, and_true, List.length_cons, List.length_nil, Nat.reduceAdd, Nat.reduceLeDiff, Nat.zero_le, Int.toNat_natCast, natLit, k0, k1, l1, k2, l2, k3, l3, k5, l5, k6, l6, r5, r1, r6, x1, x2]
      refine ⟨fun h => by omega, fun _ => ⟨fun h => by omega, fun _ => ⟨by omega, by omega, by omega, by omega, ?_⟩⟩⟩
      rcases hM.2.2.1 a (by omega) with e | e
      · rw [e] at bk ⊢
        exact ⟨fun _ => ⟨by omega, ok01_0, bk 0 rfl⟩, fun h => absurd rfl h⟩
      · rw [e] at bk ⊢
        exact ⟨fun h => absurd h (by decide), fun _ => ⟨by omega, ok01_1, bk 1 rfl⟩⟩
  refine MS_v [vr o, vi lo, none, none, none, none, none] rfl rfl k0 rfl ?_
  try simp only [awu 169 0, pe169, xs, i_load, i_loadR, i_inc, lg, lp, true_and, and_true, List.length_cons, List.length_nil, Nat.reduceAdd, Nat.reduceLeDiff, Nat.zero_le, Int.toNat_natCast, natLit, k0, hj]
  rw [if_pos (by omega), wr_id (by omega) (by omega)]
  exact key k st G none none none none hC hj hjn hS rfl (fun _ _ => rfl)
