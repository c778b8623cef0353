/-! the longest word: the reference -/
def FW (s1 s2 : St) (M : MC) (a r s l B : Nat) (F : Nat → Nat) (mo : Int) : Prop := ((∀ q, q ≠ 143 → s2 q = s1 q) ∧ (∀ x, x < M.1 → s2 143 x = (F x : Nat))) ∧ (∀ x, x < M.1 → usB M a (x : Int) = true → ek M a (F x) (x : Int) = true) ∧ (∀ x, x < M.1 → F x ≤ B) ∧ (∀ x k, x < M.1 → k ≤ r → ek M a k (x : Int) = true → k ≤ F x) ∧ (∀ x k, x < s → k ≤ r + 1 → ek M a k (x : Int) = true → k ≤ F x) ∧ (∀ j k, j < l → j < a → k ≤ r → ek M a k (fo M (s : Int) j) = true → k + 1 ≤ F s) ∧ ((mo = 0 ∧ ∀ x j t : Nat, (x < s ∨ (x = s ∧ j < l)) → x < M.1 → j < a → usB M a (x : Int) = true → fo M (x : Int) j = (t : Int) → usB M a (t : Int) = true → F t + 1 ≤ F x) ∨ (mo = 1 ∧ ∃ x : Nat, x < M.1 ∧ ek M a (r + 1) (x : Int) = true))
theorem FW_nl {s1 s2 : St} {M : MC} {a r s l B : Nat} {F : Nat → Nat} {mo : Int} (h : FW s1 s2 M a r s l B F mo) (h1 : ∀ k, k ≤ r → ek M a k (fo M (s : Int) l) = true → k + 1 ≤ F s) (h2 : mo = 0 → ∀ t : Nat, fo M (s : Int) l = (t : Int) → usB M a (t : Int) = true → F t + 1 ≤ F s) : FW s1 s2 M a r s (l + 1) (B + 1) F mo := by
  obtain ⟨e1, e2, e3, e4, e5, e6, e7⟩ := h
  refine ⟨e1, e2, fun x hx => by have := e3 x hx; omega, e4, e5, fun j k hj hja hk he => ?_, ?_⟩
  · by_cases z : j = l
    · subst z
      exact h1 k hk he
    · exact e6 j k (by omega) hja hk he
  · rcases e7 with ⟨y1, y2⟩ | y
    · refine Or.inl ⟨y1, fun x j t hx hxN hj hu hf ht => ?_⟩
      by_cases z : x = s ∧ j = l
      · obtain ⟨rfl, rfl⟩ := z
        exact h2 y1 t hf ht
      · exact y2 x j t (by omega) hxN hj hu hf ht
    · exact Or.inr y
set_option maxHeartbeats 1000000 in
theorem sp_mlongest {d m a : Nat} {st : St} {M : MC} {Q : Rn} {u2 u3 u4 u5 u6 u7 u8 : V} (hM : MCm st m M) (hm : m ≤ 4) (hW : MW a M) (ha : a ≤ 4) (h0 : 0 < M.1) (hl : st 99 2 = a)
    (hq : ∀ st' : St, (∀ q, q ≠ 136 → q ≠ 142 → q ≠ 143 → st' q = st q) → Q (vi (lgA M a)) st') : AW (P 145) Q (MS (d + 4)) 0 (fun _ => 0) 2 [vr 99, vi m, u2, u3, u4, u5, u6, u7, u8] [] st := by
  have k0 : kl 99 = 12 := rfl
  have k19 : kl 119 = 50 := rfl
  have l19 : len 119 = 5 := rfl
  have k42 : kl 142 = 52 := rfl
  have l42 : len 142 = 201 := rfl
  have k43 : kl 143 = 50 := rfl
  have l43 : len 143 = 201 := rfl
  have hN := hM.2.1
  rw [awu 145 2]
  try simp only [awu 145 2, pe145, xs, i_load, i_loadR, i_inc, lg, lp, true_and, and_true, List.length_cons, List.length_nil, Nat.reduceAdd, Nat.reduceLeDiff, Nat.zero_le, Int.toNat_natCast, natLit, k0]
  refine sp_layUseful hM hm hW ha h0 hl (fun s1 c1 f1 => ?_)
  dsimp only
  have hle := cn_le (p := fun s => usB M a (s : Int)) M.1
  have fr : ∀ s2 : St, (∀ q, q ≠ 143 → s2 q = s1 q) → MCm s2 m M ∧ s2 99 2 = a ∧ ∀ s, s ≤ M.1 → s2 142 s = if usB M a (gx M s) then 1 else 0 := fun s2 h => ⟨MCm_congr hM (by rw [h 119 (by decide), f1 119 (by decide) (by decide)]) (fun i _ _ => by rw [h 120 (by decide), f1 120 (by decide) (by decide)]) (fun i _ _ => by rw [h 121 (by decide), f1 121 (by decide) (by decide)]), by rw [h 99 (by decide), f1 99 (by decide) (by decide)]; exact hl, fun s hs => by rw [h 142 (by decide)]; exact c1 s hs⟩
  have e19 : s1 119 m = (M.1 : Nat) := by rw [f1 119 (by decide) (by decide)]; exact hM.1
  by_cases hc : cn (fun s => usB M a (s : Int)) M.1 = 0
  · have : lgA M a = -2 := by
      unfold lgA
      rw [if_pos hc]
    rw [this] at hq
    rw [hc]
    try simp only [awu 145 2, awu 145 3, pe145, xs, i_load, i_loadR, i_inc, lg, lp, true_and, and_true, List.length_cons, List.length_nil, Nat.reduceAdd, Nat.reduceLeDiff, Nat.zero_le, Int.toNat_natCast, natLit, k0]
    exact ⟨fun h => absurd (by trivial) h, fun _ => hq s1 (fun q q1 q2 _ => f1 q q1 q2)⟩
  · have us0 : usB M a 0 = true := by
      obtain ⟨s, s1, s2⟩ := cn_ex hc
      exact ek_0 (k := 0) s2
    generalize hcc : cn (fun s => usB M a (s : Int)) M.1 = c at *
    -- the ends
    have fin1 : ∀ (s2 : St) (F : Nat → Nat) (B r : Nat) (u5 u6 u7 u8 : V), FW s1 s2 M a r M.1 0 B F 0 → AW (P 145) Q (MS (d + 4)) 0 (fun _ => 0) 22 [vr 99, vi m, vi c, vi (M.1 : Nat), vi 0, u5, u6, u7, u8] [] s2 := by
      intro s2 F B r u5 u6 u7 u8 h
      obtain ⟨⟨e1, e1'⟩, e2, e3, e4, e5, e6, e7⟩ := h
      have cl : ∀ x j t : Nat, x < M.1 → j < a → usB M a (x : Int) = true → fo M (x : Int) j = (t : Int) → usB M a (t : Int) = true → F t + 1 ≤ F x := by
        rcases e7 with ⟨_, y⟩ | ⟨y, _⟩
        · exact fun x j t hx => y x j t (Or.inl hx) hx
        · exact absurd y (by decide)
      have all : ∀ k (x : Nat), x < M.1 → ek M a k (x : Int) = true → k ≤ F x := by
        intro k
        induction k with
        | zero => intro x _ _; omega
        | succ k ih =>
          intro x hx h
          obtain ⟨y1, j, y2, y3⟩ := ek_d.mp h
          rcases fo_r (s := (x : Int)) hW y2 ha with z | z
          · rw [z, ek_n] at y3
            cases y3
          · obtain ⟨t, ht⟩ : ∃ t : Nat, fo M (x : Int) j = t := ⟨(fo M (x : Int) j).toNat, by omega⟩
            rw [ht] at y3
            have := ih t (by omega) y3
            have := cl x j t hx y2 y1 ht (ek_us y3)
            omega
      have e0 := e1' 0 h0
      have hA : lgA M a = (F 0 : Nat) := lgA_s hW ha h0 (by rw [hcc]; exact hc) (e2 0 h0 us0) (by
        cases h : ek M a (F 0 + 1) 0 with
        | false => rfl
        | true =>
          have := all (F 0 + 1) 0 h0 h
          omega)
      rw [hA] at hq
      rw [awu 145 22]
      try simp only [awu 145 24, awu 145 25, pe145, xs, i_load, i_loadR, i_inc, lg, lp, true_and, and_true, List.length_cons, List.length_nil, Nat.reduceAdd, Nat.reduceLeDiff, Nat.zero_le, Int.toNat_natCast, natLit, k0, k43, l43, Int.toNat_zero, e0]
      exact ⟨fun _ => ⟨by omega, hq s2 (fun q q1 q2 q3 => by rw [e1 q q3, f1 q q1 q2])⟩, fun h => absurd (by trivial) h⟩
    have key : ∀ mm k : Nat, ∀ (s2 : St) (F : Nat → Nat) (mo : Int) (u6 u7 u8 : V), k + mm = c + 1 → ((∀ q, q ≠ 143 → s2 q = s1 q) ∧ (∀ x, x < M.1 → s2 143 x = (F x : Nat))) → (∀ x, x < M.1 → usB M a (x : Int) = true → ek M a (F x) (x : Int) = true) → (∀ x, x < M.1 → F x ≤ 800 * k) → (∀ x j, x < M.1 → j ≤ k → ek M a j (x : Int) = true → j ≤ F x) → ((mo = 0 ∧ ∃ r B, FW s1 s2 M a r M.1 0 B F 0) ∨ (mo = 1 ∧ (k = 0 ∨ ∃ x : Nat, x < M.1 ∧ ek M a k (x : Int) = true))) → AW (P 145) Q (MS (d + 4)) 0 (fun _ => 0) 8 [vr 99, vi m, vi c, vi (M.1 : Nat), vi mo, vi k, u6, u7, u8] [] s2 := by
      intro mm
      induction mm with
      | zero =>
        intro k s2 F mo u6 u7 u8 g1 g2 g3 g4 g5 g6
        have : k = c + 1 := by omega
        subst this
        rcases g6 with ⟨rfl, r, B, g6⟩ | ⟨rfl, g6⟩
        · rw [awu 145 8]
          try simp only [pe145, xs, i_load, i_loadR, lg]
          exact ⟨fun _ => fin1 s2 F B r _ _ _ _ g6, fun h => absurd (by omega) h⟩
        · rcases g6 with g6 | ⟨x, x1, x2⟩
          · omega
          · rw [lgA_n (by rw [hcc]; exact hc) (by rw [hcc]; omega) (ek_0 x2)] at hq
            rw [awu 145 8]
            try simp only [awu 145 22, awu 145 23, awu 145 25, pe145, xs, i_load, i_loadR, i_inc, lg, lp, true_and, and_true, List.length_cons, List.length_nil, Nat.reduceAdd, Nat.reduceLeDiff, Nat.zero_le, Int.toNat_natCast, natLit, k0]
            exact ⟨fun _ => ⟨fun h => absurd h (by decide), fun _ => hq s2 (fun q q1 q2 q3 => by rw [g2.1 q q3, f1 q q1 q2])⟩, fun h => absurd (by omega) h⟩
      | succ mm ih =>
        intro k s2 F mo u6 u7 u8 g1 g2 g3 g4 g5 g6
        rcases g6 with ⟨rfl, r, B, g6⟩ | ⟨rfl, g6⟩
        · rw [awu 145 8]
          try simp only [awu 145 9, pe145, xs, i_load, i_loadR, i_inc, lg, lp, true_and, and_true, List.length_cons, List.length_nil, Nat.reduceAdd, Nat.reduceLeDiff, Nat.zero_le, Int.toNat_natCast, natLit, k0]
          exact ⟨fun h => by omega, fun _ => ⟨fun _ => fin1 s2 F B r _ _ _ _ g6, fun h => absurd (by trivial) h⟩⟩
        · have wk : Unit → wr ((k : Int) + 1) = ((k + 1 : Nat) : Int) := fun _ => by rw [wr_id (by omega) (by omega)]; omega
          have keys : ∀ mm s : Nat, ∀ (s3 : St) (F : Nat → Nat) (mo : Int) (u7 u8 : V), s + mm = M.1 → FW s1 s3 M a k s 0 (800 * k + 4 * s) F mo → AW (P 145) Q (MS (d + 4)) 0 (fun _ => 0) 11 [vr 99, vi m, vi c, vi (M.1 : Nat), vi mo, vi k, vi s, u7, u8] [] s3 := by
            intro mm
            induction mm with
            | zero =>
              intro s s3 F mo u7 u8 x1 x2
              have : s = M.1 := by omega
              subst this
              obtain ⟨e1, e2, e3, e4, e5, e6, e7⟩ := id x2
              rw [awu 145 11]
              try simp only [awu 145 21, pe145, xs, i_load, i_loadR, i_inc, lg, lp, true_and, and_true, List.length_cons, List.length_nil, Nat.reduceAdd, Nat.reduceLeDiff, Nat.zero_le, Int.toNat_natCast, natLit, k0, wk ()]
              refine ⟨fun _ => ih (k + 1) s3 F mo _ _ _ (by omega) e1 e2 (fun x hx => by have := e3 x hx; omega) (fun x j hx hj => e5 x j hx hj) ?_, fun h => absurd (Int.le_refl _) h⟩
              rcases e7 with ⟨y, _⟩ | ⟨y1, y2⟩
              · subst y
                exact Or.inl ⟨rfl, k, _, x2⟩
              · exact Or.inr ⟨y1, Or.inr y2⟩
            | succ mm ihs =>
              intro s s3 F mo u7 u8 x1 x2
              have ws : Unit → wr ((s : Int) + 1) = ((s + 1 : Nat) : Int) := fun _ => by rw [wr_id (by omega) (by omega)]; omega
              by_cases hus : usB M a (s : Int) = true
              · have keyl : ∀ mm l : Nat, ∀ (s3 : St) (F : Nat → Nat) (mo : Int) (u8 : V), l + mm = a → FW s1 s3 M a k s l (800 * k + 4 * s + l) F mo → AW (P 145) Q (MS (d + 4)) 0 (fun _ => 0) 13 [vr 99, vi m, vi c, vi (M.1 : Nat), vi mo, vi k, vi s, vi l, u8] [] s3 := by
                  intro mm
                  induction mm with
                  | zero =>
                    intro l s3 F mo u8 y1 y2
                    have : l = a := by omega
                    subst this
                    obtain ⟨e1, e2, e3, e4, e5, e6, e7⟩ := id y2
                    have f3 := (fr s3 e1.1).2.1
                    rw [awu 145 13]
                    try simp only [awu 145 20, pe145, xs, i_load, i_loadR, i_inc, lg, lp, true_and, and_true, List.length_cons, List.length_nil, Nat.reduceAdd, Nat.reduceLeDiff, Nat.zero_le, Int.toNat_natCast, natLit, k0, f3, ws ()]
                    refine ⟨fun _ => ihs (s + 1) s3 F mo _ _ (by omega) ⟨e1, e2, fun x hx => by have := e3 x hx; omega, e4, fun x j hx hj he => ?_, fun j i h => by omega, ?_⟩, fun h => absurd (Int.le_refl _) h⟩
                    · by_cases z : x = s
                      · subst z
                        cases j with
                        | zero => omega
                        | succ j =>
                          obtain ⟨_, i, i1, i2⟩ := ek_d.mp he
                          exact e6 i j i1 i1 (by omega) i2
                      · exact e5 x j (by omega) hj he
                    · rcases e7 with ⟨z1, z2⟩ | z
                      · exact Or.inl ⟨z1, fun x j t hx hxN hj => z2 x j t (by omega) hxN hj⟩
                      · exact Or.inr z
                  | succ mm ihl =>
                    intro l s3 F mo u8 y1 y2
                    obtain ⟨⟨e1, e1'⟩, e2, e3, e4, e5, e6, e7⟩ := id y2
                    obtain ⟨f2, f3, f4⟩ := fr s3 e1
                    have wl' : Unit → wr ((l : Int) + 1) = ((l + 1 : Nat) : Int) := fun _ => by rw [wr_id (by omega) (by omega)]; omega
                    have es := f4 s (by omega)
                    rw [gx_s (show s < M.1 by omega), if_pos hus] at es
                    have htb := sq_b (s := s) hW (show l < a by omega) ha
                    have et := f4 (sq M s l) htb
                    have hx := sq_x (s := s) hW (show l < a by omega) ha
                    rw [gx_s (show s < M.1 by omega)] at hx
                    have ihl := fun s4 F mo u8 h => ihl (l + 1) s4 F mo u8 (by omega) h
                    rw [awu 145 13]
                    try simp only [awu 145 14, awu 145 15, pe145, xs, i_load, i_loadR, i_inc, lg, lp, true_and, and_true, List.length_cons, List.length_nil, Nat.reduceAdd, Nat.reduceLeDiff, Nat.zero_le, Int.toNat_natCast, natLit, k0, f3, k42, l42, es]
                    refine ⟨fun h => by omega, fun _ => ⟨by omega, fun h => absurd h (by decide), fun _ => ?_⟩⟩
                    refine sp_stepOf f2 hm hW ha (show s ≤ M.1 by omega) (show l < a by omega) ?_
                    dsimp only
                    generalize hgt : sq M s l = t at *
                    rw [hx] at et
                    by_cases hut : usB M a (fo M (s : Int) l) = true
                    · rw [if_pos hut] at et
                      have htN : t < M.1 := by
                        rcases Nat.lt_or_ge t M.1 with z | z
                        · exact z
                        · rw [← hx, show t = M.1 by omega, gx_N, usB_n] at hut
                          cases hut
                      rw [gx_s htN] at hx
                      have eft := e1' t htN
                      have efs := e1' s (by omega)
                      have b1 := e3 t htN
                      have b2 := e3 s (by omega)
                      have wf1 : Unit → wr (((F t : Nat) : Int) + 1) = ((F t + 1 : Nat) : Int) := fun _ => by rw [wr_id (by omega) (by omega)]; omega
                      try simp only [awu 145 15, awu 145 16, awu 145 17, awu 145 18, awu 145 19, pe145, xs, i_load, i_loadR, i_inc, lg, lp, true_and, and_true, List.length_cons, List.length_nil, Nat.reduceAdd, Nat.reduceLeDiff, Nat.zero_le, Int.toNat_natCast, natLit, k0, k42, l42, k43, l43, et, eft, efs, wl' (), wf1 ()]
                      refine ⟨by omega, fun h => absurd h (by decide), fun _ => ⟨by omega, by omega, fun hgt' => ⟨by omega, by omega, ?_⟩, fun hgt' => ?_⟩⟩
                      · refine ihl _ (updN F s (F t + 1)) 1 _ ⟨⟨fun q q1 => ?_, fun x hxN => ?_⟩, fun x hxN hu => ?_, fun x hxN => ?_, fun x j hxN hj he => ?_, fun x j hxs hj he => ?_, fun j i hj hja hi he => ?_, Or.inr ⟨rfl, s, by omega, ?_⟩⟩
                        · rw [up2_ne q1]
                          exact e1 q q1
                        · rw [up2_self, updN_at]
                          by_cases z : x = s
                          · rw [z, upf_s, if_pos rfl]
                          · rw [upf_n z, if_neg z]
                            exact e1' x hxN
                        · rw [updN_at]
                          by_cases z : x = s
                          · rw [if_pos z, z]
                            refine ek_d.mpr ⟨hus, l, by omega, ?_⟩
                            rw [← hx]
                            rw [← hx] at hut
                            exact e2 t htN hut
                          · rw [if_neg z]
                            exact e2 x hxN hu
                        · rw [updN_at]
                          have := e3 x hxN
                          split <;> omega
                        · rw [updN_at]
                          have := e4 x j hxN hj he
                          split
                          · rename_i z
                            subst z
                            omega
                          · exact this
                        · rw [updN_at, if_neg (by omega)]
                          exact e5 x j hxs hj he
                        · rw [updN_at, if_pos rfl]
                          by_cases z : j = l
                          · subst z
                            rw [← hx] at he
                            have := e4 t i htN hi he
                            omega
                          · have := e6 j i (by omega) hja hi he
                            omega
                        · have he : ek M a (F t + 1) (s : Int) = true := by
                            refine ek_d.mpr ⟨hus, l, by omega, ?_⟩
                            rw [← hx]
                            rw [← hx] at hut
                            exact e2 t htN hut
                          refine ek_le ?_ he
                          rcases Nat.lt_or_ge (F t + 1) (k + 1) with z | z
                          · have := e4 s (F t + 1) (by omega) (by omega) he
                            omega
                          · exact z
                      · refine ihl s3 F mo _ (FW_nl y2 (fun j hj he => ?_) (fun _ t' ht' _ => ?_))
                        · rw [← hx] at he
                          have := e4 t j htN hj he
                          omega
                        · rw [← hx] at ht'
                          have : t = t' := by omega
                          subst this
                          omega
                    · rw [if_neg hut] at et
                      try simp only [awu 145 15, awu 145 19, pe145, xs, i_load, i_loadR, i_inc, lg, lp, true_and, and_true, List.length_cons, List.length_nil, Nat.reduceAdd, Nat.reduceLeDiff, Nat.zero_le, Int.toNat_natCast, natLit, k0, k42, l42, et, wl' ()]
                      refine ⟨by omega, fun _ => ?_, fun h => absurd (by trivial) h⟩
                      refine ihl s3 F mo _ (FW_nl y2 (fun j hj he => absurd (ek_us he) hut) (fun _ t' ht' hu' => ?_))
                      rw [← ht'] at hu'
                      exact absurd hu' hut
                rw [awu 145 11]
                try simp only [awu 145 12, pe145, xs, i_load, i_loadR, i_inc, lg, lp, true_and, and_true, List.length_cons, List.length_nil, Nat.reduceAdd, Nat.reduceLeDiff, Nat.zero_le, Int.toNat_natCast, natLit, k0]
                exact ⟨fun h => by omega, fun _ => keyl a 0 s3 F mo _ (by omega) x2⟩
              · obtain ⟨e1, e2, e3, e4, e5, e6, e7⟩ := id x2
                obtain ⟨f2, f3, f4⟩ := fr s3 e1.1
                have es := f4 s (by omega)
                rw [gx_s (show s < M.1 by omega), if_neg hus] at es
                have nx := fun u7 u8 => ihs (s + 1) s3 F mo u7 u8 (by omega) ⟨e1, e2, fun x hx => by have := e3 x hx; omega, e4, fun x j hx hj he => by
                  by_cases z : x = s
                  · subst z
                    exact absurd (ek_us he) hus
                  · exact e5 x j (by omega) hj he, fun j i h => by omega, by
                  rcases e7 with ⟨z1, z2⟩ | z
                  · refine Or.inl ⟨z1, fun x j t hx hxN hj hu => ?_⟩
                    by_cases z : x = s
                    · subst z
                      exact absurd hu hus
                    · exact z2 x j t (by omega) hxN hj hu
                  · exact Or.inr z⟩
                rw [awu 145 11]
                try simp only [awu 145 12, awu 145 13, awu 145 14, awu 145 20, pe145, xs, i_load, i_loadR, i_inc, lg, lp, true_and, and_true, List.length_cons, List.length_nil, Nat.reduceAdd, Nat.reduceLeDiff, Nat.zero_le, Int.toNat_natCast, natLit, k0, f3, k42, l42, es, ws ()]
                exact ⟨fun h => by omega, fun _ => ⟨fun _ => nx _ _, fun _ => ⟨by omega, fun _ => nx _ _, fun h => absurd (by trivial) h⟩⟩⟩
          rw [awu 145 8]
          try simp only [awu 145 9, awu 145 10, pe145, xs, i_load, i_loadR, i_inc, lg, lp, true_and, and_true, List.length_cons, List.length_nil, Nat.reduceAdd, Nat.reduceLeDiff, Nat.zero_le, Int.toNat_natCast, natLit, k0]
          refine ⟨fun h => by omega, fun _ => ⟨fun h => absurd h (by decide), fun _ => ?_⟩⟩
          exact keys M.1 0 s2 F 0 _ _ (by omega) ⟨g2, g3, fun x hx => by have := g4 x hx; omega, g5, fun x j h => by omega, fun j i h => by omega, Or.inl ⟨rfl, fun x j t h => by omega⟩⟩
    have fill : ∀ mm i : Nat, ∀ (s2 : St) (u5 u6 u7 u8 : V), i + mm = M.1 → (∀ q, q ≠ 143 → s2 q = s1 q) → (∀ s, s < i → s2 143 s = 0) → AW (P 145) Q (MS (d + 4)) 0 (fun _ => 0) 5 [vr 99, vi m, vi c, vi (M.1 : Nat), vi i, u5, u6, u7, u8] [] s2 := by
      intro mm
      induction mm with
      | zero =>
        intro i s2 u5 u6 u7 u8 g1 g2 g3
        have : i = M.1 := by omega
        subst this
        rw [awu 145 5]
        try simp only [awu 145 7, pe145, xs, i_load, i_loadR, i_inc, lg, lp, true_and, and_true, List.length_cons, List.length_nil, Nat.reduceAdd, Nat.reduceLeDiff, Nat.zero_le, Int.toNat_natCast, natLit, k0]
        exact ⟨fun _ => key (c + 1) 0 s2 (fun _ => 0) 1 _ _ _ (by omega) ⟨g2, fun x hx => g3 x hx⟩ (fun x hx hu => hu) (fun x hx => by omega) (fun x j hx hj _ => by omega) (Or.inr ⟨rfl, Or.inl rfl⟩), fun h => absurd (Int.le_refl _) h⟩
      | succ mm ih =>
        intro i s2 u5 u6 u7 u8 g1 g2 g3
        have wk : Unit → wr ((i : Int) + 1) = ((i + 1 : Nat) : Int) := fun _ => by rw [wr_id (by omega) (by omega)]; omega
        rw [awu 145 5]
        try simp only [awu 145 6, pe145, xs, i_load, i_loadR, i_inc, lg, lp, true_and, and_true, List.length_cons, List.length_nil, Nat.reduceAdd, Nat.reduceLeDiff, Nat.zero_le, Int.toNat_natCast, natLit, k0, k43, l43, wk ()]
        refine ⟨fun h => by omega, fun _ => ⟨by omega, ih (i + 1) _ _ _ _ _ (by omega) (fun q q1 => ?_) (fun s hs => ?_)⟩⟩
        · rw [up2_ne q1]
          exact g2 q q1
        · rw [up2_self]
          by_cases zs : s = i
          · rw [zs, upf_s]
          · rw [upf_n zs]
            exact g3 s (by omega)
    try simp only [awu 145 2, awu 145 4, pe145, xs, i_load, i_loadR, i_inc, lg, lp, true_and, and_true, List.length_cons, List.length_nil, Nat.reduceAdd, Nat.reduceLeDiff, Nat.zero_le, Int.toNat_natCast, natLit, k0, k19, l19, e19]
    exact ⟨fun _ => ⟨by omega, fill M.1 0 s1 _ _ _ _ (by omega) (fun _ _ => rfl) (fun s hs => by omega)⟩, fun h => absurd (by omega) h⟩
