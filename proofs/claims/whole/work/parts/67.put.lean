/-! two machines put together: the class -/
def FrT2 (st st' : St) : Prop := ∀ q i, q < 87 ∨ 95 < q ∨ (q = 87 ∧ i ≠ 9) → st' q i = st q i
set_option maxHeartbeats 2000000 in
theorem sp_putTog {d o c o' c' a mo : Nat} {how : Int} {st : St} {M O : MC} {Q : Rn} (ho : isMc o c) (ho' : isMc o' c') (ho2 : o + 2 < 87) (ho2' : o' + 2 < 87) (hM : MCc st o c M) (hO : MCc st o' c' O) (hMW : MW a M) (hOW : MW a O) (m0 : 0 < M.1) (o0 : 0 < O.1) (hM2 : M.1 ≤ 200) (ha : a ≤ 4) (hmo1 : 1 ≤ mo) (hmo2 : mo ≤ 201)
    (h1 : ∀ (st' : St) (n : Nat), Fin M O a mo n → MCc st' 88 201 (btM M O a how n) → FrT2 st st' → Q (vi 1) st')
    (h0 : ∀ (st' : St) (k : Nat), Ovf M O a mo k → FrT2 st st' → Q (vi 0) st') : MS (d + 4) 208 [vr 87, vr o, vr o', vi how, vi a, vi mo] st Q := by
  have k0 : kl 87 = 4 := rfl
  have k91 : kl 91 = 50 := rfl
  have l91 : len 91 = 404 := rfl
  have k92 : kl 92 = 50 := rfl
  have l92 : len 92 = 404 := rfl
  have fr : ∀ s2 : St, FrT2 st s2 → MCc s2 o c M ∧ MCc s2 o' c' O := fun s2 h => ⟨MCc_congr hM (fun q h1 h2 => by funext i; exact h q i (by omega)), MCc_congr hO (fun q h1 h2 => by funext i; exact h q i (by omega))⟩
  have key : ∀ mm k : Nat, ∀ (s2 : St) (u7 : V), k + mm = mo + 1 → Go M O a mo k → (bf M O a k).2 ≤ mo → k ≤ (bf M O a k).2 → MP s2 (bf M O a k) → FrT2 st s2 → s2 88 2 = (k : Nat) → btR M O a how (bf M O a k) k 0 (s2 89) (s2 90) → AW (P 208) Q (MS (d + 3)) 0 (fun _ => 0) 1 [vr 87, vr o, vr o', vi how, vi a, vi mo, vi k, u7] [] s2 := by
    intro mm
    induction mm with
    | zero =>
      intro k s2 u7 g1 g2 g3 g4 g5 g6 g7 g8
      omega
    | succ mm ih =>
      intro k s2 u7 g1 g2 g3 g4 g5 g6 g7 g8
      have hB := BI_bf hMW hOW ha m0 o0 k g2
      have e9 := g5.1
      by_cases hk : k = (bf M O a k).2
      · have hF : Fin M O a mo k := ⟨g2, hk.symm⟩
        have := btR_e hB.1 hk.symm g8
        rw [awu 208 1]
        try simp only [awu 208 12, pe208, xs, i_load, i_loadR, i_inc, lg, lp, true_and, and_true, List.length_cons, List.length_nil, Nat.reduceAdd, Nat.reduceLeDiff, Nat.zero_le, Int.toNat_natCast, natLit, k0, e9, ok01_1]
        refine ⟨fun _ => h1 s2 k hF ⟨g7, by show k ≤ 201; omega, this.1, this.2⟩ g6, fun h => absurd (by omega) h⟩
      · have hk : k < (bf M O a k).2 := by omega
        obtain ⟨f1, f2⟩ := fr s2 g6
        obtain ⟨x1, x2, x3⟩ := g5.2.1 k hk
        have wk : Unit → wr ((k : Int) + 1) = ((k + 1 : Nat) : Int) := fun _ => by rw [wr_id (by omega) (by omega)]; omega
        -- the letters
        have keyl : ∀ mm l : Nat, ∀ (s3 : St), l + mm = a → MP s3 (stpP M O (bf M O a k) k l) → FrT2 st s3 → s3 88 2 = (k + 1 : Nat) → btR M O a how (stpP M O (bf M O a k) k l) k l (s3 89) (s3 90) → s3 89 k = (if cb how (inM M ((bf M O a k).1 k).1) (inM O ((bf M O a k).1 k).2) then 1 else 2) → (∀ j, l ≤ j → j < 4 → s3 90 (4 * k + j) = -1) → AW (P 208) Q (MS (d + 3)) 0 (fun _ => 0) 7 [vr 87, vr o, vr o', vi how, vi a, vi mo, vi k, vi l] [] s3 := by
          intro mm
          induction mm with
          | zero =>
            intro l s3 y1 y2 y3 y4 y5 y6 y7
            have : l = a := by omega
            subst this
            rw [← bf_s] at y2 y5
            have e9 := y2.1
            have hle : leP (bf M O l k) (bf M O l (k + 1)) := bf_le 1
            rw [awu 208 7]
            try simp only [awu 208 9, awu 208 10, awu 208 11, pe208, xs, i_load, i_loadR, i_inc, lg, lp, true_and, and_true, List.length_cons, List.length_nil, Nat.reduceAdd, Nat.reduceLeDiff, Nat.zero_le, Int.toNat_natCast, natLit, k0, e9, ok01_0, wk ()]
            refine ⟨fun _ => ⟨fun h => ?_, fun h => h0 s3 (k + 1) ⟨?_, by omega⟩ y3⟩, fun h => absurd (Int.le_refl _) h⟩
            · refine ih (k + 1) s3 _ (by omega) ?_ (by omega) ?_ y2 y3 y4 ⟨fun s hs => ?_, fun s j hs hj => ?_, fun j hj => by omega⟩
              · intro j hj
                by_cases z : j = k
                · rw [z]
                  exact ⟨hk, g3⟩
                · exact g2 j (by omega)
              · have := hle.1
                omega
              · by_cases z : s = k
                · rw [z, hle.2 k hk]
                  exact y6
                · exact y5.1 s (by omega)
              · by_cases z : s = k
                · rw [z]
                  rcases Nat.lt_or_ge j l with zj | zj
                  · exact Or.inr ⟨zj, y5.2.2 j zj zj⟩
                  · exact Or.inl ⟨zj, y7 j zj hj⟩
                · exact y5.2.1 s j (by omega) hj
            · intro j hj
              by_cases z : j = k
              · rw [z]
                exact ⟨hk, g3⟩
              · exact g2 j (by omega)
          | succ mm ihl =>
            intro l s3 y1 y2 y3 y4 y5 y6 y7
            have hle := stpP_le (M := M) (O := O) (X := bf M O a k) (k := k) l
            have hB3 := BI_st hMW hOW ha hB hk l (by omega)
            have h2 := stpP_2 (M := M) (O := O) (X := bf M O a k) (k := k) l
            have hk3 : k < (stpP M O (bf M O a k) k l).2 := by have := hle.1; omega
            obtain ⟨z1, z2, -⟩ := y2.2.1 k hk3
            rw [hle.2 k hk] at z1 z2
            obtain ⟨f3, f4⟩ := fr s3 y3
            have wl' : Unit → wr ((l : Int) + 1) = ((l + 1 : Nat) : Int) := fun _ => by rw [wr_id (by omega) (by omega)]; omega
            have b1 := fo_b (s := ((bf M O a k).1 k).1) hMW (show l < 4 by omega)
            rw [awu 208 7]
            try simp only [awu 208 8, pe208, xs, i_load, i_loadR, i_inc, lg, lp, true_and, and_true, List.length_cons, List.length_nil, Nat.reduceAdd, Nat.reduceLeDiff, Nat.zero_le, Int.toNat_natCast, natLit, k0, k91, l91, z1]
            refine ⟨fun h => by omega, fun _ => ⟨by omega, ?_⟩⟩
            refine sp_mcfollow ho f3 hMW (show l < 4 by omega) ?_
            dsimp only
            try simp only [awu 208 8, pe208, xs, i_load, i_loadR, i_inc, lg, lp, true_and, and_true, List.length_cons, List.length_nil, Nat.reduceAdd, Nat.reduceLeDiff, Nat.zero_le, Int.toNat_natCast, natLit, k0, k92, l92, z2]
            refine ⟨by omega, ?_⟩
            refine sp_mcfollow ho' f4 hOW (show l < 4 by omega) ?_
            dsimp only
            try simp only [awu 208 8, pe208, xs, i_load, i_loadR, i_inc, lg, lp, true_and, and_true, List.length_cons, List.length_nil, Nat.reduceAdd, Nat.reduceLeDiff, Nat.zero_le, Int.toNat_natCast, natLit, k0]
            refine sp_numberOf (X := stpP M O (bf M O a k) k l) y2 hB3.1 (by omega) b1.1 (by omega) (fun s4 w1 w2 => ?_)
            dsimp only
            have hle4 := addP_le (X := stpP M O (bf M O a k) k l) (q := tg M O ((bf M O a k).1 k) l)
            have hnum := numP_ok (X := stpP M O (bf M O a k) k l) (q := tg M O ((bf M O a k).1 k) l)
            have e88 : s4 88 2 = (k + 1 : Nat) := by rw [w2 88 2 (by omega) (by omega)]; exact y4
            have e89 : s4 89 = s3 89 := by funext i; exact w2 89 i (by omega) (by omega)
            have e90 : s4 90 = s3 90 := by funext i; exact w2 90 i (by omega) (by omega)
            try simp only [awu 208 8, pe208, xs, i_load, i_loadR, i_inc, lg, lp, true_and, and_true, List.length_cons, List.length_nil, Nat.reduceAdd, Nat.reduceLeDiff, Nat.zero_le, Int.toNat_natCast, natLit, k0]
            refine sp_mclink (v := ((numP (stpP M O (bf M O a k) k l) (tg M O ((bf M O a k).1 k) l) : Nat) : Int)) isMc_88 e88 (by omega) (show k < k + 1 by omega) (show l < 4 by omega) ?_
            dsimp only
            try simp only [awu 208 8, pe208, xs, i_load, i_loadR, i_inc, lg, lp, true_and, and_true, List.length_cons, List.length_nil, Nat.reduceAdd, Nat.reduceLeDiff, Nat.zero_le, Int.toNat_natCast, natLit, k0, wl' ()]
            refine ihl (l + 1) _ (by omega) ?_ ?_ ?_ ?_ ?_ (fun j hj hj4 => ?_)
            · rw [stpP_s]
              refine ⟨by rw [up2_ne (by decide)]; exact w1.1, fun i hi => ?_, fun x hx => ?_⟩
              · rw [up2_ne (by decide), up2_ne (by decide), up2_ne (by decide)]
                exact w1.2.1 i hi
              · rw [up2_ne (by decide)]
                exact w1.2.2 x hx
            · intro q i hq
              rw [up2_ne (by omega), w2 q i (by omega) (by omega)]
              exact y3 q i hq
            · rw [up2_ne (by decide)]
              exact e88
            · rw [stpP_s]
              have hR := btR_le hk3 hle4 y5
              refine ⟨fun s hs => ?_, fun s j hs hj => ?_, fun j hj hja => ?_⟩
              · rw [up2_ne (by decide), e89]
                exact hR.1 s hs
              · rw [up2_self, upf_n (by omega), e90]
                exact hR.2.1 s j hs hj
              · rw [up2_self]
                by_cases zj : j = l
                · subst zj
                  refine ⟨_, hnum.1, by rw [upf_s], ?_⟩
                  rw [hnum.2, hle4.2 k hk3, hle.2 k hk]
                · rw [upf_n (by omega), e90]
                  exact hR.2.2 j (by omega) hja
            · rw [up2_ne (by decide), e89]
              exact y6
            · rw [up2_self, upf_n (by omega), e90]
              exact y7 j (by omega) hj4
        have addM : ∀ v : Int, v = (if cb how (inM M ((bf M O a k).1 k).1) (inM O ((bf M O a k).1 k).2) then 1 else 2) → AW (P 208) Q (MS (d + 3)) 0 (fun _ => 0) 6 [vr 87, vr o, vr o', vi how, vi a, vi mo, vi k, u7] [vi v, vr 88] s2 := by
          intro v hv
          rw [awu 208 6]
          try simp only [awu 208 6, pe208, xs, i_load, i_loadR, i_inc, lg, lp, true_and, and_true, List.length_cons, List.length_nil, Nat.reduceAdd, Nat.reduceLeDiff, Nat.zero_le, Int.toNat_natCast, natLit, k0]
          refine sp_mcadd isMc_88 g7 (by omega) (fun s3 w1 w2 w3 w4 => ?_)
          dsimp only
          try simp only [awu 208 6, pe208, xs, i_load, i_loadR, i_inc, lg, lp, true_and, and_true, List.length_cons, List.length_nil, Nat.reduceAdd, Nat.reduceLeDiff, Nat.zero_le, Int.toNat_natCast, natLit, k0]
          refine keyl a 0 s3 (by omega) ⟨by rw [w4 87 9 (by omega) (by omega) (by omega)]; exact g5.1, fun i hi => ?_, fun x hx => ?_⟩ (fun q i hq => ?_) w1 (btR_congr g8 (fun s hs => w4 89 s (by omega) (by omega) (by omega)) (fun i hi => w4 90 i (by omega) (by omega) (by omega))) (by rw [w2]; exact hv) (fun j _ hj => w3 j hj)
          · rw [w4 91 i (by omega) (by omega) (by omega), w4 92 i (by omega) (by omega) (by omega), w4 94 i (by omega) (by omega) (by omega)]
            exact g5.2.1 i hi
          · rw [w4 95 x (by omega) (by omega) (by omega)]
            exact g5.2.2 x hx
          · rw [w4 q i (by omega) (by omega) (by omega)]
            exact g6 q i hq
        rw [awu 208 1]
        try simp only [awu 208 2, awu 208 3, pe208, xs, i_load, i_loadR, i_inc, lg, lp, true_and, and_true, List.length_cons, List.length_nil, Nat.reduceAdd, Nat.reduceLeDiff, Nat.zero_le, Int.toNat_natCast, natLit, k0, e9, k91, l91, x1]
        refine ⟨fun h => by omega, fun _ => ⟨fun h => by omega, fun _ => ⟨by omega, ?_⟩⟩⟩
        refine sp_mcin ho f1 ?_
        dsimp only
        try simp only [awu 208 3, pe208, xs, i_load, i_loadR, i_inc, lg, lp, true_and, and_true, List.length_cons, List.length_nil, Nat.reduceAdd, Nat.reduceLeDiff, Nat.zero_le, Int.toNat_natCast, natLit, k0, k92, l92, x2]
        refine ⟨by omega, ?_⟩
        refine sp_mcin ho' f2 ?_
        dsimp only
        try simp only [awu 208 3, pe208, xs, i_load, i_loadR, i_inc, lg, lp, true_and, and_true, List.length_cons, List.length_nil, Nat.reduceAdd, Nat.reduceLeDiff, Nat.zero_le, Int.toNat_natCast, natLit, k0]
        refine sp_milin ?_
        dsimp only
        by_cases hc : cb how (inM M ((bf M O a k).1 k).1) (inM O ((bf M O a k).1 k).2) = true
        · rw [if_pos hc]
          try simp only [awu 208 3, awu 208 4, pe208, xs, i_load, i_loadR, i_inc, lg, lp, true_and, and_true, List.length_cons, List.length_nil, Nat.reduceAdd, Nat.reduceLeDiff, Nat.zero_le, Int.toNat_natCast, natLit, k0]
          exact ⟨fun h => absurd h (by decide), fun _ => addM 1 (by rw [if_pos hc])⟩
        · rw [if_neg hc]
          try simp only [awu 208 3, awu 208 5, pe208, xs, i_load, i_loadR, i_inc, lg, lp, true_and, and_true, List.length_cons, List.length_nil, Nat.reduceAdd, Nat.reduceLeDiff, Nat.zero_le, Int.toNat_natCast, natLit, k0]
          exact ⟨fun _ => addM 2 (by rw [if_neg hc]), fun h => absurd (by trivial) h⟩
  refine MS_v [vr 87, vr o, vr o', vi how, vi a, vi mo, none, none] rfl rfl rfl rfl ?_
  try simp only [awu 208 0, pe208, xs, i_load, i_loadR, i_inc, lg, lp, true_and, and_true, List.length_cons, List.length_nil, Nat.reduceAdd, Nat.reduceLeDiff, Nat.zero_le, Int.toNat_natCast, natLit, k0]
  refine sp_mcclear isMc_88 ?_
  dsimp only
  try simp only [awu 208 0, pe208, xs, i_load, i_loadR, i_inc, lg, lp, true_and, and_true, List.length_cons, List.length_nil, Nat.reduceAdd, Nat.reduceLeDiff, Nat.zero_le, Int.toNat_natCast, natLit, k0]
  refine sp_forget (fun s1 y1 y2 => ?_)
  dsimp only
  try simp only [awu 208 0, pe208, xs, i_load, i_loadR, i_inc, lg, lp, true_and, and_true, List.length_cons, List.length_nil, Nat.reduceAdd, Nat.reduceLeDiff, Nat.zero_le, Int.toNat_natCast, natLit, k0]
  refine sp_numberOf (X := P0) y1 (fun i j hi => absurd hi (Nat.not_lt_zero i)) (by decide) (by decide) (by decide) (fun s2 w1 w2 => ?_)
  dsimp only
  have hb0 : addP P0 (0, 0) = bf M O a 0 := by
    have hn : hasP P0 (0, 0) = none := rfl
    rw [(addP_none hn).1]
    show (updP (fun _ => (0, 0)) 0 (0, 0), 1) = ((fun _ => (0, 0)), 1)
    congr 1
    funext j
    unfold updP
    split <;> rfl
  rw [hb0] at w1
  try simp only [awu 208 0, pe208, xs, i_load, i_loadR, i_inc, lg, lp, true_and, and_true, List.length_cons, List.length_nil, Nat.reduceAdd, Nat.reduceLeDiff, Nat.zero_le, Int.toNat_natCast, natLit, k0]
  refine key (mo + 1) 0 s2 none (by omega) (fun j hj => by omega) hmo1 (Nat.zero_le _) w1 (fun q i hq => ?_) ?_ ⟨fun s hs => by omega, fun s j hs => by omega, fun j hj => by omega⟩
  · rw [w2 q i (by omega) (by omega), y2 q i (by omega) (by omega), up2_ne (by omega)]
  · rw [w2 88 2 (by omega) (by omega), y2 88 2 (by omega) (by omega), up2_self, upf_s]
    rfl
