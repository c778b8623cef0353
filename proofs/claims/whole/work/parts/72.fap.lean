/-! what tells two machines apart: the class -/
def WBc (st : St) (a n : Nat) (W : Nat → List Nat) : Prop := ∀ i, 0 < i → i < n → ∃ p j : Nat, p < i ∧ j < a ∧ st 93 i = ((4 * p + j : Nat) : Int) ∧ W i = W p ++ [j]
def FrF (st st' : St) : Prop := ∀ q i, ¬ (q = 87 ∧ i = 9) → q ≠ 91 → q ≠ 92 → q ≠ 93 → q ≠ 96 → st' q i = st q i
def HI (M O : MC) (a : Nat) (X : Nat → Int × Int) (W : Nat → List Nat) (r : Nat → Nat) (c k l : Nat) : Prop := (∀ i, i < c → (X i = (rl M 0 (W i), rl O 0 (W i)) ∧ Lw a (W i)) ∧ ag M O (X i) [] ∧ (W i).length ≤ i ∧ (-1 ≤ (X i).1 ∧ (X i).1 < 201) ∧ (-1 ≤ (X i).2 ∧ (X i).2 < 201)) ∧ W 0 = [] ∧ (∀ i j, i < j → j < c → nm (W i) < nm (W j)) ∧ (k < c → ∀ i, i < c → nm (W i) ≤ 4 * nm (W k) + l) ∧ CPr r X c ∧ ∀ p j, lx p j k l → p < c → j < a → (∃ i, i < c ∧ W i = W p ++ [j]) ∨ ∀ x, Lw a x → (∀ i, i < c → nm (W i) < nm (W p ++ [j]) → ag M O (X i) x) → ag M O (tg M O (X p) j) x
set_option maxHeartbeats 2000000 in
theorem sp_findApart {d o c1 o' c2 a : Nat} {st : St} {M O : MC} {Q : Rn} (ho : isMc o c1) (ho' : isMc o' c2) (ho2 : o + 2 < 87) (ho2' : o' + 2 < 87) (hM : MCc st o c1 M) (hO : MCc st o' c2 O) (hMW : MW a M) (hOW : MW a O) (m0 : 0 < M.1) (o0 : 0 < O.1) (hM2 : M.1 ≤ 200) (hO2 : O.1 ≤ 200) (ha : a ≤ 4)
    (h1 : ∀ (st' : St) (n k : Nat) (W : Nat → List Nat), k < n → n ≤ 404 → W 0 = [] → (W k).length ≤ k → AP M O a (W k) → WBc st' a n W → FrF st st' → Q (vi (k : Nat)) st')
    (h0 : ∀ (st' : St), (∀ v, Lw a v → ¬ Df M O v) → FrF st st' → Q (vi (-1)) st') : MS (d + 3) 210 [vr 87, vr o, vr o', vi a] st Q := by
  have k0 : kl 87 = 4 := rfl
  have k91 : kl 91 = 50 := rfl
  have l91 : len 91 = 404 := rfl
  have k92 : kl 92 = 50 := rfl
  have l92 : len 92 = 404 := rfl
  have k96 : kl 96 = 50 := rfl
  have l96 : len 96 = 404 := rfl
  have fr : ∀ s2 : St, FrF st s2 → MCc s2 o c1 M ∧ MCc s2 o' c2 O := fun s2 h => ⟨MCc_congr hM (fun q h1 h2 => by funext i; exact h q i (by omega) (by omega) (by omega) (by omega) (by omega)), MCc_congr hO (fun q h1 h2 => by funext i; exact h q i (by omega) (by omega) (by omega) (by omega) (by omega))⟩
  have nms : ∀ (X : Nat → Int × Int) (W : Nat → List Nat) (r : Nat → Nat) (c k l p j : Nat), HI M O a X W r c k l → l < 4 → k < c → p < c → j < a → nm (W p ++ [j]) < nm (W k ++ [l]) → lx p j k l := by
    intro X W r c k l p j h hl4 hk hp hj hlt
    rw [nm_sn, nm_sn] at hlt
    unfold lx
    rcases Nat.lt_trichotomy p k with z | z | z
    · exact Or.inl z
    · subst z
      exact Or.inr ⟨rfl, by omega⟩
    · have := h.2.2.1 k p z hp
      omega
  have key : ∀ mm k : Nat, ∀ (s2 : St) (X : Nat → Int × Int) (W : Nat → List Nat) (r : Nat → Nat) (c : Nat) (u5 u6 u7 u8 : V), k + mm = 404 → k ≤ c → 0 < c → c ≤ 403 → s2 87 9 = (c : Nat) → (∀ i, i < c → s2 91 i = (X i).1 ∧ s2 92 i = (X i).2) → UG s2 r c → HI M O a X W r c k 0 → WBc s2 a c W → FrF st s2 → AW (P 210) Q (MS (d + 2)) 0 (fun _ => 0) 6 [vr 87, vr o, vr o', vi a, vi k, u5, u6, u7, u8] [] s2 := by
    intro mm
    induction mm with
    | zero =>
      intro k s2 X W r c u5 u6 u7 u8 g1 g2 g2' g3 g4 g5 g6 g7 g8 g9
      omega
    | succ mm ih =>
      intro k s2 X W r c u5 u6 u7 u8 g1 g2 g2' g3 g4 g5 g6 g7 g8 g9
      by_cases hk : k = c
      · rw [awu 210 6]
        try simp only [awu 210 15, pe210, xs, i_load, i_loadR, i_inc, lg, lp, true_and, and_true, List.length_cons, List.length_nil, Nat.reduceAdd, Nat.reduceLeDiff, Nat.zero_le, Int.toNat_natCast, natLit, k0, g4]
        refine ⟨fun _ => h0 s2 (fun v hv => ?_) g9, fun h => absurd (by omega) h⟩
        exact HK (b := nm v + 1) g2' g7.2.1 (fun i hi => (g7.1 i hi).1) (fun i hi => (g7.1 i hi).2.1) (fun p j hp hj _ => g7.2.2.2.2.2 p j (Or.inl (by omega)) hp hj) (nm v) v rfl hv (by omega)
      · have hk : k < c := by omega
        have wk : Unit → wr ((k : Int) + 1) = ((k + 1 : Nat) : Int) := fun _ => by rw [wr_id (by omega) (by omega)]; omega
        have w4k : Unit → wr ((k : Int) * 4) = ((4 * k : Nat) : Int) := fun _ => by rw [wr_id (by omega) (by omega)]; omega
        have keyl : ∀ mm l : Nat, ∀ (s3 : St) (X : Nat → Int × Int) (W : Nat → List Nat) (r : Nat → Nat) (c : Nat) (u6 u7 u8 : V), l + mm = a → k < c → c ≤ 403 → s3 87 9 = (c : Nat) → (∀ i, i < c → s3 91 i = (X i).1 ∧ s3 92 i = (X i).2) → UG s3 r c → HI M O a X W r c k l → WBc s3 a c W → FrF st s3 → AW (P 210) Q (MS (d + 2)) 0 (fun _ => 0) 9 [vr 87, vr o, vr o', vi a, vi k, vi l, u6, u7, u8] [] s3 := by
          intro mm
          induction mm with
          | zero =>
            intro l s3 X W r c u6 u7 u8 y1 y2 y3 y4 y5 y6 y7 y8 y9
            have : l = a := by omega
            subst this
            rw [awu 210 9]
            try simp only [awu 210 14, pe210, xs, i_load, i_loadR, i_inc, lg, lp, true_and, and_true, List.length_cons, List.length_nil, Nat.reduceAdd, Nat.reduceLeDiff, Nat.zero_le, Int.toNat_natCast, natLit, k0, wk ()]
            refine ⟨fun _ => ih (k + 1) s3 X W r c _ _ _ _ (by omega) (by omega) (by omega) y3 y4 y5 y6 ⟨y7.1, y7.2.1, y7.2.2.1, fun hk1 i hi => ?_, y7.2.2.2.2.1, fun p j hp hpc hj => y7.2.2.2.2.2 p j (by unfold lx at *; omega) hpc hj⟩ y8 y9, fun h => absurd (Int.le_refl _) h⟩
            have := y7.2.2.2.1 y2 i hi
            have := y7.2.2.1 k (k + 1) (by omega) hk1
            omega
          | succ mm ihl =>
            intro l s3 X W r c u6 u7 u8 y1 y2 y3 y4 y5 y6 y7 y8 y9
            obtain ⟨f1, f2⟩ := fr s3 y9
            obtain ⟨x1, x2⟩ := y5 k y2
            have wl' : Unit → wr ((l : Int) + 1) = ((l + 1 : Nat) : Int) := fun _ => by rw [wr_id (by omega) (by omega)]; omega
            have w4 : Unit → wr (((4 * k : Nat) : Int) + (l : Int)) = ((4 * k + l : Nat) : Int) := fun _ => by rw [wr_id (by omega) (by omega)]; omega
            have b1 := fo_b (s := (X k).1) hMW (show l < 4 by omega)
            have b2 := fo_b (s := (X k).2) hOW (show l < 4 by omega)
            have hXk := y7.1 k y2
            rw [awu 210 9]
            try simp only [awu 210 10, pe210, xs, i_load, i_loadR, i_inc, lg, lp, true_and, and_true, List.length_cons, List.length_nil, Nat.reduceAdd, Nat.reduceLeDiff, Nat.zero_le, Int.toNat_natCast, natLit, k0, k91, l91, x1]
            refine ⟨fun h => by omega, fun _ => ⟨by omega, ?_⟩⟩
            refine sp_mcfollow ho f1 hMW (show l < 4 by omega) ?_
            dsimp only
            try simp only [awu 210 10, pe210, xs, i_load, i_loadR, i_inc, lg, lp, true_and, and_true, List.length_cons, List.length_nil, Nat.reduceAdd, Nat.reduceLeDiff, Nat.zero_le, Int.toNat_natCast, natLit, k0, k92, l92, x2]
            refine ⟨by omega, ?_⟩
            refine sp_mcfollow ho' f2 hOW (show l < 4 by omega) ?_
            dsimp only
            try simp only [awu 210 10, pe210, xs, i_load, i_loadR, i_inc, lg, lp, true_and, and_true, List.length_cons, List.length_nil, Nat.reduceAdd, Nat.reduceLeDiff, Nat.zero_le, Int.toNat_natCast, natLit, k0]
            refine sp_unite y6 (by omega) (by omega) (fun s4 w1 w2 w3 => ?_) (fun s4 w1 wc w2 w3 => ?_)
            · dsimp only
              try simp only [awu 210 10, awu 210 13, pe210, xs, i_load, i_loadR, i_inc, lg, lp, true_and, and_true, List.length_cons, List.length_nil, Nat.reduceAdd, Nat.reduceLeDiff, Nat.zero_le, Int.toNat_natCast, natLit, k0, wl' ()]
              refine ⟨fun _ => ihl (l + 1) s4 X W r c _ _ _ (by omega) y2 y3 (by rw [w3 87 (by decide)]; exact y4) (fun i hi => by rw [w3 91 (by decide), w3 92 (by decide)]; exact y5 i hi) w2 ⟨y7.1, y7.2.1, y7.2.2.1, fun hk1 i hi => by have := y7.2.2.2.1 y2 i hi; omega, y7.2.2.2.2.1, fun p j hp hpc hj => ?_⟩ (fun i i1 i2 => by rw [w3 93 (by decide)]; exact y8 i i1 i2) (fun q i q1 q2 q3 q4 q5 => by rw [w3 q q5]; exact y9 q i q1 q2 q3 q4 q5), fun h => absurd (by trivial) h⟩
              by_cases zz : p = k ∧ j = l
              · obtain ⟨rfl, rfl⟩ := zz
                refine Or.inr (fun x hx hag => ?_)
                refine CPr_ag (q := tg M O (X p) j) y7.2.2.2.2.1 (fun i hi => (y7.1 i hi).2.2.2) ⟨by show -1 ≤ fo M (X p).1 j ∧ fo M (X p).1 j < 201; omega, by show -1 ≤ fo O (X p).2 j ∧ fo O (X p).2 j < 201; omega⟩ w1 (fun i hi => hag i hi ?_)
                rw [nm_sn]
                have := y7.2.2.2.1 y2 i hi
                omega
              · exact y7.2.2.2.2.2 p j (by unfold lx at *; omega) hpc hj
            · dsimp only
              try simp only [awu 210 10, awu 210 11, pe210, xs, i_load, i_loadR, i_inc, lg, lp, true_and, and_true, List.length_cons, List.length_nil, Nat.reduceAdd, Nat.reduceLeDiff, Nat.zero_le, Int.toNat_natCast, natLit, k0, w4k (), w4 ()]
              refine ⟨fun h => absurd h (by decide), fun _ => ?_⟩
              refine sp_pnote (c := c) (by rw [w3 87 (by decide)]; exact y4) (by omega) (fun s5 z1 z2 z3 z4 z5 => ?_)
              dsimp only
              have fr5 : FrF st s5 := fun q i q1 q2 q3 q4 q5 => by rw [z5 q i q1 (by omega), w3 q q5]; exact y9 q i q1 q2 q3 q4 q5
              obtain ⟨f3, f4⟩ := fr s5 fr5
              have e95 : s5 96 = s4 96 := by funext i; exact z5 96 i (by omega) (by omega)
              have uS : ∀ (i : Nat) (v : List Nat), (fun j => if j = i then v else W j) i = v := fun i v => if_pos rfl
              have hWB : WBc s5 a (c + 1) (fun j => if j = c then W k ++ [l] else W j) := by
                intro i i1 i2
                dsimp only
                by_cases z : i = c
                · refine ⟨k, l, by omega, by omega, by rw [z]; exact z4, ?_⟩
                  rw [if_pos z, if_neg (show ¬ k = c by omega)]
                · obtain ⟨p, j, p1, p2, p3, p4⟩ := y8 i i1 (by omega)
                  refine ⟨p, j, p1, p2, by rw [z5 93 i (by omega) (by omega), w3 93 (by decide)]; exact p3, ?_⟩
                  rw [if_neg z, if_neg (show ¬ p = c by omega)]
                  exact p4
              have hlw : Lw a (W k ++ [l]) := Lw_app hXk.1.2 (Lw_cons (by omega) (fun l h => by simp at h))
              have hlen : (W k ++ [l]).length ≤ c := by
                rw [List.length_append]
                have := hXk.2.2.1
                show (W k).length + 1 ≤ c
                omega
              try simp only [awu 210 11, pe210, xs, i_load, i_loadR, i_inc, lg, lp, true_and, and_true, List.length_cons, List.length_nil, Nat.reduceAdd, Nat.reduceLeDiff, Nat.zero_le, Int.toNat_natCast, natLit, k0]
              refine sp_mcin ho f3 ?_
              dsimp only
              try simp only [awu 210 11, pe210, xs, i_load, i_loadR, i_inc, lg, lp, true_and, and_true, List.length_cons, List.length_nil, Nat.reduceAdd, Nat.reduceLeDiff, Nat.zero_le, Int.toNat_natCast, natLit, k0]
              refine sp_mcin ho' f4 ?_
              dsimp only
              have eM : rl M 0 (W k ++ [l]) = fo M (X k).1 l := by rw [rl_sn, hXk.1.1]
              have eO : rl O 0 (W k ++ [l]) = fo O (X k).2 l := by rw [rl_sn, hXk.1.1]
              by_cases hd : inM M (fo M (X k).1 l) = inM O (fo O (X k).2 l)
              · rw [hd]
                try simp only [awu 210 11, awu 210 13, pe210, xs, i_load, i_loadR, i_inc, lg, lp, true_and, and_true, List.length_cons, List.length_nil, Nat.reduceAdd, Nat.reduceLeDiff, Nat.zero_le, Int.toNat_natCast, natLit, k0, wl' ()]
                refine ⟨fun _ => ihl (l + 1) s5 (updP X c (tg M O (X k) l)) (fun j => if j = c then W k ++ [l] else W j) (uni r (r (fo M (X k).1 l + 1).toNat) (r (fo O (X k).2 l + 203).toNat)) (c + 1) _ _ _ (by omega) (by omega) (by omega) z1 (fun i hi => ?_) ?_ ⟨fun i hi => ?_, ?_, fun i j hij hj => ?_, fun _ i hi => ?_, ?_, fun p j hp hpc hj => ?_⟩ hWB fr5, fun h => absurd (by trivial) h⟩
                · by_cases z : i = c
                  · rw [z, updP_s, z2, z3]
                    exact ⟨rfl, rfl⟩
                  · rw [updP_n z, z5 91 i (by omega) (by omega), z5 92 i (by omega) (by omega), w3 91 (by decide), w3 92 (by decide)]
                    exact y5 i (by omega)
                · obtain ⟨Ld, τ, hU⟩ := w2
                  refine ⟨Ld, τ, ?_⟩
                  unfold UF at hU ⊢
                  rw [e95]
                  exact hU
                · dsimp only
                  by_cases z : i = c
                  · rw [if_pos z, z, updP_s]
                    refine ⟨⟨?_, hlw⟩, hd, hlen, by show -1 ≤ fo M (X k).1 l ∧ fo M (X k).1 l < 201; omega, by show -1 ≤ fo O (X k).2 l ∧ fo O (X k).2 l < 201; omega⟩
                    rw [eM, eO]
                    rfl
                  · rw [if_neg z, updP_n z]
                    exact y7.1 i (by omega)
                · dsimp only
                  rw [if_neg (by omega)]
                  exact y7.2.1
                · dsimp only
                  rw [if_neg (show ¬ i = c by omega)]
                  by_cases z : j = c
                  · rw [if_pos z, nm_sn]
                    have := y7.2.2.2.1 y2 i (by omega)
                    omega
                  · rw [if_neg z]
                    exact y7.2.2.1 i j hij (by omega)
                · dsimp only
                  rw [if_neg (show ¬ k = c by omega)]
                  by_cases z : i = c
                  · rw [if_pos z, nm_sn]
                    omega
                  · rw [if_neg z]
                    have := y7.2.2.2.1 y2 i (by omega)
                    omega
                · exact CPr_uni (q := tg M O (X k) l) y7.2.2.2.2.1 (by show (fo M (X k).1 l + 1).toNat < 404; omega) (by show (fo O (X k).2 l + 203).toNat < 404; omega)
                · dsimp only
                  have hpc' : p < c := by unfold lx at hp; omega
                  rw [if_neg (show ¬ p = c by omega), updP_n (show p ≠ c by omega)]
                  by_cases zz : p = k ∧ j = l
                  · obtain ⟨rfl, rfl⟩ := zz
                    exact Or.inl ⟨c, by omega, if_pos rfl⟩
                  · rcases y7.2.2.2.2.2 p j (by unfold lx at *; omega) hpc' hj with ⟨i, i1, i2⟩ | hag
                    · exact Or.inl ⟨i, by omega, by rw [if_neg (show ¬ i = c by omega)]; exact i2⟩
                    · refine Or.inr (fun x hx hall => hag x hx (fun i hi hlt => ?_))
                      have := hall i (by omega)
                      rw [if_neg (show ¬ i = c by omega), updP_n (show i ≠ c by omega)] at this
                      exact this hlt
              · try simp only [awu 210 11, awu 210 12, pe210, xs, i_load, i_loadR, i_inc, lg, lp, true_and, and_true, List.length_cons, List.length_nil, Nat.reduceAdd, Nat.reduceLeDiff, Nat.zero_le, Int.toNat_natCast, natLit, k0]
                refine ⟨fun h => ?_, fun _ => h1 s5 (c + 1) c (fun j => if j = c then W k ++ [l] else W j) (by omega) (by omega) ?_ ?_ ?_ hWB fr5⟩
                · exfalso
                  apply hd
                  cases hx : inM M (fo M (X k).1 l) <;> cases hy : inM O (fo O (X k).2 l) <;> rw [hx, hy] at h <;> simp at h ⊢
                · rw [if_neg (by omega)]
                  exact y7.2.1
                · rw [if_pos rfl]
                  exact hlen
                · rw [if_pos rfl]
                  refine ⟨hlw, ?_, fun v hv hlt => ?_⟩
                  · unfold Df
                    rw [eM, eO]
                    exact hd
                  · exact HK (b := nm (W k ++ [l])) (show 0 < c by omega) y7.2.1 (fun i hi => (y7.1 i hi).1) (fun i hi => (y7.1 i hi).2.1) (fun p j hp hj hlt => y7.2.2.2.2.2 p j (nms X W r c k l p j y7 (by omega) y2 hp hj hlt) hp hj) (nm v) v rfl hv hlt
        rw [awu 210 6]
        try simp only [awu 210 7, awu 210 8, pe210, xs, i_load, i_loadR, i_inc, lg, lp, true_and, and_true, List.length_cons, List.length_nil, Nat.reduceAdd, Nat.reduceLeDiff, Nat.zero_le, Int.toNat_natCast, natLit, k0, g4]
        exact ⟨fun h => by omega, fun _ => ⟨fun h => by omega, fun _ => keyl a 0 s2 X W r c _ _ _ (by omega) hk g3 g4 g5 g6 g7 g8 g9⟩⟩
  have fill : ∀ mm i : Nat, ∀ s2 : St, i + mm = 404 → (∀ x, x < i → s2 96 x = (x : Nat)) → s2 87 9 = 0 → FrF st s2 → AW (P 210) Q (MS (d + 2)) 0 (fun _ => 0) 1 [vr 87, vr o, vr o', vi a, vi i, none, none, none, none] [] s2 := by
    intro mm
    induction mm with
    | zero =>
      intro i s2 g1 g2 g3 g4
      have : i = 404 := by omega
      subst this
      have hUF : UG s2 (fun k => k) 0 := ⟨fun k => k, fun _ => 404, ⟨fun k hk => ⟨g2 k hk, hk⟩, fun k hk => ⟨hk, rfl, rfl, fun _ => rfl⟩, fun k _ => ⟨fun _ => rfl, fun h => absurd rfl h⟩, by rw [cn_all (fun k _ => beq_self_eq_true k)]⟩⟩
      rw [awu 210 1]
      try simp only [awu 210 3, pe210, xs, i_load, i_loadR, i_inc, lg, lp, true_and, and_true, List.length_cons, List.length_nil, Nat.reduceAdd, Nat.reduceLeDiff, Nat.zero_le, Int.toNat_natCast, natLit, k0]
      refine ⟨fun _ => ?_, fun h => absurd (by decide) h⟩
      refine sp_unite hUF (by decide) (by decide) (fun s3 w1 _ _ => absurd w1 (by decide)) (fun s3 w1 _ w2 w3 => ?_)
      dsimp only
      try simp only [awu 210 3, pe210, xs, i_load, i_loadR, i_inc, lg, lp, true_and, and_true, List.length_cons, List.length_nil, Nat.reduceAdd, Nat.reduceLeDiff, Nat.zero_le, Int.toNat_natCast, natLit, k0]
      refine sp_pnote (c := 0) (by rw [w3 87 (by decide)]; exact g3) (by decide) (fun s4 z1 z2 z3 z4 z5 => ?_)
      dsimp only
      have fr4 : FrF st s4 := fun q i q1 q2 q3 q4 q5 => by rw [z5 q i q1 (by omega), w3 q q5]; exact g4 q i q1 q2 q3 q4 q5
      obtain ⟨f1, f2⟩ := fr s4 fr4
      try simp only [awu 210 3, pe210, xs, i_load, i_loadR, i_inc, lg, lp, true_and, and_true, List.length_cons, List.length_nil, Nat.reduceAdd, Nat.reduceLeDiff, Nat.zero_le, Int.toNat_natCast, natLit, k0]
      refine sp_mcin ho f1 ?_
      dsimp only
      try simp only [awu 210 3, pe210, xs, i_load, i_loadR, i_inc, lg, lp, true_and, and_true, List.length_cons, List.length_nil, Nat.reduceAdd, Nat.reduceLeDiff, Nat.zero_le, Int.toNat_natCast, natLit, k0]
      refine sp_mcin ho' f2 ?_
      dsimp only
      have hWB : WBc s4 a 1 (fun _ => []) := fun i i1 i2 => by omega
      have e96 : s4 96 = s3 96 := by funext i; exact z5 96 i (by omega) (by omega)
      by_cases hd : inM M 0 = inM O 0
      · rw [hd]
        try simp only [awu 210 3, awu 210 5, pe210, xs, i_load, i_loadR, i_inc, lg, lp, true_and, and_true, List.length_cons, List.length_nil, Nat.reduceAdd, Nat.reduceLeDiff, Nat.zero_le, Int.toNat_natCast, natLit, k0]
        refine ⟨fun _ => key 404 0 s4 (fun _ => (0, 0)) (fun _ => []) (uni (fun k => k) 1 203) 1 _ _ _ _ (by omega) (by omega) (by omega) (by omega) z1 (fun i hi => ?_) ?_ ⟨fun i hi => ⟨⟨rfl, fun l h => by simp at h⟩, hd, Nat.zero_le _, by show -1 ≤ (0 : Int) ∧ (0 : Int) < 201; omega, by show -1 ≤ (0 : Int) ∧ (0 : Int) < 201; omega⟩, rfl, fun i j h1 h2 => by omega, fun _ i _ => Nat.zero_le _, ?_, fun p j hp => by unfold lx at hp; omega⟩ hWB fr4, fun h => absurd (by trivial) h⟩
        · have : i = 0 := by omega
          rw [this]
          exact ⟨z2, z3⟩
        · obtain ⟨Ld, τ, hU⟩ := w2
          refine ⟨Ld, τ, ?_⟩
          unfold UF at hU ⊢
          rw [e96]
          exact hU
        · intro p hp x hx
          have h0 : p 1 = p 203 := hp 0 (by omega)
          unfold uni
          by_cases z : x = 1
          · rw [if_pos z, z]
            exact h0
          · rw [if_neg z]
      · try simp only [awu 210 3, awu 210 4, pe210, xs, i_load, i_loadR, i_inc, lg, lp, true_and, and_true, List.length_cons, List.length_nil, Nat.reduceAdd, Nat.reduceLeDiff, Nat.zero_le, Int.toNat_natCast, natLit, k0]
        refine ⟨fun h => ?_, fun _ => h1 s4 1 0 (fun _ => []) (by decide) (by decide) rfl (Nat.le_refl _) ⟨fun l h => by simp at h, hd, fun v hv hlt => absurd hlt (Nat.not_lt_zero _)⟩ hWB fr4⟩
        exfalso
        apply hd
        cases hx : inM M 0 <;> cases hy : inM O 0 <;> rw [hx, hy] at h <;> simp at h ⊢
    | succ mm ih =>
      intro i s2 g1 g2 g3 g4
      have wk : Unit → wr ((i : Int) + 1) = ((i + 1 : Nat) : Int) := fun _ => by rw [wr_id (by omega) (by omega)]; omega
      rw [awu 210 1]
      try simp only [awu 210 2, pe210, xs, i_load, i_loadR, i_inc, lg, lp, true_and, and_true, List.length_cons, List.length_nil, Nat.reduceAdd, Nat.reduceLeDiff, Nat.zero_le, Int.toNat_natCast, natLit, k0, k96, l96, wk ()]
      refine ⟨fun h => by omega, fun _ => ⟨by omega, ih (i + 1) _ (by omega) (fun x hx => ?_) (by rw [up2_ne (by decide)]; exact g3) (fun q j q1 q2 q3 q4 q5 => by rw [up2_ne q5]; exact g4 q j q1 q2 q3 q4 q5)⟩⟩
      rw [up2_self]
      by_cases z : x = i
      · rw [z, upf_s]
      · rw [upf_n z]
        exact g2 x (by omega)
  refine MS_v [vr 87, vr o, vr o', vi a, none, none, none, none, none] rfl rfl rfl rfl ?_
  try simp only [awu 210 0, pe210, xs, i_load, i_loadR, i_inc, lg, lp, true_and, and_true, List.length_cons, List.length_nil, Nat.reduceAdd, Nat.reduceLeDiff, Nat.zero_le, Int.toNat_natCast, natLit, k0]
  refine fill 404 0 _ (by omega) (fun x hx => by omega) (by rw [up2_self, upf_s]) (fun q i q1 _ _ _ _ => ?_)
  rw [up2_at]
  by_cases z : q = 87
  · subst z
    rw [if_pos rfl, if_neg (by omega)]
  · rw [if_neg z]
/-! the word is written -/
theorem sp_turn {d : Nat} {st : St} {L : List Nat} {Q : Rn} (hL : WRc st L) (hl : L.length ≤ 3618) (hq : ∀ st' : St, WRc st' L.reverse → FrWc st st' → Q none st') : MS (d + 1) 226 [vr 3] st Q := by
  have k0 : kl 3 = 5 := rfl
  have k4 : kl 4 = 50 := rfl
  have l4 : len 4 = 3618 := rfl
  have key : ∀ mm lo : Nat, ∀ (hi : Int) (s2 : St) (u3 : V), hi + lo = (L.length : Int) - 1 → 2 * lo ≤ L.length + 1 → L.length ≤ 2 * (lo + mm) → s2 3 1 = (L.length : Nat) → (∀ i, i < L.length → s2 4 i = if i < lo ∨ hi < i then ((L.getD (L.length - 1 - i) 0 : Nat) : Int) else (L.getD i 0 : Nat)) → FrWc st s2 → AW (P 226) Q (MS d) 0 (fun _ => 0) 1 [vr 3, vi lo, vi hi, u3] [] s2 := by
    have fin : ∀ (lo : Nat) (hi : Int) (s2 : St), hi + lo = (L.length : Int) - 1 → hi ≤ lo → s2 3 1 = (L.length : Nat) → (∀ i, i < L.length → s2 4 i = if i < lo ∨ hi < i then ((L.getD (L.length - 1 - i) 0 : Nat) : Int) else (L.getD i 0 : Nat)) → FrWc st s2 → Q none s2 := by
      intro lo hi s2 g1 g2 g3 g4 g5
      refine hq s2 ⟨by rw [List.length_reverse]; exact g3, fun i hi' => ?_⟩ g5
      rw [List.length_reverse] at hi'
      rw [g4 i hi']
      have er : L.reverse.getD i 0 = L.getD (L.length - 1 - i) 0 := by
        rw [List.getD_eq_getElem?_getD, List.getD_eq_getElem?_getD, List.getElem?_reverse hi']
      rw [er]
      by_cases z : i < lo ∨ hi < i
      · rw [if_pos z]
      · rw [if_neg z, show L.length - 1 - i = i by omega]
    intro mm
    induction mm with
    | zero =>
      intro lo hi s2 u3 g1 g2 g2' g3 g4 g5
      have fn := fin lo hi s2 g1 (by omega) g3 g4 g5
      rw [awu 226 1]
      try simp only [awu 226 2, awu 226 5, pe226, xs, i_load, i_loadR, i_inc, lg, lp, true_and, and_true, List.length_cons, List.length_nil, Nat.reduceAdd, Nat.reduceLeDiff, Nat.zero_le, Int.toNat_natCast, natLit, k0]
      exact ⟨fun _ => fn, fun _ => ⟨fun _ => fn, fun h => absurd (by omega) h⟩⟩
    | succ mm ih =>
      intro lo hi s2 u3 g1 g2 g2' g3 g4 g5
      by_cases hlt : (lo : Int) < hi
      · obtain ⟨h', rfl⟩ : ∃ h' : Nat, hi = h' := ⟨hi.toNat, by omega⟩
        have e1 := g4 lo (by omega)
        have e2 := g4 h' (by omega)
        rw [if_neg (by omega)] at e1 e2
        have wl : Unit → wr ((lo : Int) + 1) = ((lo + 1 : Nat) : Int) := fun _ => by rw [wr_id (by omega) (by omega)]; omega
        have wh : Unit → wr ((h' : Int) + -1) = ((h' : Int) - 1) := fun _ => by rw [wr_id (by omega) (by omega)]; omega
        rw [awu 226 1]
        try simp only [awu 226 2, awu 226 3, awu 226 4, pe226, xs, i_load, i_loadR, i_inc, lg, lp, true_and, and_true, List.length_cons, List.length_nil, Nat.reduceAdd, Nat.reduceLeDiff, Nat.zero_le, Int.toNat_natCast, natLit, k0, k4, l4, e1, e2, wl (), wh (), true_or, or_true]
        refine ⟨fun h => by omega, fun _ => ⟨fun h => by omega, fun _ => ⟨fun h => by omega, fun _ => ⟨by omega, by omega, by omega, by omega, ?_⟩⟩⟩⟩
        refine ih (lo + 1) _ _ _ (by omega) (by omega) (by omega) (by rw [up2_ne (by decide), up2_ne (by decide)]; exact g3) (fun i hi => ?_) (fun q i q1 q2 => by rw [up2_ne q1, up2_ne q1]; exact g5 q i q1 q2)
        rw [up2_self]
        by_cases z1 : i = h'
        · rw [z1, upf_s, if_pos (by omega), show L.length - 1 - h' = lo by omega]
        · rw [upf_n z1, up2_self]
          by_cases z2 : i = lo
          · rw [z2, upf_s, if_pos (by omega), show L.length - 1 - lo = h' by omega]
          · rw [upf_n z2, g4 i hi]
            by_cases z3 : i < lo ∨ (h' : Int) < i
            · rw [if_pos z3, if_pos (by omega)]
            · rw [if_neg z3, if_neg (by omega)]
      · have fn := fin lo hi s2 g1 (by omega) g3 g4 g5
        rw [awu 226 1]
        try simp only [awu 226 2, awu 226 5, pe226, xs, i_load, i_loadR, i_inc, lg, lp, true_and, and_true, List.length_cons, List.length_nil, Nat.reduceAdd, Nat.reduceLeDiff, Nat.zero_le, Int.toNat_natCast, natLit, k0]
        exact ⟨fun _ => fn, fun _ => ⟨fun _ => fn, fun h => absurd (by omega) h⟩⟩
  have e := hL.1
  have w1 : Unit → wr ((L.length : Int) - 1) = (L.length : Int) - 1 := fun _ => by rw [wr_id (by omega) (by omega)]
  refine MS_v [vr 3, none, none, none] rfl rfl rfl rfl ?_
  try simp only [awu 226 0, pe226, xs, i_load, i_loadR, i_inc, lg, lp, true_and, and_true, List.length_cons, List.length_nil, Nat.reduceAdd, Nat.reduceLeDiff, Nat.zero_le, Int.toNat_natCast, natLit, k0, e, w1 ()]
  refine key L.length 0 _ st none (by omega) (by omega) (by omega) e (fun i hi => ?_) FrWc_r
  rw [if_neg (by omega)]
  exact hL.2 i hi
theorem sp_writeWay {d n k a : Nat} {st : St} {W : Nat → List Nat} {Q : Rn} (ha : a ≤ 4) (hk : k < n) (hn : n ≤ 404) (h0 : W 0 = []) (hlen : (W k).length ≤ k) (hB : WBc st a n W)
    (hq : ∀ st' : St, WRc st' ((W k).map (fun l => 97 + l)) → FrWc st st' → Q none st') : MS (d + 2) 213 [vr 87, vi k, vr 3] st Q := by
  have k0 : kl 87 = 4 := rfl
  have k93 : kl 93 = 50 := rfl
  have l93 : len 93 = 404 := rfl
  have key : ∀ mm x : Nat, ∀ (s2 : St) (suf : List Nat), x < mm → x < n → W k = W x ++ suf → WRc s2 (suf.reverse.map (fun l => 97 + l)) → FrWc st s2 → AW (P 213) Q (MS (d + 1)) 0 (fun _ => 0) 1 [vr 87, vi k, vr 3, vi x, vi (suf.length : Nat)] [] s2 := by
    intro mm
    induction mm with
    | zero => intro x s2 suf g0; omega
    | succ mm ih =>
      intro x s2 suf g0 g1 g2 g3 g4
      have hsl : (W k).length = (W x).length + suf.length := by rw [g2, List.length_append]
      rcases Nat.eq_zero_or_pos x with zx | zx
      · subst zx
        have esuf : suf = W k := by rw [g2, h0]; rfl
        rw [awu 213 1]
        try simp only [awu 213 2, awu 213 5, pe213, xs, i_load, i_loadR, i_inc, lg, lp, true_and, and_true, List.length_cons, List.length_nil, Nat.reduceAdd, Nat.reduceLeDiff, Nat.zero_le, Int.toNat_natCast, natLit, k0]
        have go : MS (d + 1) 226 [vr 3] s2 (fun v st' => match v with | none => Q none st' | some _ => False) := by
          refine sp_turn g3 (by rw [List.length_map, List.length_reverse]; omega) (fun s3 z1 z2 => ?_)
          dsimp only
          refine hq s3 ?_ (FrWc_t g4 z2)
          rw [← List.map_reverse, List.reverse_reverse, esuf] at z1
          exact z1
        refine ⟨fun _ => ?_, fun _ => ⟨fun _ => ?_, fun h => absurd (by decide) h⟩⟩
        · exact MS_cons go (fun v t h => by cases v <;> exact h)
        · exact MS_cons go (fun v t h => by cases v <;> exact h)
      · obtain ⟨p, j, p1, p2, p3, p4⟩ := hB x zx g1
        have e93 : s2 93 x = ((4 * p + j : Nat) : Int) := by rw [g4 93 x (by omega) (by omega)]; exact p3
        have hxl : (W x).length = (W p).length + 1 := by rw [p4, List.length_append]; rfl
        have wn : Unit → wr ((suf.length : Int) + 1) = ((j :: suf).length : Nat) := fun _ => by rw [wr_id (by omega) (by omega), List.length_cons]; omega
        have hj4 : j < 4 := by omega
        have hp31 : 4 * p + j < 2 ^ 31 := by omega
        have em : (4 * p + j) % 4 = j := by omega
        have ed : (4 * p + j) / 4 = p := by omega
        have wr1 : Unit → brem ((4 * p + j : Nat) : Int) 4 = (j : Int) := fun _ => by
          have h4 := brem_nat (4 * p + j) 4 hp31 (by decide) (by decide)
          rw [em] at h4
          exact h4
        have wd1 : Unit → wr (Int.tdiv ((4 * p + j : Nat) : Int) 4) = (p : Int) := fun _ => by
          have h4 := div_nat (4 * p + j) 4 hp31
          rw [ed] at h4
          exact h4
        have w97 : Unit → wr (97 + (j : Int)) = ((97 + j : Nat) : Int) := fun _ => by rw [wr_id (by omega) (by omega)]; omega
        rw [awu 213 1]
        try simp only [awu 213 2, awu 213 3, awu 213 4, pe213, xs, i_load, i_loadR, i_inc, lg, lp, true_and, and_true, List.length_cons, List.length_nil, Nat.reduceAdd, Nat.reduceLeDiff, Nat.zero_le, Int.toNat_natCast, natLit, k0, k93, l93, e93, wr1 (), w97 ()]
        refine ⟨fun h => by omega, fun _ => ⟨fun h => by omega, fun _ => ⟨fun h => by omega, fun _ => ⟨by omega, by decide, ?_⟩⟩⟩⟩
        refine sp_cputN g3 (by rw [List.length_map, List.length_reverse]; omega) (by omega) (fun s3 z1 z2 => ?_)
        dsimp only
        have e93' : s3 93 x = ((4 * p + j : Nat) : Int) := by rw [z2 93 x (by omega) (by omega)]; exact e93
        try simp only [awu 213 4, pe213, xs, i_load, i_loadR, i_inc, lg, lp, true_and, and_true, List.length_cons, List.length_nil, Nat.reduceAdd, Nat.reduceLeDiff, Nat.zero_le, Int.toNat_natCast, natLit, k0, k93, l93, e93', wd1 (), wn ()]
        refine ⟨by omega, by decide, ?_⟩
        refine ih p s3 (j :: suf) (by omega) (by omega) (by rw [g2, p4, List.append_assoc]; rfl) ?_ (FrWc_t g4 z2)
        rw [List.reverse_cons, List.map_append]
        exact z1
  refine MS_v [vr 87, vi k, vr 3, none, none] rfl rfl rfl rfl ?_
  try simp only [awu 213 0, pe213, xs, i_load, i_loadR, i_inc, lg, lp, true_and, and_true, List.length_cons, List.length_nil, Nat.reduceAdd, Nat.reduceLeDiff, Nat.zero_le, Int.toNat_natCast, natLit, k0]
  refine sp_cut rfl ?_
  dsimp only
  try simp only [awu 213 0, pe213, xs, i_load, i_loadR, i_inc, lg, lp, true_and, and_true, List.length_cons, List.length_nil, Nat.reduceAdd, Nat.reduceLeDiff, Nat.zero_le, Int.toNat_natCast, natLit, k0]
  exact key (k + 1) k _ [] (by omega) hk (List.append_nil _).symm WRc_0 FrWc_0
