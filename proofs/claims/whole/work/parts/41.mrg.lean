/-! merges and their scores (reference) -/
set_option maxHeartbeats 1000000 in
theorem sp_merges {d n q i j J : Nat} {st : St} {F : FS} {Q : Rn} (hn : n ≤ 120) (hq4 : q ≤ 4) (hC : MR st n q F) (hF : FI n F) (hL : LA n q F) (hi : i < n) (hj : j < n) (hJ : st 99 24 = J) (hJR : J + cR F n = n)
    (h1 : ∀ (F' : FS) (st' : St) (k : Nat), mg F i j = some F' → MR st' n q F' → st' 99 24 = (J + k : Nat) → Sm st' n q J k F F' → st' 99 25 = (cM F n : Int) - cM F' n → FrM st st' → Q (vi 1) st')
    (h0 : ∀ st' : St, mg F i j = none → MR st' n q F → st' 99 24 = J → FrM st st' → Q (vi 0) st') : MS (d + 3) 66 [vr 99, vi i, vi j] st Q := by
  have k0 : kl 99 = 12 := rfl
  have k2 : kl 110 = 50 := rfl
  have l2 : len 110 = 161 := rfl
  have k7 : kl 117 = 50 := rfl
  have l7 : len 117 = 1400 := rfl
  have hcRl : cR F n ≤ n := cn_le n
  have hcMl : cM F n ≤ n := cn_le n
  have key : ∀ m k fu : Nat, ∀ (s2 : St) (F' : FS) (T : List (Nat × Nat)) (u4 u5 u6 u7 : V), T.length + 4 * cR F' n ≤ m → T.length + 4 * cR F' n ≤ 481 → T.length + 4 * cR F' n ≤ fu → MR s2 n q F' → SM s2 T → TLt n T → s2 99 24 = (J + k : Nat) → Sm s2 n q J k F F' → s2 99 25 = (cM F n : Int) - cM F' n → cM F' n ≤ cM F n → jn (fu + 1) F' T = mg F i j → FrM st s2 → AW (P 66) Q (MS (d + 2)) 0 (fun _ => 0) 1 [vr 99, vi i, vi j, vi J, u4, u5, u6, u7] [] s2 := by
    intro m
    induction m with
    | zero =>
      intro k fu s2 F' T u4 u5 u6 u7 g1 g1' g2 g3 g4 g5 g6 g7 g8 g8' g9 g11
      have := cR_pos (Sm_FI hF hL g7).1 (show 0 < n by omega)
      omega
    | succ m ih =>
      intro k fu s2 F' T u4 u5 u6 u7 g1 g1' g2 g3 g4 g5 g6 g7 g8 g8' g9 g11
      obtain ⟨hF', hL'⟩ := Sm_FI hF hL g7
      have hlen := Sm_len g7
      have hpos := cR_pos hF' (show 0 < n by omega)
      match T, g1, g1', g2, g4, g5, g9 with
      | [], g1, g1', g2, g4, g5, g9 =>
        have g9 : some F' = mg F i j := g9
        have hh := h1 F' s2 k g9.symm g3 g6 g7 g8 g11
        have e27 : s2 99 27 = 0 := g4.1
        rw [awu 66 1]
        try simp only [awu 66 15, pe66, xs, i_load, i_loadR, i_inc, lg, lp, true_and, and_true, List.length_cons, List.length_nil, Nat.reduceAdd, Nat.reduceLeDiff, Nat.zero_le, Int.toNat_natCast, natLit, k0, e27]
        exact ⟨fun _ => ⟨ok01_1, hh⟩, fun h => by omega⟩
      | (x, y) :: T, g1, g1', g2, g4, g5, g9 =>
        obtain ⟨fu, rfl⟩ : ∃ f, fu = f + 1 := ⟨fu - 1, by simp at g2; omega⟩
        obtain ⟨hx, hy⟩ := g5 (x, y) List.mem_cons_self
        have hT' : TLt n T := fun p hp => g5 p (List.mem_cons_of_mem _ hp)
        rw [List.length_cons] at g1 g1' g2
        have e27 : s2 99 27 = ((2 * (T.length + 1) : Nat) : Int) := g4.1
        have w1 : Unit → wr (((2 * (T.length + 1) : Nat) : Int) - 2) = ((2 * T.length : Nat) : Int) := fun _ => by rw [wr_id (by omega) (by omega)]; omega
        have w2 : Unit → wr (((2 * T.length : Nat) : Int) + 1) = ((2 * T.length + 1 : Nat) : Int) := fun _ => by rw [wr_id (by omega) (by omega)]; omega
        obtain ⟨t7, t8⟩ := g4.2 T.length (by simp)
        simp at t7 t8
        generalize hs3 : up2 s2 99 27 (2 * T.length : Nat) = s3
        have f3 : ∀ j i, ¬ (j = 99 ∧ i = 27) → s3 j i = s2 j i := fun j i h => by
          rw [← hs3, up2_at]
          by_cases e : j = 99
          · subst e
            rw [if_pos rfl, if_neg (fun z => h ⟨rfl, z⟩)]
          · rw [if_neg e]
        have s27 : s3 99 27 = (2 * T.length : Nat) := by rw [← hs3, up2_self, upf_s]
        have t7' : s3 117 (2 * T.length) = (x : Nat) := by rw [f3 117 _ (by omega)]; exact t7
        have t8' : s3 117 (2 * T.length + 1) = (y : Nat) := by rw [f3 117 _ (by omega)]; exact t8
        have C3 : MR s3 n q F' := by
          obtain ⟨z1, z2, z3, z4, z5⟩ := g3
          refine ⟨by rw [f3 99 14 (by omega)]; exact z1, by rw [f3 99 2 (by omega)]; exact z2, fun r hr => ?_, fun r hr => by rw [f3 112 _ (by omega)]; exact z4 r hr, by rw [f3 99 19 (by omega)]; exact z5⟩
          rw [f3 109 _ (by omega), f3 110 _ (by omega), f3 111 _ (by omega)]
          exact z3 r hr
        have J3 : s3 99 24 = (J + k : Nat) := by rw [f3 99 24 (by omega)]; exact g6
        have M3 : s3 99 25 = (cM F n : Int) - cM F' n := by rw [f3 99 25 (by omega)]; exact g8
        have S3 : Sm s3 n q J k F F' := Sm_congr hq4 (fun r hr => by rw [f3 113 _ (by omega), f3 114 _ (by omega), f3 115 _ (by omega)]; exact ⟨rfl, rfl, rfl⟩) (fun r hr => by rw [f3 116 _ (by omega)]) g7
        have K3 : SM s3 T := by
          refine ⟨s27, fun r hr => ?_⟩
          rw [f3 117 _ (by omega), f3 117 _ (by omega)]
          have := g4.2 r (by simp; omega)
          rw [List.length_cons, show T.length + 1 - 1 - r = (T.length - 1 - r) + 1 by omega] at this
          simpa using this
        have X3 : FrM st s3 := fun a b h => by rw [f3 a b (by omega)]; exact g11 a b h
        have hp := rt_le (u := F'.1) x
        have hq := rt_le (u := F'.1) y
        have rp := rt_root hF'.1 x hx
        have rq := rt_root hF'.1 y hy
        rw [awu 66 1]
        try simp only [awu 66 2, awu 66 15, pe66, xs, i_load, i_loadR, i_inc, lg, lp, true_and, and_true, List.length_cons, List.length_nil, Nat.reduceAdd, Nat.reduceLeDiff, Nat.zero_le, Int.toNat_natCast, natLit, k0, e27, w1 (), hs3, s27, k7, l7, t7']
        refine ⟨fun h => by omega, fun _ => ⟨by omega, ?_⟩⟩
        refine sp_mnof hn C3 hF' hx ?_
        dsimp only
        try simp only [awu 66 2, pe66, xs, i_load, i_loadR, i_inc, lg, lp, true_and, and_true, List.length_cons, List.length_nil, Nat.reduceAdd, Nat.reduceLeDiff, Nat.zero_le, Int.toNat_natCast, natLit, k0, s27, w2 (), k7, l7, t8']
        refine ⟨by omega, ?_⟩
        refine sp_mnof hn C3 hF' hy ?_
        dsimp only
        have ew : jn (fu + 1 + 1) F' ((x, y) :: T) = (if rt F'.1 x = rt F'.1 y then jn (fu + 1) F' T else if (F'.2.1 (rt F'.1 x) = 1 ∧ F'.2.1 (rt F'.1 y) = 2) ∨ (F'.2.1 (rt F'.1 x) = 2 ∧ F'.2.1 (rt F'.1 y) = 1) then none else jn (fu + 1) (ab F' (min (rt F'.1 x) (rt F'.1 y)) (max (rt F'.1 x) (rt F'.1 y))) (plT F' (min (rt F'.1 x) (rt F'.1 y)) (max (rt F'.1 x) (rt F'.1 y)) T 4)) := rfl
        rw [ew] at g9
        clear ew
        generalize rt F'.1 x = p at *
        generalize rt F'.1 y = r at *
        have vp := hF'.2.1 p (by omega)
        have vq := hF'.2.1 r (by omega)
        have aft : p ≠ r → ∀ u6' u7' : V, AW (P 66) Q (MS (d + 2)) 0 (fun _ => 0) 10 [vr 99, vi i, vi j, vi J, vi p, vi r, vi (min p r : Nat), u7'] [vi (max p r : Nat)] s3 := by
          intro hpr _ _
          have umin : F'.1 (min p r) = min p r := by
            rcases Nat.le_total p r with z | z
            · rw [Nat.min_eq_left z]; exact rp
            · rw [Nat.min_eq_right z]; exact rq
          have umax : F'.1 (max p r) = max p r := by
            rcases Nat.le_total p r with z | z
            · rw [Nat.max_eq_right z]; exact rq
            · rw [Nat.max_eq_left z]; exact rp
          have hlt : min p r < max p r := by omega
          have hmx : max p r < n := by omega
          have hcf : ((F'.2.1 p = 1 ∧ F'.2.1 r = 2) ∨ (F'.2.1 p = 2 ∧ F'.2.1 r = 1)) ↔ ((F'.2.1 (min p r) = 1 ∧ F'.2.1 (max p r) = 2) ∨ (F'.2.1 (min p r) = 2 ∧ F'.2.1 (max p r) = 1)) := by
            rcases Nat.le_total p r with z | z
            · rw [Nat.min_eq_left z, Nat.max_eq_right z]
            · rw [Nat.min_eq_right z, Nat.max_eq_left z]
              constructor <;> (intro h; omega)
          rw [if_neg hpr] at g9
          have hcRab := cR_ab (F := F') hlt hmx umax
          have hcMab := cM_ab (F := F') hlt hmx umin umax
          have hpl := plT_len (F := F') (a := min p r) (b := max p r) (T := T) 4
          have hpt := plT_lt hF' (show min p r < n by omega) hmx hT' 4 (Nat.le_refl _)
          generalize min p r = a at *
          generalize max p r = b at *
          have ma : s3 110 a = F'.2.1 a := (C3.2.2.1 a (by omega)).2.1
          have mb : s3 110 b = F'.2.1 b := (C3.2.2.1 b hmx).2.1
          have va := hF'.2.1 a (by omega)
          have vb := hF'.2.1 b hmx
          have w3 : Unit → wr (F'.2.1 a + F'.2.1 b) = F'.2.1 a + F'.2.1 b := fun _ => by rw [wr_id (by omega) (by omega)]
          have good : ¬ ((F'.2.1 a = 1 ∧ F'.2.1 b = 2) ∨ (F'.2.1 a = 2 ∧ F'.2.1 b = 1)) → AW (P 66) Q (MS (d + 2)) 0 (fun _ => 0) 14 [vr 99, vi i, vi j, vi J, vi p, vi r, vi a, vi b] [] s3 := by
            intro hng
            rw [if_neg (fun z => hng (hcf.mp z))] at g9
            have em : s3 99 25 = ((cM F n - cM F' n : Nat) : Int) := by rw [M3]; omega
            have hmf : mf F' a b = (if F'.2.1 a ≠ 0 ∧ F'.2.1 b ≠ 0 then 1 else 0) := rfl
            rw [← hmf] at hcMab
            rw [awu 66 14]
            try simp only [awu 66 14, pe66, xs, i_load, i_loadR, i_inc, lg, lp, true_and, and_true, List.length_cons, List.length_nil, Nat.reduceAdd, Nat.reduceLeDiff, Nat.zero_le, Int.toNat_natCast, natLit, k0]
            refine sp_mtie hn hq4 C3 hF' hL' hlt hmx umin umax J3 (by omega) em (by omega) K3 (by omega) (fun s4 y1 y2 y3 y4 y5 y6 y7 y8 y9 y10 y11 => ?_)
            dsimp only
            refine ih (k + 1) fu s4 (ab F' a b) (plT F' a b T 4) _ _ _ _ (by omega) (by omega) (by omega) y1 y2 hpt y3 ⟨F', a, b, Sm_congr hq4 y5 y6 S3, hlt, hmx, umin, umax, hF', hL', rfl, y7, y8, y9, y10⟩ (by rw [y4]; omega) (by omega) g9 (fun c e h => by rw [y11 c e h]; exact X3 c e h)
          rw [awu 66 10]
          try simp only [awu 66 11, awu 66 12, awu 66 13, pe66, xs, i_load, i_loadR, i_inc, lg, lp, true_and, and_true, List.length_cons, List.length_nil, Nat.reduceAdd, Nat.reduceLeDiff, Nat.zero_le, Int.toNat_natCast, natLit, k0, k2, l2, ma, mb, w3 ()]
          refine ⟨by omega, by omega, fun h => good (by omega), fun h => ⟨by omega, fun h2 => good (by omega), fun h2 => ⟨by omega, fun h3 => good (by omega), fun h3 => ?_⟩⟩⟩
          rw [if_pos (hcf.mpr (by omega))] at g9
          refine sp_muntie hn hq4 C3 J3 (by omega) S3 (fun s4 y1 y2 y3 => ?_)
          dsimp only
          exact ⟨ok01_0, h0 s4 g9.symm y1 y2 (fun c e h => by rw [y3 c e (by omega) (by omega)]; exact X3 c e h)⟩
        try simp only [awu 66 3, awu 66 4, awu 66 5, awu 66 6, awu 66 7, awu 66 8, awu 66 9, pe66, xs, i_load, i_loadR, i_inc, lg, lp, true_and, and_true, List.length_cons, List.length_nil, Nat.reduceAdd, Nat.reduceLeDiff, Nat.zero_le, Int.toNat_natCast, natLit, k0]
        refine ⟨fun hne => ?_, fun heq => ?_⟩
        · have hpr : p ≠ r := by omega
          have aft := aft hpr none
          refine ⟨fun h => ?_, fun h => ?_⟩
          · have e1 : min p r = r := by omega
            have e2 : max p r = p := by omega
            rw [e1, e2] at aft
            exact ⟨fun _ => aft _, fun h2 => by omega⟩
          · have e1 : min p r = p := by omega
            have e2 : max p r = r := by omega
            rw [e1, e2] at aft
            exact ⟨fun h2 => by omega, fun _ => aft _⟩
        · have hpr : p = r := by omega
          rw [if_pos hpr] at g9
          exact ih k fu s3 F' T _ _ _ _ (by omega) (by omega) (by omega) C3 K3 hT' J3 S3 M3 g8' g9 X3
  refine MS_v [vr 99, vi i, vi j, none, none, none, none, none] rfl rfl rfl rfl ?_
  try simp only [awu 66 0, pe66, xs, i_load, i_loadR, i_inc, lg, lp, true_and, and_true, List.length_cons, List.length_nil, Nat.reduceAdd, Nat.reduceLeDiff, Nat.zero_le, Int.toNat_natCast, natLit, k0, hJ]
  have f0 : ∀ a b, ¬ (a = 99 ∧ (b = 25 ∨ b = 27)) → up2 (up2 st 99 25 0) 99 27 0 a b = st a b := fun a b h => by
    simp only [up2_at]
    by_cases e : a = 99
    · subst e
      simp [show b ≠ 25 from fun z => h ⟨rfl, Or.inl z⟩, show b ≠ 27 from fun z => h ⟨rfl, Or.inr z⟩]
    · simp [e]
  refine sp_mpair (T := []) ⟨by simp only [up2_at]; simp, fun r hr => by simp at hr⟩ (by simp) (fun s2 y1 y2 => ?_)
  dsimp only
  have f2 : ∀ a b, a ≠ 117 → ¬ (a = 99 ∧ (b = 25 ∨ b = 27)) → s2 a b = st a b := fun a b h1 h2 => by rw [y2 a b h1 (by omega), f0 a b h2]
  refine key 481 0 481 s2 F [(i, j)] none none none none (by simp; omega) (by simp; omega) (by simp; omega) ?_ y1 ?_ (by rw [f2 99 24 (by omega) (by omega)]; exact hJ) rfl ?_ (Nat.le_refl _) rfl (fun a b h => f2 a b (by omega) (by omega))
  · obtain ⟨z1, z2, z3, z4, z5⟩ := hC
    refine ⟨by rw [f2 99 14 (by omega) (by omega)]; exact z1, by rw [f2 99 2 (by omega) (by omega)]; exact z2, fun r hr => ?_, fun r hr => by rw [f2 112 _ (by omega) (by omega)]; exact z4 r hr, by rw [f2 99 19 (by omega) (by omega)]; exact z5⟩
    rw [f2 109 _ (by omega) (by omega), f2 110 _ (by omega) (by omega), f2 111 _ (by omega) (by omega)]
    exact z3 r hr
  · intro p hp
    rw [List.mem_singleton.mp hp]
    exact ⟨hi, hj⟩
  · rw [y2 99 25 (by omega) (by omega)]
    simp only [up2_at]
    simp
theorem sp_scoreOf {d n q i j J : Nat} {how : Int} {st : St} {F : FS} {Q : Rn} (hn : n ≤ 120) (hq4 : q ≤ 4) (hC : MR st n q F) (hF : FI n F) (hL : LA n q F) (hi : i < n) (hj : j < n) (hJ : st 99 24 = J) (hJR : J + cR F n = n) (hh : 0 ≤ how ∧ how ≤ 2)
    (hq : ∀ st' : St, MR st' n q F → st' 99 24 = J → FrM st st' → Q (vi (scr how F n i j)) st') : MS (d + 4) 67 [vr 99, vi how, vi i, vi j] st Q := by
  have k0 : kl 99 = 12 := rfl
  have h19 := hC.2.2.2.2
  refine MS_v [vr 99, vi how, vi i, vi j, none, none, none] rfl rfl rfl rfl ?_
  try simp only [awu 67 0, pe67, xs, i_load, i_loadR, i_inc, lg, lp, true_and, and_true, List.length_cons, List.length_nil, Nat.reduceAdd, Nat.reduceLeDiff, Nat.zero_le, Int.toNat_natCast, natLit, k0, hJ, h19]
  refine sp_merges hn hq4 hC hF hL hi hj hJ hJR (fun F' s2 k g1 g2 g3 g4 g5 g6 => ?_) (fun s2 g1 g2 g3 g6 => ?_)
  · dsimp only
    have hcl := Sm_len g4
    have c1 : cR F n ≤ n := cn_le n
    have e19 := g2.2.2.2.2
    have es : scr how F n i j = wth how F F' n := by unfold scr; rw [g1]
    have w2 : Unit → wr ((cR F n : Int) - (cR F' n : Nat)) = (cR F n : Int) - (cR F' n : Nat) := fun _ => by rw [wr_id (by omega) (by omega)]
    have fin : ∀ v : Int, v = wth how F F' n → AW (P 67) Q (MS (d + 3)) 0 (fun _ => 0) 7 [vr 99, vi how, vi i, vi j, vi J, vi (cR F n : Nat), none] [vi v] s2 := by
      intro v hv
      rw [awu 67 7]
      try simp only [awu 67 7, pe67, xs, i_load, i_loadR, i_inc, lg, lp, true_and, and_true, List.length_cons, List.length_nil, Nat.reduceAdd, Nat.reduceLeDiff, Nat.zero_le, Int.toNat_natCast, natLit, k0]
      refine sp_muntie hn hq4 g2 g3 (by omega) g4 (fun s4 y1 y2 y3 => ?_)
      dsimp only
      rw [hv, ← es]
      exact hq s4 y1 y2 (fun c e h => by rw [y3 c e (by omega) (by omega)]; exact g6 c e h)
    try simp only [awu 67 1, awu 67 2, awu 67 3, awu 67 4, awu 67 5, awu 67 6, pe67, xs, i_load, i_loadR, i_inc, lg, lp, true_and, and_true, List.length_cons, List.length_nil, Nat.reduceAdd, Nat.reduceLeDiff, Nat.zero_le, Int.toNat_natCast, natLit, k0, e19, g5, w2 ()]
    unfold wth at fin
    refine ⟨fun _ => ⟨fun h => ⟨fun h2 => ?_, fun h2 => ?_⟩, fun h => ?_⟩, fun h => absurd (by decide) h⟩
    · exact fin _ (by rw [if_neg h2, if_pos (by omega)])
    · exact fin _ (by rw [if_pos (by omega)])
    · exact fin 0 (by rw [if_neg (by omega), if_neg (by omega)])
  · dsimp only
    have es : scr how F n i j = -1 := by unfold scr; rw [g1]
    try simp only [awu 67 1, awu 67 2, pe67, xs, i_load, i_loadR, i_inc, lg, lp, true_and, and_true, List.length_cons, List.length_nil, Nat.reduceAdd, Nat.reduceLeDiff, Nat.zero_le, Int.toNat_natCast, natLit, k0]
    refine ⟨fun h => absurd trivial h, fun _ => ?_⟩
    rw [← es]
    exact hq s2 g2 g3 g6
