/-! what is useful, the longest word: the reference -/
def UI (s1 s2 : St) (M : MC) (a : Nat) (U : Nat → Bool) : Prop := (∀ q, q ≠ 142 → s2 q = s1 q) ∧ (∀ s, s ≤ M.1 → s2 142 s = if U s then 1 else 0) ∧ (∀ s, s ≤ M.1 → inM M (gx M s) = true → U s = true) ∧ ∀ s, s ≤ M.1 → U s = true → Ck M a (gx M s)
theorem inM_s {M : MC} {s : Nat} (h : s < M.1) : inM M (s : Int) = (M.2.1 s == 1) := by
  unfold inM
  rw [decide_eq_true (by omega), Int.toNat_natCast, Bool.true_and]
set_option maxHeartbeats 1000000 in
theorem sp_layUseful {d m a : Nat} {st : St} {M : MC} {Q : Rn} (hM : MCm st m M) (hm : m ≤ 4) (hW : MW a M) (ha : a ≤ 4) (h0 : 0 < M.1) (hl : st 99 2 = a)
    (hq : ∀ st' : St, (∀ s, s ≤ M.1 → st' 142 s = if usB M a (gx M s) then 1 else 0) → (∀ q, q ≠ 136 → q ≠ 142 → st' q = st q) → Q (vi (cn (fun s => usB M a (s : Int)) M.1 : Nat)) st') : MS (d + 4) 143 [vr 99, vi m] st Q := by
  have k0 : kl 99 = 12 := rfl
  have k19 : kl 119 = 50 := rfl
  have l19 : len 119 = 5 := rfl
  have k36 : kl 136 = 52 := rfl
  have l36 : len 136 = 201 := rfl
  have k42 : kl 142 = 52 := rfl
  have l42 : len 142 = 201 := rfl
  have hN := hM.2.1
  refine MS_v [vr 99, vi m, none, none, none, none, none] rfl rfl rfl rfl ?_
  try simp only [awu 143 0, pe143, xs, i_load, i_loadR, i_inc, lg, lp, true_and, and_true, List.length_cons, List.length_nil, Nat.reduceAdd, Nat.reduceLeDiff, Nat.zero_le, Int.toNat_natCast, natLit, k0]
  refine sp_layCome hM hm hW ha h0 hl (fun s1 c1 f1 => ?_)
  dsimp only
  have fr : ∀ s2 : St, (∀ q, q ≠ 142 → s2 q = s1 q) → MCm s2 m M ∧ s2 99 2 = a ∧ ∀ s, s ≤ M.1 → s2 136 s = if rcB M a (gx M s) then 1 else 0 := fun s2 h => ⟨MCm_congr hM (by rw [h 119 (by decide), f1 119 (by decide)]) (fun i _ _ => by rw [h 120 (by decide), f1 120 (by decide)]) (fun i _ _ => by rw [h 121 (by decide), f1 121 (by decide)]), by rw [h 99 (by decide), f1 99 (by decide)]; exact hl, fun s hs => by rw [h 136 (by decide)]; exact c1 s hs⟩
  have e19 : s1 119 m = (M.1 : Nat) := by rw [f1 119 (by decide)]; exact hM.1
  -- the end
  have cnt : ∀ mm s : Nat, ∀ (s2 : St) (u6 : V), s + mm = M.1 → (∀ q, q ≠ 142 → s2 q = s1 q) → (∀ x, x < s → s2 142 x = if usB M a (gx M x) then 1 else 0) → (∀ x, s ≤ x → x ≤ M.1 → ok01 (s2 142 x) ∧ (s2 142 x = 1 ↔ Ck M a (gx M x))) → AW (P 143) Q (MS (d + 3)) 0 (fun _ => 0) 22 [vr 99, vi m, vi (M.1 : Nat), vi 0, vi (cn (fun s => usB M a (s : Int)) s : Nat), vi s, u6] [] s2 := by
    intro mm
    induction mm with
    | zero =>
      intro s s2 u6 g1 g2 g3 g4
      have : s = M.1 := by omega
      subst this
      rw [awu 143 22]
      try simp only [awu 143 31, pe143, xs, i_load, i_loadR, i_inc, lg, lp, true_and, and_true, List.length_cons, List.length_nil, Nat.reduceAdd, Nat.reduceLeDiff, Nat.zero_le, Int.toNat_natCast, natLit, k0]
      refine ⟨fun _ => hq s2 (fun s hs => ?_) (fun q q1 q2 => by rw [g2 q q2, f1 q q1]), fun h => absurd (Int.le_refl _) h⟩
      rcases Nat.lt_or_ge s M.1 with z | z
      · exact g3 s z
      · have : s = M.1 := by omega
        subst this
        rw [gx_N, usB_n]
        obtain ⟨y1, y2⟩ := g4 M.1 (Nat.le_refl _) (Nat.le_refl _)
        rw [gx_N] at y2
        rcases y1 with y | y
        · exact y
        · exact absurd (y2.mp y) Ck_n
    | succ mm ih =>
      intro s s2 u6 g1 g2 g3 g4
      have ws : Unit → wr ((s : Int) + 1) = ((s + 1 : Nat) : Int) := fun _ => by rw [wr_id (by omega) (by omega)]; omega
      obtain ⟨y1, y2⟩ := g4 s (Nat.le_refl _) (by omega)
      rw [gx_s (show s < M.1 by omega)] at y2
      have e36 := (fr s2 g2).2.2 s (by omega)
      rw [gx_s (show s < M.1 by omega)] at e36
      have hle := cn_le (p := fun s => usB M a (s : Int)) s
      have w0 : Unit → wr (((cn (fun s => usB M a (s : Int)) s : Nat) : Int) + 0) = ((cn (fun s => usB M a (s : Int)) s : Nat) : Int) := fun _ => by rw [wr_id (by omega) (by omega)]; omega
      have w1 : Unit → wr (((cn (fun s => usB M a (s : Int)) s : Nat) : Int) + 1) = ((cn (fun s => usB M a (s : Int)) s + 1 : Nat) : Int) := fun _ => by rw [wr_id (by omega) (by omega)]; omega
      have nx : ∀ v : Int, v = (if usB M a (s : Int) then 1 else 0) → AW (P 143) Q (MS (d + 3)) 0 (fun _ => 0) 27 [vr 99, vi m, vi (M.1 : Nat), vi 0, vi (cn (fun s => usB M a (s : Int)) s : Nat), vi s, u6] [vi v, vi s, vr 142] s2 := by
        intro v hv
        have hv1 : ok01 v := by
          rw [hv]
          split
          · exact ok01_1
          · exact ok01_0
        have ih := ih (s + 1) (up2 s2 142 s v) u6 (by omega) (fun q q1 => by rw [up2_ne q1]; exact g2 q q1) (fun x hx => by
          rw [up2_self]
          by_cases z : x = s
          · rw [z, upf_s, gx_s (show s < M.1 by omega)]
            exact hv
          · rw [upf_n z]
            exact g3 x (by omega)) (fun x hx hx2 => by
          rw [up2_self, upf_n (by omega)]
          exact g4 x (by omega) hx2)
        rw [cn_s] at ih
        have e : up2 s2 142 s v 142 s = v := by rw [up2_self, upf_s]
        rw [awu 143 27]
        by_cases hu : usB M a (s : Int) = true
        · rw [if_pos hu] at hv ih
          subst hv
          try simp only [awu 143 27, awu 143 28, awu 143 30, pe143, xs, i_load, i_loadR, i_inc, lg, lp, true_and, and_true, List.length_cons, List.length_nil, Nat.reduceAdd, Nat.reduceLeDiff, Nat.zero_le, Int.toNat_natCast, natLit, k0, k42, l42, e, ws (), w1 ()]
          exact ⟨by omega, hv1, by omega, fun h => absurd h (by decide), fun _ => ih⟩
        · rw [if_neg hu] at hv ih
          subst hv
          try simp only [awu 143 27, awu 143 29, awu 143 30, pe143, xs, i_load, i_loadR, i_inc, lg, lp, true_and, and_true, List.length_cons, List.length_nil, Nat.reduceAdd, Nat.reduceLeDiff, Nat.zero_le, Int.toNat_natCast, natLit, k0, k42, l42, e, ws (), w0 ()]
          exact ⟨by omega, hv1, by omega, fun _ => ih, fun h => absurd (by trivial) h⟩
      by_cases hc : Rc M a (s : Int)
      · rw [if_pos (rcB_d.mpr hc)] at e36
        rw [awu 143 22]
        try simp only [awu 143 23, awu 143 24, awu 143 25, awu 143 26, pe143, xs, i_load, i_loadR, i_inc, lg, lp, true_and, and_true, List.length_cons, List.length_nil, Nat.reduceAdd, Nat.reduceLeDiff, Nat.zero_le, Int.toNat_natCast, natLit, k0, k42, l42, k36, l36, e36]
        refine ⟨fun h => by omega, fun _ => ⟨by omega, fun h => nx 0 ?_, fun h => ⟨by omega, fun h => absurd h (by decide), fun _ => nx 1 ?_⟩⟩⟩
        · rw [if_neg]
          intro hh
          have := y2.mpr (usB_d.mp hh).2
          omega
        · rw [if_pos]
          rw [usB_d]
          refine ⟨hc, y2.mp ?_⟩
          rcases y1 with y | y
          · exact absurd y h
          · exact y
      · rw [if_neg (fun h => hc (rcB_d.mp h))] at e36
        have hz : (0 : Int) = if usB M a (s : Int) then 1 else 0 := by
          rw [if_neg]
          intro hh
          exact hc (usB_d.mp hh).1
        rw [awu 143 22]
        try simp only [awu 143 23, awu 143 24, awu 143 26, pe143, xs, i_load, i_loadR, i_inc, lg, lp, true_and, and_true, List.length_cons, List.length_nil, Nat.reduceAdd, Nat.reduceLeDiff, Nat.zero_le, Int.toNat_natCast, natLit, k0, k42, l42, k36, l36, e36]
        exact ⟨fun h => by omega, fun _ => ⟨by omega, fun h => nx 0 hz, fun h => ⟨by omega, fun _ => nx 0 hz, fun h => absurd (by trivial) h⟩⟩⟩
  have fin : ∀ (s2 : St) (U : Nat → Bool) (u4 u5 u6 : V), UI s1 s2 M a U → (∀ s l, s < M.1 → l < a → U (sq M s l) = true → U s = true) → AW (P 143) Q (MS (d + 3)) 0 (fun _ => 0) 8 [vr 99, vi m, vi (M.1 : Nat), vi 0, u4, u5, u6] [] s2 := by
    intro s2 U u4 u5 u6 hU hcl
    have := cnt M.1 0 s2 u6 (by omega) hU.1 (fun x hx => by omega) (fun x _ hx => by
      rw [hU.2.1 x hx]
      refine ⟨by split; exact ok01_1; exact ok01_0, ?_⟩
      have key : Ck M a (gx M x) → U x = true := fun h => Ck_of (M := M) (a := a) (R := fun y => ∀ s, s ≤ M.1 → y = gx M s → U s = true) (fun y hy s hs e => hU.2.2.1 s hs (by rw [← e]; exact hy)) (fun y l hl hR s hs e => by
        have := hR (sq M s l) (sq_b hW hl ha) (by rw [sq_x hW hl ha, e])
        rcases Nat.lt_or_ge s M.1 with z | z
        · exact hcl s l z hl this
        · have : s = M.1 := by omega
          subst this
          rw [sq_N] at this
          exact this) h x hx rfl
      constructor
      · intro h
        by_cases z : U x = true
        · exact hU.2.2.2 x hx z
        · rw [if_neg z] at h
          exact absurd h (by decide)
      · intro h
        rw [if_pos (key h)])
    rw [awu 143 8]
    try simp only [awu 143 21, pe143, xs, i_load, i_loadR, i_inc, lg, lp, true_and, and_true, List.length_cons, List.length_nil, Nat.reduceAdd, Nat.reduceLeDiff, Nat.zero_le, Int.toNat_natCast, natLit, k0]
    exact ⟨fun _ => this, fun h => absurd (by trivial) h⟩
  have round : ∀ (s2 : St) (U : Nat → Bool) (u4 u5 u6 : V), UI s1 s2 M a U → (∀ (s3 : St) (U' : Nat → Bool) (u4 u5 u6 : V), UI s1 s3 M a U' → cn U (M.1 + 1) < cn U' (M.1 + 1) → AW (P 143) Q (MS (d + 3)) 0 (fun _ => 0) 8 [vr 99, vi m, vi (M.1 : Nat), vi 1, u4, u5, u6] [] s3) → AW (P 143) Q (MS (d + 3)) 0 (fun _ => 0) 8 [vr 99, vi m, vi (M.1 : Nat), vi 1, u4, u5, u6] [] s2 := by
    intro s2 U u4 u5 u6 hU nxt
    have keys : ∀ mm s : Nat, ∀ (s3 : St) (U' : Nat → Bool) (mo : Int) (u5 u6 : V), s + mm = M.1 → UI s1 s3 M a U' → ((mo = 0 ∧ U' = U ∧ ∀ s' l, s' < s → l < a → U (sq M s' l) = true → U s' = true) ∨ (mo = 1 ∧ cn U (M.1 + 1) < cn U' (M.1 + 1))) → AW (P 143) Q (MS (d + 3)) 0 (fun _ => 0) 10 [vr 99, vi m, vi (M.1 : Nat), vi mo, vi s, u5, u6] [] s3 := by
      intro mm
      induction mm with
      | zero =>
        intro s s3 U' mo u5 u6 g1 g2 g3
        have : s = M.1 := by omega
        subst this
        rw [awu 143 10]
        try simp only [awu 143 20, pe143, xs, i_load, i_loadR, i_inc, lg, lp, true_and, and_true, List.length_cons, List.length_nil, Nat.reduceAdd, Nat.reduceLeDiff, Nat.zero_le, Int.toNat_natCast, natLit, k0]
        refine ⟨fun _ => ?_, fun h => absurd (Int.le_refl _) h⟩
        rcases g3 with ⟨rfl, rfl, g3⟩ | ⟨rfl, g3⟩
        · exact fin s3 U' _ _ _ g2 (fun s l hs hl hc => g3 s l hs hl hc)
        · exact nxt s3 U' _ _ _ g2 g3
      | succ mm ih =>
        intro s s3 U' mo u5 u6 g1 g2 g3
        have ws : Unit → wr ((s : Int) + 1) = ((s + 1 : Nat) : Int) := fun _ => by rw [wr_id (by omega) (by omega)]; omega
        obtain ⟨f2, f3, -⟩ := fr s3 g2.1
        have es := g2.2.1 s (by omega)
        -- after the letters
        have last : ∀ (is : Bool) (u6 : V), (is = true ↔ U' s = true ∨ ∃ l, l < a ∧ U' (sq M s l) = true) → AW (P 143) Q (MS (d + 3)) 0 (fun _ => 0) 15 [vr 99, vi m, vi (M.1 : Nat), vi mo, vi s, vi (if is then 1 else 0), u6] [] s3 := by
          intro is u6 his
          have is01 : ok01 (if is = true then 1 else 0) := by split; exact ok01_1; exact ok01_0
          have put : ∀ mo' : Int, ((mo' = 0 ∧ U' = U ∧ is = U' s ∧ ∀ s' l, s' < s → l < a → U (sq M s' l) = true → U s' = true) ∨ (mo' = 1 ∧ (cn U (M.1 + 1) < cn U' (M.1 + 1) ∨ (U' s = false ∧ is = true ∧ cn U (M.1 + 1) ≤ cn U' (M.1 + 1))))) → AW (P 143) Q (MS (d + 3)) 0 (fun _ => 0) 19 [vr 99, vi m, vi (M.1 : Nat), vi mo, vi s, vi (if is then 1 else 0), u6] [vi mo'] s3 := by
            intro mo' hmo
            rw [awu 143 19]
            try simp only [awu 143 19, pe143, xs, i_load, i_loadR, i_inc, lg, lp, true_and, and_true, List.length_cons, List.length_nil, Nat.reduceAdd, Nat.reduceLeDiff, Nat.zero_le, Int.toNat_natCast, natLit, k0, k42, l42, ws ()]
            refine ⟨by omega, is01, ?_⟩
            have UI' : UI s1 (up2 s3 142 s (if is = true then 1 else 0)) M a (updB U' s is) := by
              refine ⟨fun q q1 => ?_, fun x hx => ?_, fun x hx hi => ?_, fun x hx hi => ?_⟩
              · rw [up2_ne q1]
                exact g2.1 q q1
              · rw [up2_self]
                by_cases z : x = s
                · rw [z, upf_s, updB_s]
                · rw [upf_n z, updB_n z]
                  exact g2.2.1 x hx
              · have := g2.2.2.1 x hx hi
                by_cases z : x = s
                · rw [z, updB_s]
                  rw [z] at this
                  exact his.mpr (Or.inl this)
                · rw [updB_n z]
                  exact this
              · by_cases z : x = s
                · subst z
                  rw [updB_s] at hi
                  rcases his.mp hi with h | ⟨l, l1, l2⟩
                  · exact g2.2.2.2 x hx h
                  · have := g2.2.2.2 _ (sq_b hW l1 ha) l2
                    rw [sq_x hW l1 ha] at this
                    exact Ck_s l1 this
                · rw [updB_n z] at hi
                  exact g2.2.2.2 x hx hi
            rcases hmo with ⟨rfl, hUU, e, h⟩ | ⟨rfl, h⟩
            · have eU : updB U' s is = U' := by
                funext x
                by_cases z : x = s
                · rw [z, updB_s]
                  exact e
                · rw [updB_n z]
              rw [eU] at UI'
              refine ih (s + 1) _ U' 0 _ _ (by omega) UI' (Or.inl ⟨rfl, hUU, fun s' l h1 h2 h3 => ?_⟩)
              by_cases z : s' = s
              · subst z
                rw [← hUU] at h3 ⊢
                rw [← e]
                exact his.mpr (Or.inr ⟨l, h2, h3⟩)
              · exact h s' l (by omega) h2 h3
            · refine ih (s + 1) _ _ 1 _ _ (by omega) UI' (Or.inr ⟨rfl, ?_⟩)
              rcases h with h | ⟨h1, h2, h3⟩
              · refine Nat.lt_of_lt_of_le h (cn_imp (fun x _ hx => ?_))
                by_cases z : x = s
                · rw [z, updB_s]
                  rw [z] at hx
                  exact his.mpr (Or.inl hx)
                · rw [updB_n z]
                  exact hx
              · have := cn_off (p := updB U' s is) (q := U') (b := s) (n := M.1 + 1) (by omega) (fun i _ hi => updB_n hi) (by rw [updB_s]; exact h2) h1
                omega
          rw [awu 143 15]
          rcases g3 with ⟨rfl, g3, g4⟩ | ⟨rfl, g3⟩
          · try simp only [awu 143 16, awu 143 17, awu 143 18, pe143, xs, i_load, i_loadR, i_inc, lg, lp, true_and, and_true, List.length_cons, List.length_nil, Nat.reduceAdd, Nat.reduceLeDiff, Nat.zero_le, Int.toNat_natCast, natLit, k0, k42, l42, es]
            refine ⟨fun h => absurd (by trivial) h, fun _ => ⟨by omega, fun h => ?_, fun h => ?_⟩⟩
            · refine put 0 (Or.inl ⟨rfl, g3, ?_, g4⟩)
              cases is <;> cases hU' : U' s <;> rw [hU'] at h <;> simp at h ⊢
            · refine put 1 (Or.inr ⟨rfl, Or.inr ?_⟩)
              have hUs : U' s = false := by
                cases hU' : U' s with
                | false => rfl
                | true =>
                  rw [his.mpr (Or.inl hU'), hU'] at h
                  exact absurd rfl h
              refine ⟨hUs, ?_, by rw [g3]; exact Nat.le_refl _⟩
              cases is with
              | true => rfl
              | false =>
                rw [hUs] at h
                exact absurd rfl h
          · try simp only [awu 143 17, pe143, xs, i_load, i_loadR, i_inc, lg, lp, true_and, and_true, List.length_cons, List.length_nil, Nat.reduceAdd, Nat.reduceLeDiff, Nat.zero_le, Int.toNat_natCast, natLit, k0]
            exact ⟨fun _ => put 1 (Or.inr ⟨rfl, Or.inl g3⟩), fun h => absurd (by decide) h⟩
        have keyl : ∀ mm l : Nat, l + mm = a → U' s = false → (∀ l', l' < l → U' (sq M s l') = false) → AW (P 143) Q (MS (d + 3)) 0 (fun _ => 0) 12 [vr 99, vi m, vi (M.1 : Nat), vi mo, vi s, vi 0, vi l] [] s3 := by
          intro mm
          induction mm with
          | zero =>
            intro l x1 x2 x3
            have : l = a := by omega
            subst this
            have := last false (vi l) ⟨fun h => (by cases h), fun h => by
              rcases h with h | ⟨l', h1, h2⟩
              · rw [x2] at h
                exact h
              · rw [x3 l' h1] at h2
                exact h2⟩
            rw [if_neg (by decide)] at this
            rw [awu 143 12]
            try simp only [awu 143 12, pe143, xs, i_load, i_loadR, i_inc, lg, lp, true_and, and_true, List.length_cons, List.length_nil, Nat.reduceAdd, Nat.reduceLeDiff, Nat.zero_le, Int.toNat_natCast, natLit, k0, f3]
            exact ⟨fun _ => this, fun h => absurd (Int.le_refl _) h⟩
          | succ mm ihl =>
            intro l x1 x2 x3
            have wl' : Unit → wr ((l : Int) + 1) = ((l + 1 : Nat) : Int) := fun _ => by rw [wr_id (by omega) (by omega)]; omega
            have htb := sq_b (s := s) hW (show l < a by omega) ha
            have et := g2.2.1 (sq M s l) htb
            rw [awu 143 12]
            try simp only [awu 143 13, awu 143 14, pe143, xs, i_load, i_loadR, i_inc, lg, lp, true_and, and_true, List.length_cons, List.length_nil, Nat.reduceAdd, Nat.reduceLeDiff, Nat.zero_le, Int.toNat_natCast, natLit, k0, f3]
            refine ⟨fun h => by omega, fun _ => ⟨fun h => absurd (by trivial) h, fun _ => ?_⟩⟩
            refine sp_stepOf f2 hm hW ha (show s ≤ M.1 by omega) (show l < a by omega) ?_
            dsimp only
            by_cases hUt : U' (sq M s l) = true
            · rw [if_pos hUt] at et
              have := last true (vi (l + 1 : Nat)) ⟨fun _ => Or.inr ⟨l, by omega, hUt⟩, fun _ => rfl⟩
              rw [if_pos rfl] at this
              try simp only [awu 143 14, pe143, xs, i_load, i_loadR, i_inc, lg, lp, true_and, and_true, List.length_cons, List.length_nil, Nat.reduceAdd, Nat.reduceLeDiff, Nat.zero_le, Int.toNat_natCast, natLit, k0, k42, l42, et, wl' ()]
              refine ⟨by omega, ?_⟩
              rw [awu 143 12]
              try simp only [awu 143 13, pe143, xs, i_load, i_loadR, i_inc, lg, lp, true_and, and_true, List.length_cons, List.length_nil, Nat.reduceAdd, Nat.reduceLeDiff, Nat.zero_le, Int.toNat_natCast, natLit, k0, f3]
              exact ⟨fun _ => this, fun _ => ⟨fun _ => this, fun h => absurd (by decide) h⟩⟩
            · rw [if_neg hUt] at et
              try simp only [awu 143 14, pe143, xs, i_load, i_loadR, i_inc, lg, lp, true_and, and_true, List.length_cons, List.length_nil, Nat.reduceAdd, Nat.reduceLeDiff, Nat.zero_le, Int.toNat_natCast, natLit, k0, k42, l42, et, wl' ()]
              refine ⟨by omega, ihl (l + 1) (by omega) x2 (fun l' hl' => ?_)⟩
              by_cases z : l' = l
              · rw [z]
                simpa using hUt
              · exact x3 l' (by omega)
        rw [awu 143 10]
        by_cases hUs : U' s = true
        · rw [if_pos hUs] at es
          have := last true (vi 0) ⟨fun _ => Or.inl hUs, fun _ => rfl⟩
          rw [if_pos rfl] at this
          try simp only [awu 143 11, awu 143 12, awu 143 13, pe143, xs, i_load, i_loadR, i_inc, lg, lp, true_and, and_true, List.length_cons, List.length_nil, Nat.reduceAdd, Nat.reduceLeDiff, Nat.zero_le, Int.toNat_natCast, natLit, k0, k42, l42, es, f3]
          exact ⟨fun h => by omega, fun _ => ⟨by omega, fun _ => this, fun _ => ⟨fun _ => this, fun h => absurd (by decide) h⟩⟩⟩
        · rw [if_neg hUs] at es
          try simp only [awu 143 11, pe143, xs, i_load, i_loadR, i_inc, lg, lp, true_and, and_true, List.length_cons, List.length_nil, Nat.reduceAdd, Nat.reduceLeDiff, Nat.zero_le, Int.toNat_natCast, natLit, k0, k42, l42, es]
          exact ⟨fun h => by omega, fun _ => ⟨by omega, keyl a 0 (by omega) (by simpa using hUs) (fun l' h => by omega)⟩⟩
    rw [awu 143 8]
    try simp only [awu 143 9, pe143, xs, i_load, i_loadR, i_inc, lg, lp, true_and, and_true, List.length_cons, List.length_nil, Nat.reduceAdd, Nat.reduceLeDiff, Nat.zero_le, Int.toNat_natCast, natLit, k0]
    exact ⟨fun h => absurd h (by decide), fun _ => keys M.1 0 s2 U 0 _ _ (by omega) hU (Or.inl ⟨rfl, rfl, fun s' l h => by omega⟩)⟩
  have rounds : ∀ f : Nat, ∀ (s2 : St) (U : Nat → Bool) (u4 u5 u6 : V), UI s1 s2 M a U → M.1 + 1 ≤ cn U (M.1 + 1) + f → AW (P 143) Q (MS (d + 3)) 0 (fun _ => 0) 8 [vr 99, vi m, vi (M.1 : Nat), vi 1, u4, u5, u6] [] s2 := by
    intro f
    induction f with
    | zero =>
      intro s2 U u4 u5 u6 h1 h2
      refine round s2 U u4 u5 u6 h1 (fun s3 C' _ _ _ _ h => ?_)
      have := cn_le (p := C') (M.1 + 1)
      omega
    | succ f ih =>
      intro s2 U u4 u5 u6 h1 h2
      exact round s2 U u4 u5 u6 h1 (fun s3 C' u4 u5 u6 h3 h4 => ih s3 C' u4 u5 u6 h3 (by omega))
  have fill : ∀ mm i : Nat, ∀ (s2 : St), i + mm = M.1 + 1 → (∀ q, q ≠ 142 → s2 q = s1 q) → (∀ s, s < i → s2 142 s = if inM M (gx M s) then 1 else 0) → AW (P 143) Q (MS (d + 3)) 0 (fun _ => 0) 1 [vr 99, vi m, vi (M.1 : Nat), vi i, none, none, none] [] s2 := by
    intro mm
    induction mm with
    | zero =>
      intro i s2 g1 g2 g3
      rw [awu 143 1]
      try simp only [awu 143 7, pe143, xs, i_load, i_loadR, i_inc, lg, lp, true_and, and_true, List.length_cons, List.length_nil, Nat.reduceAdd, Nat.reduceLeDiff, Nat.zero_le, Int.toNat_natCast, natLit, k0]
      refine ⟨fun _ => rounds (M.1 + 1) s2 (fun s => inM M (gx M s)) none none none ⟨g2, fun s hs => g3 s (by omega), fun s hs h => h, fun s hs h => Ck_in h⟩ (by omega), fun h => absurd (by omega) h⟩
    | succ mm ih =>
      intro i s2 g1 g2 g3
      have wk : Unit → wr ((i : Int) + 1) = ((i + 1 : Nat) : Int) := fun _ => by rw [wr_id (by omega) (by omega)]; omega
      have nx : ∀ v : Int, v = (if inM M (gx M i) then 1 else 0) → AW (P 143) Q (MS (d + 3)) 0 (fun _ => 0) 6 [vr 99, vi m, vi (M.1 : Nat), vi i, none, none, none] [vi v, vi i, vr 142] s2 := by
        intro v hv
        rw [awu 143 6]
        try simp only [awu 143 6, pe143, xs, i_load, i_loadR, i_inc, lg, lp, true_and, and_true, List.length_cons, List.length_nil, Nat.reduceAdd, Nat.reduceLeDiff, Nat.zero_le, Int.toNat_natCast, natLit, k0, k42, l42, wk ()]
        refine ⟨by omega, by rw [hv]; split; exact ok01_1; exact ok01_0, ih (i + 1) _ (by omega) (fun q q1 => ?_) (fun s hs => ?_)⟩
        · rw [up2_ne q1]
          exact g2 q q1
        · rw [up2_self]
          by_cases zs : s = i
          · rw [zs, upf_s]
            exact hv
          · rw [upf_n zs]
            exact g3 s (by omega)
      rw [awu 143 1]
      rcases Nat.lt_or_ge i M.1 with z | z
      · try simp only [awu 143 2, awu 143 3, pe143, xs, i_load, i_loadR, i_inc, lg, lp, true_and, and_true, List.length_cons, List.length_nil, Nat.reduceAdd, Nat.reduceLeDiff, Nat.zero_le, Int.toNat_natCast, natLit, k0]
        refine ⟨fun h => by omega, fun _ => ⟨fun h => by omega, fun _ => ?_⟩⟩
        refine sp_markOf (fr s2 g2).1 hm z ?_
        dsimp only
        rw [gx_s z, inM_s z] at nx
        try simp only [awu 143 3, awu 143 4, awu 143 5, pe143, xs, i_load, i_loadR, i_inc, lg, lp, true_and, and_true, List.length_cons, List.length_nil, Nat.reduceAdd, Nat.reduceLeDiff, Nat.zero_le, Int.toNat_natCast, natLit, k0]
        refine ⟨fun h => nx 0 (by rw [if_neg (by simpa using h)]), fun h => nx 1 (by rw [if_pos (by simpa using h)])⟩
      · have : i = M.1 := by omega
        subst this
        rw [gx_N, inM_n] at nx
        try simp only [awu 143 2, awu 143 5, pe143, xs, i_load, i_loadR, i_inc, lg, lp, true_and, and_true, List.length_cons, List.length_nil, Nat.reduceAdd, Nat.reduceLeDiff, Nat.zero_le, Int.toNat_natCast, natLit, k0]
        exact ⟨fun h => by omega, fun _ => ⟨fun _ => nx 0 rfl, fun h => absurd (Int.le_refl _) h⟩⟩
  try simp only [awu 143 0, pe143, xs, i_load, i_loadR, i_inc, lg, lp, true_and, and_true, List.length_cons, List.length_nil, Nat.reduceAdd, Nat.reduceLeDiff, Nat.zero_le, Int.toNat_natCast, natLit, k0, k19, l19, e19]
  exact ⟨by omega, fill (M.1 + 1) 0 s1 (by omega) (fun _ _ => rfl) (fun s hs => by omega)⟩
