/-! how many words: the reference -/
theorem sN_ge {f : Nat → Nat} : ∀ {n t : Nat}, t < n → f t ≤ sN f n
  | 0, t, h => by omega
  | n + 1, t, h => by
    rw [sN_s]
    rcases Nat.lt_or_ge t n with z | z
    · have := sN_ge (f := f) z
      omega
    · have : t = n := by omega
      subst this
      omega
theorem sN_mono {f : Nat → Nat} {s : Nat} : ∀ n, s ≤ n → sN f s ≤ sN f n
  | 0, h => by
    have : s = 0 := by omega
    subst this
    exact Nat.le_refl _
  | n + 1, h => by
    rcases Nat.lt_or_ge s (n + 1) with z | z
    · have := sN_mono (f := f) n (show s ≤ n by omega)
      rw [sN_s]
      omega
    · have : s = n + 1 := by omega
      subst this
      exact Nat.le_refl _
theorem sN_up {V g : Nat → Nat} {t0 x : Nat} : ∀ {n : Nat}, t0 < n → sN (fun t => updN V t0 (V t0 + x) t * g t) n = sN (fun t => V t * g t) n + x * g t0
  | 0, h => by omega
  | n + 1, h => by
    rw [sN_s, sN_s]
    rcases Nat.lt_or_ge t0 n with z | z
    · rw [sN_up z]
      have : updN V t0 (V t0 + x) n = V n := by unfold updN; rw [if_neg (by omega)]
      rw [this]
      omega
    · have : t0 = n := by omega
      subst this
      have e : sN (fun t => updN V t0 (V t0 + x) t * g t) t0 = sN (fun t => V t * g t) t0 := sN_congr (fun l hl => by
        have : updN V t0 (V t0 + x) l = V l := by unfold updN; rw [if_neg (by omega)]
        rw [this])
      rw [e]
      have : updN V t0 (V t0 + x) t0 = V t0 + x := by unfold updN; rw [if_pos rfl]
      rw [this, Nat.add_mul]
      omega
theorem sN_up1 {V : Nat → Nat} {t0 x n : Nat} (h : t0 < n) : sN (updN V t0 (V t0 + x)) n = sN V n + x := by
  have := sN_up (V := V) (g := fun _ => 1) (x := x) h
  simp only [Nat.mul_one] at this
  exact this
theorem updN_at {f : Nat → Nat} {i v j : Nat} : updN f i v j = if j = i then v else f j := rfl
set_option maxHeartbeats 2000000 in
theorem sp_mwords {d a m n : Nat} {st : St} {M : MC} {Q : Rn} {u3 u4 u5 : V} (hM : MCm st m M) (hm : m ≤ 3) (hW : MW a M) (h0 : 0 < M.1) (ha : a ≤ 4) (hl : st 99 2 = a) (hn : n ≤ 10)
    (hq : ∀ st' : St, (∀ q, q ≠ 123 → q ≠ 124 → st' q = st q) → Q (vi (cw M a n 0 : Nat)) st') : AW (P 109) Q (MS (d + 1)) 0 (fun _ => 0) 3 [vr 99, vi m, vi n, u3, u4, u5] [] st := by
  have k0 : kl 99 = 12 := rfl
  have k19 : kl 119 = 50 := rfl
  have l19 : len 119 = 5 := rfl
  have k23 : kl 123 = 50 := rfl
  have l23 : len 123 = 200 := rfl
  have k24 : kl 124 = 50 := rfl
  have l24 : len 124 = 200 := rfl
  have hN := hM.2.1
  generalize hNN : M.1 = N at *
  have fr : ∀ s2 : St, (∀ q, q ≠ 123 → q ≠ 124 → s2 q = st q) → MCm s2 m M ∧ s2 119 m = (N : Nat) ∧ s2 99 2 = a := fun s2 h => by
    refine ⟨MCm_congr hM (by rw [h 119 (by decide) (by decide)]) (fun i _ _ => by rw [h 120 (by decide) (by decide)]) (fun i _ _ => by rw [h 121 (by decide) (by decide)]), ?_, ?_⟩
    · rw [h 119 (by decide) (by decide), ← hNN]
      exact hM.1
    · rw [h 99 (by decide) (by decide)]
      exact hl
  have p10 : (4 : Nat) ^ 10 = 1048576 := by decide
  have fin : ∀ mm s : Nat, ∀ (s2 : St) (W : Nat → Nat) (u5 : V), s + mm = N → (∀ q, q ≠ 123 → q ≠ 124 → s2 q = st q) → (∀ t, t < N → s2 123 t = (W t : Nat)) → sN W N ≤ 1048576 → sN (fun t => W t * cw M a 0 (t : Int)) N = cw M a n 0 → AW (P 109) Q (MS (d + 1)) 0 (fun _ => 0) 27 [vr 99, vi m, vi n, vi (sN (fun t => W t * cw M a 0 (t : Int)) s : Nat), vi s, u5] [] s2 := by
    intro mm
    induction mm with
    | zero =>
      intro s s2 W u5 g1 g2 g3 g4 g5
      have : s = N := by omega
      subst this
      obtain ⟨f1, f2, f3⟩ := fr s2 g2
      rw [g5]
      rw [awu 109 27]
      try simp only [awu 109 32, pe109, xs, i_load, i_loadR, i_inc, lg, lp, true_and, and_true, List.length_cons, List.length_nil, Nat.reduceAdd, Nat.reduceLeDiff, Nat.zero_le, Int.toNat_natCast, natLit, k0, k19, l19, f2]
      exact ⟨by omega, fun _ => hq s2 g2, fun h => absurd (Int.le_refl _) h⟩
    | succ mm ih =>
      intro s s2 W u5 g1 g2 g3 g4 g5
      obtain ⟨f1, f2, f3⟩ := fr s2 g2
      have ws : Unit → wr ((s : Int) + 1) = ((s + 1 : Nat) : Int) := fun _ => by rw [wr_id (by omega) (by omega)]; omega
      have ih := ih (s + 1) s2 W u5 (by omega) g2 g3 g4 g5
      rw [sN_s] at ih
      have e3 := g3 s (by omega)
      have hb : sN (fun t => W t * cw M a 0 (t : Int)) s ≤ sN (fun t => W t * cw M a 0 (t : Int)) N := sN_mono N (by omega)
      have hb2 := sN_ge (f := W) (show s < N by omega)
      have hb3 := cw_m (M := M) ha hn 0
      have hcw : cw M a 0 (s : Int) = if M.2.1 s = 1 then 1 else 0 := by
        show (if inM M (s : Int) then 1 else 0) = _
        unfold inM
        rw [decide_eq_true ⟨by omega, by omega⟩, Int.toNat_natCast]
        by_cases z : M.2.1 s = 1
        · simp [z]
        · simp [z]
      rw [hcw] at ih
      generalize sN (fun t => W t * cw M a 0 (t : Int)) s = v at *
      have wv : Unit → wr ((v : Int) + ((W s : Nat) : Int)) = ((v + W s : Nat) : Int) := fun _ => by rw [wr_id (by omega) (by omega)]; omega
      have wv0 : Unit → wr ((v : Int) + 0) = ((v : Nat) : Int) := fun _ => by rw [wr_id (by omega) (by omega)]; omega
      rw [awu 109 27]
      try simp only [awu 109 28, pe109, xs, i_load, i_loadR, i_inc, lg, lp, true_and, and_true, List.length_cons, List.length_nil, Nat.reduceAdd, Nat.reduceLeDiff, Nat.zero_le, Int.toNat_natCast, natLit, k0, k19, l19, f2]
      refine ⟨by omega, fun h => by omega, fun _ => ?_⟩
      refine sp_markOf f1 (by omega) (show s < M.1 by omega) ?_
      dsimp only
      try simp only [awu 109 29, awu 109 30, awu 109 31, pe109, xs, i_load, i_loadR, i_inc, lg, lp, true_and, and_true, List.length_cons, List.length_nil, Nat.reduceAdd, Nat.reduceLeDiff, Nat.zero_le, Int.toNat_natCast, natLit, k0, k23, l23, e3, wv (), wv0 (), ws ()]
      refine ⟨fun h => ?_, fun h => ⟨by omega, ?_⟩⟩
      · rw [if_neg h, Nat.mul_zero] at ih
        exact ih
      · rw [if_pos (by omega), Nat.mul_one] at ih
        exact ih
  have keyk : ∀ mm k : Nat, ∀ (s2 : St) (W : Nat → Nat) (u4 u5 : V), k + mm = n → (∀ q, q ≠ 123 → q ≠ 124 → s2 q = st q) → (∀ t, t < N → s2 123 t = (W t : Nat)) → sN W N ≤ 4 ^ k → sN (fun t => W t * cw M a mm (t : Int)) N = cw M a n 0 → AW (P 109) Q (MS (d + 1)) 0 (fun _ => 0) 10 [vr 99, vi m, vi n, vi k, u4, u5] [] s2 := by
    intro mm
    induction mm with
    | zero =>
      intro k s2 W u4 u5 g1 g2 g3 g4 g5
      have hp4 := pw4 (show k ≤ 10 by omega)
      rw [awu 109 10]
      try simp only [awu 109 26, pe109, xs, i_load, i_loadR, i_inc, lg, lp, true_and, and_true, List.length_cons, List.length_nil, Nat.reduceAdd, Nat.reduceLeDiff, Nat.zero_le, Int.toNat_natCast, natLit, k0]
      refine ⟨fun _ => ?_, fun h => by omega⟩
      exact fin N 0 s2 W u5 (by omega) g2 g3 (by omega) g5
    | succ j ih =>
      intro k s2 W u4 u5 g1 g2 g3 g4 g5
      have wk : Unit → wr ((k : Int) + 1) = ((k + 1 : Nat) : Int) := fun _ => by rw [wr_id (by omega) (by omega)]; omega
      have hp4 := pw4 (show k + 1 ≤ 10 by omega)
      have hps : (4 : Nat) ^ (k + 1) = 4 * 4 ^ k := by rw [Nat.pow_succ]; omega
      have hwN : a * sN W N ≤ 4 * 4 ^ k := Nat.mul_le_mul ha g4
      have keyc : ∀ mm s : Nat, ∀ (s3 : St) (V' : Nat → Nat) (u5 : V), s + mm = N → (∀ q, q ≠ 123 → q ≠ 124 → s3 q = st q) → (∀ t, t < N → s3 124 t = (V' t : Nat)) → (∀ t, t < s → s3 123 t = (V' t : Nat)) → sN V' N ≤ 4 ^ (k + 1) → sN (fun t => V' t * cw M a j (t : Int)) N = cw M a n 0 → AW (P 109) Q (MS (d + 1)) 0 (fun _ => 0) 23 [vr 99, vi m, vi n, vi k, vi s, u5] [] s3 := by
        intro mm
        induction mm with
        | zero =>
          intro s s3 V' u5 h1 h2 h3 h4 h5 h6
          have : s = N := by omega
          subst this
          obtain ⟨f1, f2, f3⟩ := fr s3 h2
          rw [awu 109 23]
          try simp only [awu 109 25, pe109, xs, i_load, i_loadR, i_inc, lg, lp, true_and, and_true, List.length_cons, List.length_nil, Nat.reduceAdd, Nat.reduceLeDiff, Nat.zero_le, Int.toNat_natCast, natLit, k0, k19, l19, f2, wk ()]
          exact ⟨by omega, fun _ => ih (k + 1) s3 V' _ _ (by omega) h2 h4 h5 h6, fun h => absurd (Int.le_refl _) h⟩
        | succ mm ihc =>
          intro s s3 V' u5 h1 h2 h3 h4 h5 h6
          obtain ⟨f1, f2, f3⟩ := fr s3 h2
          have ws : Unit → wr ((s : Int) + 1) = ((s + 1 : Nat) : Int) := fun _ => by rw [wr_id (by omega) (by omega)]; omega
          have e4 := h3 s (by omega)
          rw [awu 109 23]
          try simp only [awu 109 24, pe109, xs, i_load, i_loadR, i_inc, lg, lp, true_and, and_true, List.length_cons, List.length_nil, Nat.reduceAdd, Nat.reduceLeDiff, Nat.zero_le, Int.toNat_natCast, natLit, k0, k19, l19, f2, k23, l23, k24, l24, e4, ws ()]
          refine ⟨by omega, fun h => by omega, fun _ => ⟨by omega, by omega, ?_⟩⟩
          refine ihc (s + 1) _ V' u5 (by omega) (fun q a1 a2 => ?_) (fun t ht => ?_) (fun t ht => ?_) h5 h6
          · rw [up2_ne a1]
            exact h2 q a1 a2
          · rw [up2_ne (by decide)]
            exact h3 t ht
          · rw [up2_self]
            by_cases z : t = s
            · subst z
              rw [upf_s]
            · rw [upf_n z]
              exact h4 t (by omega)
      have keys : ∀ mm s : Nat, ∀ (s3 : St) (V' : Nat → Nat) (u5 : V), s + mm = N → (∀ q, q ≠ 123 → q ≠ 124 → s3 q = st q) → (∀ t, t < N → s3 123 t = (W t : Nat)) → (∀ t, t < N → s3 124 t = (V' t : Nat)) → sN V' N ≤ a * sN W s → sN (fun t => V' t * cw M a j (t : Int)) N = sN (fun t => W t * cw M a (j + 1) (t : Int)) s → AW (P 109) Q (MS (d + 1)) 0 (fun _ => 0) 15 [vr 99, vi m, vi n, vi k, vi s, u5] [] s3 := by
        intro mm
        induction mm with
        | zero =>
          intro s s3 V' u5 h1 h2 h3 h4 h5 h6
          have : s = N := by omega
          subst this
          obtain ⟨f1, f2, f3⟩ := fr s3 h2
          rw [awu 109 15]
          try simp only [awu 109 22, pe109, xs, i_load, i_loadR, i_inc, lg, lp, true_and, and_true, List.length_cons, List.length_nil, Nat.reduceAdd, Nat.reduceLeDiff, Nat.zero_le, Int.toNat_natCast, natLit, k0, k19, l19, f2]
          refine ⟨by omega, fun _ => ?_, fun h => absurd (Int.le_refl _) h⟩
          exact keyc s 0 s3 V' _ (by omega) h2 h4 (fun t ht => by omega) (by omega) (by rw [h6]; exact g5)
        | succ mm ihs =>
          intro s s3 V' u5 h1 h2 h3 h4 h5 h6
          obtain ⟨f1, f2, f3⟩ := fr s3 h2
          have ws : Unit → wr ((s : Int) + 1) = ((s + 1 : Nat) : Int) := fun _ => by rw [wr_id (by omega) (by omega)]; omega
          have hms : a * sN W (s + 1) ≤ a * sN W N := Nat.mul_le_mul_left _ (sN_mono N (by omega))
          rw [sN_s, Nat.mul_add] at hms
          have keyl : ∀ mm l : Nat, ∀ (s4 : St) (V' : Nat → Nat), l + mm = a → (∀ q, q ≠ 123 → q ≠ 124 → s4 q = st q) → (∀ t, t < N → s4 123 t = (W t : Nat)) → (∀ t, t < N → s4 124 t = (V' t : Nat)) → sN V' N ≤ a * sN W s + l * W s → sN (fun t => V' t * cw M a j (t : Int)) N = sN (fun t => W t * cw M a (j + 1) (t : Int)) s + W s * sN (fun l => cw M a j (fo M (s : Int) l)) l → AW (P 109) Q (MS (d + 1)) 0 (fun _ => 0) 17 [vr 99, vi m, vi n, vi k, vi s, vi l] [] s4 := by
            intro mm
            induction mm with
            | zero =>
              intro l s4 V' e1 e2 e3 e4 e5 e6
              have : l = a := by omega
              subst this
              obtain ⟨f1, f2, f3⟩ := fr s4 e2
              rw [awu 109 17]
              try simp only [awu 109 21, pe109, xs, i_load, i_loadR, i_inc, lg, lp, true_and, and_true, List.length_cons, List.length_nil, Nat.reduceAdd, Nat.reduceLeDiff, Nat.zero_le, Int.toNat_natCast, natLit, k0, f3, ws ()]
              refine ⟨fun _ => ?_, fun h => absurd (Int.le_refl _) h⟩
              refine ihs (s + 1) s4 V' _ (by omega) e2 e3 e4 (by rw [sN_s, Nat.mul_add]; exact e5) ?_
              rw [e6, sN_s, cw_s]
            | succ mm ihl =>
              intro l s4 V' e1 e2 e3 e4 e5 e6
              obtain ⟨f1, f2, f3⟩ := fr s4 e2
              have wl' : Unit → wr ((l : Int) + 1) = ((l + 1 : Nat) : Int) := fun _ => by rw [wr_id (by omega) (by omega)]; omega
              have hfb := fo_b (s := (s : Int)) hW (show l < 4 by omega)
              have hla : (l + 1) * W s ≤ a * W s := Nat.mul_le_mul_right _ (by omega)
              rw [Nat.add_mul, Nat.one_mul] at hla
              rw [awu 109 17]
              try simp only [awu 109 18, pe109, xs, i_load, i_loadR, i_inc, lg, lp, true_and, and_true, List.length_cons, List.length_nil, Nat.reduceAdd, Nat.reduceLeDiff, Nat.zero_le, Int.toNat_natCast, natLit, k0, f3]
              refine ⟨fun h => by omega, fun _ => ?_⟩
              refine sp_arrowOf f1 (by omega) (Or.inr ⟨by omega, by omega⟩) (show l < 4 by omega) ?_
              dsimp only
              try simp only [awu 109 19, awu 109 20, pe109, xs, i_load, i_loadR, i_inc, lg, lp, true_and, and_true, List.length_cons, List.length_nil, Nat.reduceAdd, Nat.reduceLeDiff, Nat.zero_le, Int.toNat_natCast, natLit, k0, wl' ()]
              refine ⟨fun h => ?_, fun h => ?_⟩
              · refine ihl (l + 1) s4 V' (by omega) e2 e3 e4 (by rw [Nat.add_mul, Nat.one_mul]; omega) ?_
                rw [e6, sN_s, h, cw_n]
                rfl
              · refine sp_arrowOf f1 (by omega) (Or.inr ⟨by omega, by omega⟩) (show l < 4 by omega) ?_
                dsimp only
                obtain ⟨t0, ht0⟩ : ∃ t0 : Nat, fo M (s : Int) l = t0 := ⟨(fo M (s : Int) l).toNat, by omega⟩
                have ih2 := fun s5 => ihl (l + 1) s5 (updN V' t0 (V' t0 + W s)) (by omega)
                rw [sN_s, ht0, Nat.mul_add] at ih2
                rw [ht0]
                have ht0N : t0 < N := by omega
                have eV := e4 t0 ht0N
                have eW := e3 s (by omega)
                have hV1 := sN_ge (f := updN V' t0 (V' t0 + W s)) ht0N
                rw [updN_at, if_pos rfl, sN_up1 ht0N] at hV1
                have wv : Unit → wr (((V' t0 : Nat) : Int) + ((W s : Nat) : Int)) = ((V' t0 + W s : Nat) : Int) := fun _ => by rw [wr_id (by omega) (by omega)]; omega
                try simp only [awu 109 19, awu 109 20, pe109, xs, i_load, i_loadR, i_inc, lg, lp, true_and, and_true, List.length_cons, List.length_nil, Nat.reduceAdd, Nat.reduceLeDiff, Nat.zero_le, Int.toNat_natCast, natLit, k0, k23, l23, k24, l24, eV, eW, wv (), wl' ()]
                refine ⟨by omega, by omega, by omega, ?_⟩
                refine ih2 _ (fun q a1 a2 => ?_) (fun t ht => ?_) (fun t ht => ?_) ?_ ?_
                · rw [up2_ne a2]
                  exact e2 q a1 a2
                · rw [up2_ne (by decide)]
                  exact e3 t ht
                · rw [up2_self, updN_at]
                  by_cases z : t = t0
                  · subst z
                    rw [upf_s, if_pos rfl]
                  · rw [upf_n z, if_neg z]
                    exact e4 t ht
                · rw [sN_up1 ht0N, Nat.add_mul, Nat.one_mul]
                  omega
                · rw [sN_up (g := fun t => cw M a j (t : Int)) ht0N, e6]
                  omega
          rw [awu 109 15]
          try simp only [awu 109 16, pe109, xs, i_load, i_loadR, i_inc, lg, lp, true_and, and_true, List.length_cons, List.length_nil, Nat.reduceAdd, Nat.reduceLeDiff, Nat.zero_le, Int.toNat_natCast, natLit, k0, k19, l19, f2]
          refine ⟨by omega, fun h => by omega, fun _ => ?_⟩
          exact keyl a 0 s3 V' (by omega) h2 h3 h4 (by omega) (by rw [h6]; rfl)
      have keyz : ∀ mm s : Nat, ∀ (s3 : St) (u5 : V), s + mm = N → (∀ q, q ≠ 123 → q ≠ 124 → s3 q = st q) → (∀ t, t < N → s3 123 t = (W t : Nat)) → (∀ t, t < s → s3 124 t = 0) → AW (P 109) Q (MS (d + 1)) 0 (fun _ => 0) 12 [vr 99, vi m, vi n, vi k, vi s, u5] [] s3 := by
        intro mm
        induction mm with
        | zero =>
          intro s s3 u5 h1 h2 h3 h4
          have : s = N := by omega
          subst this
          obtain ⟨f1, f2, f3⟩ := fr s3 h2
          rw [awu 109 12]
          try simp only [awu 109 14, pe109, xs, i_load, i_loadR, i_inc, lg, lp, true_and, and_true, List.length_cons, List.length_nil, Nat.reduceAdd, Nat.reduceLeDiff, Nat.zero_le, Int.toNat_natCast, natLit, k0, k19, l19, f2]
          refine ⟨by omega, fun _ => ?_, fun h => absurd (Int.le_refl _) h⟩
          refine keys s 0 s3 (fun _ => 0) _ (by omega) h2 h3 (fun t ht => by rw [h4 t ht]; rfl) (by rw [sN_0]; exact Nat.zero_le _) ?_
          rw [sN_congr (g := fun _ => 0) (fun l _ => Nat.zero_mul _), sN_0]
          rfl
        | succ mm ihz =>
          intro s s3 u5 h1 h2 h3 h4
          obtain ⟨f1, f2, f3⟩ := fr s3 h2
          have ws : Unit → wr ((s : Int) + 1) = ((s + 1 : Nat) : Int) := fun _ => by rw [wr_id (by omega) (by omega)]; omega
          rw [awu 109 12]
          try simp only [awu 109 13, pe109, xs, i_load, i_loadR, i_inc, lg, lp, true_and, and_true, List.length_cons, List.length_nil, Nat.reduceAdd, Nat.reduceLeDiff, Nat.zero_le, Int.toNat_natCast, natLit, k0, k19, l19, f2, k24, l24, ws ()]
          refine ⟨by omega, fun h => by omega, fun _ => ⟨by omega, ?_⟩⟩
          refine ihz (s + 1) _ u5 (by omega) (fun q a1 a2 => ?_) (fun t ht => ?_) (fun t ht => ?_)
          · rw [up2_ne a2]
            exact h2 q a1 a2
          · rw [up2_ne (by decide)]
            exact h3 t ht
          · rw [up2_self]
            by_cases z : t = s
            · subst z
              rw [upf_s]
            · rw [upf_n z]
              exact h4 t (by omega)
      rw [awu 109 10]
      try simp only [awu 109 11, pe109, xs, i_load, i_loadR, i_inc, lg, lp, true_and, and_true, List.length_cons, List.length_nil, Nat.reduceAdd, Nat.reduceLeDiff, Nat.zero_le, Int.toNat_natCast, natLit, k0]
      exact ⟨fun h => by omega, fun _ => keyz N 0 s2 _ (by omega) g2 g3 (fun t ht => by omega)⟩
  have keyi : ∀ mm s : Nat, ∀ (s2 : St), s + mm = N → (∀ q, q ≠ 123 → q ≠ 124 → s2 q = st q) → (∀ t, t < s → s2 123 t = ((if t = 0 then 1 else 0 : Nat) : Int)) → AW (P 109) Q (MS (d + 1)) 0 (fun _ => 0) 4 [vr 99, vi m, vi n, vi s, u4, u5] [] s2 := by
    intro mm
    induction mm with
    | zero =>
      intro s s2 g1 g2 g3
      have : s = N := by omega
      subst this
      obtain ⟨f1, f2, f3⟩ := fr s2 g2
      have one : ∀ (g : Nat → Nat) (k : Nat), 0 < k → sN (fun t => (if t = 0 then 1 else 0) * g t) k = g 0 := by
        intro g k
        induction k with
        | zero => intro h; omega
        | succ k ih =>
          intro _
          rw [sN_s]
          cases k with
          | zero =>
            simp [sN]
          | succ k =>
            rw [ih (by omega)]
            simp
      have one1 : sN (fun t => (if t = 0 then 1 else 0)) s = 1 := by
        have := one (fun _ => 1) s h0
        simpa using this
      rw [awu 109 4]
      try simp only [awu 109 9, pe109, xs, i_load, i_loadR, i_inc, lg, lp, true_and, and_true, List.length_cons, List.length_nil, Nat.reduceAdd, Nat.reduceLeDiff, Nat.zero_le, Int.toNat_natCast, natLit, k0, k19, l19, f2]
      refine ⟨by omega, fun _ => ?_, fun h => absurd (Int.le_refl _) h⟩
      refine keyk n 0 s2 (fun t => if t = 0 then 1 else 0) _ _ (by omega) g2 g3 (by rw [one1]; decide) ?_
      exact one (fun t => cw M a n (t : Int)) s h0
    | succ mm ih =>
      intro s s2 g1 g2 g3
      obtain ⟨f1, f2, f3⟩ := fr s2 g2
      have ws : Unit → wr ((s : Int) + 1) = ((s + 1 : Nat) : Int) := fun _ => by rw [wr_id (by omega) (by omega)]; omega
      rw [awu 109 4]
      try simp only [awu 109 5, awu 109 6, awu 109 7, awu 109 8, pe109, xs, i_load, i_loadR, i_inc, lg, lp, true_and, and_true, List.length_cons, List.length_nil, Nat.reduceAdd, Nat.reduceLeDiff, Nat.zero_le, Int.toNat_natCast, natLit, k0, k19, l19, f2, k23, l23, ws ()]
      refine ⟨by omega, fun h => by omega, fun _ => ⟨fun h => ⟨by omega, ?_⟩, fun h => ⟨by omega, ?_⟩⟩⟩
      · refine ih (s + 1) _ (by omega) (fun q a1 a2 => ?_) (fun t ht => ?_)
        · rw [up2_ne a1]
          exact g2 q a1 a2
        · rw [up2_self]
          by_cases z : t = s
          · subst z
            rw [upf_s, if_neg (by omega)]
            rfl
          · rw [upf_n z]
            exact g3 t (by omega)
      · refine ih (s + 1) _ (by omega) (fun q a1 a2 => ?_) (fun t ht => ?_)
        · rw [up2_ne a1]
          exact g2 q a1 a2
        · rw [up2_self]
          by_cases z : t = s
          · subst z
            rw [upf_s, if_pos (by omega)]
            rfl
          · rw [upf_n z]
            exact g3 t (by omega)
  rw [awu 109 3]
  try simp only [awu 109 3, pe109, xs, i_load, i_loadR, i_inc, lg, lp, true_and, and_true, List.length_cons, List.length_nil, Nat.reduceAdd, Nat.reduceLeDiff, Nat.zero_le, Int.toNat_natCast, natLit, k0]
  exact keyi N 0 st (by omega) (fun _ _ _ => rfl) (fun t ht => by omega)
