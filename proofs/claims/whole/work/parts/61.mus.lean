/-! what can be come to, what is useful: the reference -/
def gx (M : MC) (s : Nat) : Int := if s = M.1 then -1 else (s : Int)
def sq (M : MC) (s l : Nat) : Nat := if fo M (gx M s) l = -1 then M.1 else (fo M (gx M s) l).toNat
theorem gx_N {M : MC} : gx M M.1 = -1 := by unfold gx; rw [if_pos rfl]
theorem gx_s {M : MC} {s : Nat} (h : s < M.1) : gx M s = (s : Int) := by unfold gx; rw [if_neg (by omega)]
theorem gx_inj {M : MC} {s t : Nat} (hs : s ≤ M.1) (ht : t ≤ M.1) (h : gx M s = gx M t) : s = t := by
  unfold gx at h
  split at h <;> split at h <;> omega
theorem sq_b {M : MC} {a s l : Nat} (hW : MW a M) (hl : l < a) (ha : a ≤ 4) : sq M s l ≤ M.1 := by
  have := fo_r (s := gx M s) hW hl ha
  unfold sq
  split <;> omega
theorem sq_x {M : MC} {a s l : Nat} (hW : MW a M) (hl : l < a) (ha : a ≤ 4) : gx M (sq M s l) = fo M (gx M s) l := by
  have := fo_r (s := gx M s) hW hl ha
  unfold sq
  split
  · rename_i h
    rw [gx_N, h]
  · rw [gx_s (by omega)]
    omega
theorem sq_N {M : MC} {l : Nat} : sq M M.1 l = M.1 := by
  unfold sq
  rw [gx_N, fo_n, if_pos rfl]
theorem sp_stepOf {d m a s l : Nat} {st : St} {M : MC} {Q : Rn} (hM : MCm st m M) (hm : m ≤ 4) (hW : MW a M) (ha : a ≤ 4) (hs : s ≤ M.1) (hl : l < a) (hq : Q (vi (sq M s l : Nat)) st) : MS (d + 2) 133 [vr 99, vi m, vi s, vi l] st Q := by
  have k0 : kl 99 = 12 := rfl
  have k19 : kl 119 = 50 := rfl
  have l19 : len 119 = 5 := rfl
  have e19 := hM.1
  refine MS_v [vr 99, vi m, vi s, vi l, none] rfl rfl rfl rfl ?_
  by_cases z : s = M.1
  · subst z
    rw [sq_N] at hq
    try simp only [awu 133 0, awu 133 1, awu 133 3, awu 133 4, awu 133 6, pe133, xs, i_load, i_loadR, i_inc, lg, lp, true_and, and_true, List.length_cons, List.length_nil, Nat.reduceAdd, Nat.reduceLeDiff, Nat.zero_le, Int.toNat_natCast, natLit, k0, k19, l19, e19]
    exact ⟨by omega, fun h => absurd (by trivial) h, fun _ => ⟨fun h => absurd (by trivial) h, fun _ => ⟨by omega, hq⟩⟩⟩
  · try simp only [awu 133 0, awu 133 2, pe133, xs, i_load, i_loadR, i_inc, lg, lp, true_and, and_true, List.length_cons, List.length_nil, Nat.reduceAdd, Nat.reduceLeDiff, Nat.zero_le, Int.toNat_natCast, natLit, k0, k19, l19, e19]
    refine ⟨by omega, fun _ => ?_, fun h => absurd (by omega) h⟩
    refine sp_arrowOf hM hm (by omega) (show l < 4 by omega) ?_
    dsimp only
    unfold sq at hq
    rw [gx_s (by omega)] at hq
    try simp only [awu 133 3, awu 133 4, awu 133 5, awu 133 6, pe133, xs, i_load, i_loadR, i_inc, lg, lp, true_and, and_true, List.length_cons, List.length_nil, Nat.reduceAdd, Nat.reduceLeDiff, Nat.zero_le, Int.toNat_natCast, natLit, k0, k19, l19, e19]
    have := fo_r (s := (s : Int)) hW hl ha
    refine ⟨fun h => ?_, fun h => ⟨by omega, ?_⟩⟩
    · rw [if_neg h] at hq
      rw [show fo M (s : Int) l = ((fo M (s : Int) l).toNat : Int) by omega]
      exact hq
    · rw [if_pos (by omega)] at hq
      exact hq
noncomputable def rcB (M : MC) (a : Nat) (s : Int) : Bool := @decide (Rc M a s) (Classical.propDecidable _)
theorem rcB_d {M : MC} {a : Nat} {s : Int} : rcB M a s = true ↔ Rc M a s := by
  unfold rcB
  exact @decide_eq_true_iff _ (Classical.propDecidable _)
def CI (st s2 : St) (M : MC) (a : Nat) (C : Nat → Bool) : Prop := (∀ q, q ≠ 136 → s2 q = st q) ∧ (∀ s, s ≤ M.1 → s2 136 s = if C s then 1 else 0) ∧ C 0 = true ∧ ∀ s, s ≤ M.1 → C s = true → Rc M a (gx M s)
set_option maxHeartbeats 1000000 in
theorem sp_layCome {d m a : Nat} {st : St} {M : MC} {Q : Rn} (hM : MCm st m M) (hm : m ≤ 4) (hW : MW a M) (ha : a ≤ 4) (h0 : 0 < M.1) (hl : st 99 2 = a)
    (hq : ∀ st' : St, (∀ s, s ≤ M.1 → st' 136 s = if rcB M a (gx M s) then 1 else 0) → (∀ q, q ≠ 136 → st' q = st q) → Q none st') : MS (d + 3) 134 [vr 99, vi m] st Q := by
  have k0 : kl 99 = 12 := rfl
  have k19 : kl 119 = 50 := rfl
  have l19 : len 119 = 5 := rfl
  have k36 : kl 136 = 52 := rfl
  have l36 : len 136 = 201 := rfl
  have e19 := hM.1
  have hN := hM.2.1
  have fr : ∀ s2 : St, (∀ q, q ≠ 136 → s2 q = st q) → MCm s2 m M ∧ s2 99 2 = a := fun s2 h => ⟨MCm_congr hM (by rw [h 119 (by decide)]) (fun i _ _ => by rw [h 120 (by decide)]) (fun i _ _ => by rw [h 121 (by decide)]), by rw [h 99 (by decide)]; exact hl⟩
  have fin : ∀ (s2 : St) (C : Nat → Bool) (u4 u5 : V), CI st s2 M a C → (∀ s l, s ≤ M.1 → l < a → C s = true → C (sq M s l) = true) → AW (P 134) Q (MS (d + 2)) 0 (fun _ => 0) 7 [vr 99, vi m, vi (M.1 : Nat), vi 0, u4, u5] [] s2 := by
    intro s2 C u4 u5 hC hcl
    rw [awu 134 7]
    try simp only [awu 134 20, pe134, xs, i_load, i_loadR, i_inc, lg, lp, true_and, and_true, List.length_cons, List.length_nil, Nat.reduceAdd, Nat.reduceLeDiff, Nat.zero_le, Int.toNat_natCast, natLit, k0]
    refine ⟨fun _ => hq s2 (fun s hs => ?_) hC.1, fun h => absurd (by trivial) h⟩
    rw [hC.2.1 s hs]
    have : C s = rcB M a (gx M s) := by
      cases e : rcB M a (gx M s) with
      | false =>
        cases e2 : C s with
        | false => rfl
        | true =>
          have := rcB_d.mpr (hC.2.2.2 s hs e2)
          rw [e] at this
          cases this
      | true =>
        obtain ⟨t, t1, t2, t3⟩ := Rc_of (M := M) (a := a) (R := fun x => ∃ t, t ≤ M.1 ∧ x = gx M t ∧ C t = true) ⟨0, by omega, by rw [gx_s h0]; rfl, hC.2.2.1⟩ (fun x l hx hl => by
          obtain ⟨t, t1, t2, t3⟩ := hx
          refine ⟨sq M t l, sq_b hW hl ha, ?_, hcl t l t1 hl t3⟩
          rw [sq_x hW hl ha, t2]) (rcB_d.mp e)
        rw [gx_inj hs t1 t2]
        exact t3
    rw [this]
  have round : ∀ (s2 : St) (C : Nat → Bool) (u4 u5 : V), CI st s2 M a C → (∀ (s3 : St) (C' : Nat → Bool) (u4 u5 : V), CI st s3 M a C' → cn C (M.1 + 1) < cn C' (M.1 + 1) → AW (P 134) Q (MS (d + 2)) 0 (fun _ => 0) 7 [vr 99, vi m, vi (M.1 : Nat), vi 1, u4, u5] [] s3) → AW (P 134) Q (MS (d + 2)) 0 (fun _ => 0) 7 [vr 99, vi m, vi (M.1 : Nat), vi 1, u4, u5] [] s2 := by
    intro s2 C u4 u5 hC nxt
    have keys : ∀ mm s : Nat, ∀ (s3 : St) (C' : Nat → Bool) (mo : Int) (u5 : V), s + mm = M.1 + 1 → CI st s3 M a C' → ((mo = 0 ∧ C' = C ∧ ∀ s' l, s' < s → l < a → C s' = true → C (sq M s' l) = true) ∨ (mo = 1 ∧ cn C (M.1 + 1) < cn C' (M.1 + 1))) → AW (P 134) Q (MS (d + 2)) 0 (fun _ => 0) 9 [vr 99, vi m, vi (M.1 : Nat), vi mo, vi s, u5] [] s3 := by
      intro mm
      induction mm with
      | zero =>
        intro s s3 C' mo u5 g1 g2 g3
        have : s = M.1 + 1 := by omega
        subst this
        rw [awu 134 9]
        try simp only [awu 134 19, pe134, xs, i_load, i_loadR, i_inc, lg, lp, true_and, and_true, List.length_cons, List.length_nil, Nat.reduceAdd, Nat.reduceLeDiff, Nat.zero_le, Int.toNat_natCast, natLit, k0]
        refine ⟨fun _ => ?_, fun h => absurd (by omega) h⟩
        rcases g3 with ⟨rfl, rfl, g3⟩ | ⟨rfl, g3⟩
        · exact fin s3 C' _ _ g2 (fun s l hs hl hc => g3 s l (by omega) hl hc)
        · exact nxt s3 C' _ _ g2 g3
      | succ mm ih =>
        intro s s3 C' mo u5 g1 g2 g3
        have ws : Unit → wr ((s : Int) + 1) = ((s + 1 : Nat) : Int) := fun _ => by rw [wr_id (by omega) (by omega)]; omega
        by_cases hCs : C' s = true
        · have keyl : ∀ mm l : Nat, ∀ (s3 : St) (C' : Nat → Bool) (mo : Int), l + mm = a → CI st s3 M a C' → C' s = true → ((mo = 0 ∧ C' = C ∧ ∀ s' l', (s' < s ∨ (s' = s ∧ l' < l)) → l' < a → C s' = true → C (sq M s' l') = true) ∨ (mo = 1 ∧ cn C (M.1 + 1) < cn C' (M.1 + 1))) → AW (P 134) Q (MS (d + 2)) 0 (fun _ => 0) 11 [vr 99, vi m, vi (M.1 : Nat), vi mo, vi s, vi l] [] s3 := by
            intro mm
            induction mm with
            | zero =>
              intro l s3 C' mo x1 x2 x3 x4
              have : l = a := by omega
              subst this
              have f2 := (fr s3 x2.1).2
              rw [awu 134 11]
              try simp only [awu 134 18, pe134, xs, i_load, i_loadR, i_inc, lg, lp, true_and, and_true, List.length_cons, List.length_nil, Nat.reduceAdd, Nat.reduceLeDiff, Nat.zero_le, Int.toNat_natCast, natLit, k0, f2, ws ()]
              refine ⟨fun _ => ih (s + 1) s3 C' mo _ (by omega) x2 ?_, fun h => absurd (Int.le_refl _) h⟩
              rcases x4 with ⟨y1, y2, y3⟩ | y
              · exact Or.inl ⟨y1, y2, fun s' l' h1 h2 h3 => y3 s' l' (by omega) h2 h3⟩
              · exact Or.inr y
            | succ mm ihl =>
              intro l s3 C' mo x1 x2 x3 x4
              obtain ⟨f1, f2⟩ := fr s3 x2.1
              have wl' : Unit → wr ((l : Int) + 1) = ((l + 1 : Nat) : Int) := fun _ => by rw [wr_id (by omega) (by omega)]; omega
              have es := x2.2.1 s (by omega)
              rw [if_pos x3] at es
              have htb := sq_b (s := s) hW (show l < a by omega) ha
              have et := x2.2.1 (sq M s l) htb
              have hRt : Rc M a (gx M (sq M s l)) := by
                rw [sq_x hW (by omega) ha]
                exact Rc_s (x2.2.2.2 s (by omega) x3) (by omega)
              generalize hgt : sq M s l = t at *
              have last : ∀ (mo' : Int), ((mo' = 0 ∧ C' = C ∧ C' t = true ∧ ∀ s' l', (s' < s ∨ (s' = s ∧ l' < l)) → l' < a → C s' = true → C (sq M s' l') = true) ∨ (mo' = 1 ∧ (cn C (M.1 + 1) < cn C' (M.1 + 1) ∨ (C' t = false ∧ cn C (M.1 + 1) ≤ cn C' (M.1 + 1))))) → AW (P 134) Q (MS (d + 2)) 0 (fun _ => 0) 17 [vr 99, vi m, vi (M.1 : Nat), vi mo, vi s, vi l] [vi mo'] s3 := by
                intro mo' hmo
                rw [awu 134 17]
                try simp only [awu 134 17, pe134, xs, i_load, i_loadR, i_inc, lg, lp, true_and, and_true, List.length_cons, List.length_nil, Nat.reduceAdd, Nat.reduceLeDiff, Nat.zero_le, Int.toNat_natCast, natLit, k0]
                refine sp_stepOf f1 hm hW ha (show s ≤ M.1 by omega) (show l < a by omega) ?_
                dsimp only
                rw [hgt]
                try simp only [awu 134 17, pe134, xs, i_load, i_loadR, i_inc, lg, lp, true_and, and_true, List.length_cons, List.length_nil, Nat.reduceAdd, Nat.reduceLeDiff, Nat.zero_le, Int.toNat_natCast, natLit, k0, k36, l36, wl' (), ok01_1]
                refine ⟨by omega, ?_⟩
                rcases hmo with ⟨rfl, rfl, hCt, hc⟩ | ⟨rfl, hc⟩
                · refine ihl (l + 1) _ C' 0 (by omega) ⟨fun q q1 => ?_, fun x hx => ?_, x2.2.2.1, x2.2.2.2⟩ x3 (Or.inl ⟨rfl, rfl, fun s' l' h1 h2 h3 => ?_⟩)
                  · rw [up2_ne q1]
                    exact x2.1 q q1
                  · rw [up2_self]
                    by_cases zx : x = t
                    · rw [zx, upf_s, if_pos hCt]
                    · rw [upf_n zx]
                      exact x2.2.1 x hx
                  · by_cases zz : s' = s ∧ l' = l
                    · obtain ⟨rfl, rfl⟩ := zz
                      rw [hgt]
                      exact hCt
                    · exact hc s' l' (by omega) h2 h3
                · refine ihl (l + 1) _ (updB C' t true) 1 (by omega) ⟨fun q q1 => ?_, fun x hx => ?_, ?_, fun x hx hxC => ?_⟩ ?_ (Or.inr ⟨rfl, ?_⟩)
                  · rw [up2_ne q1]
                    exact x2.1 q q1
                  · rw [up2_self]
                    by_cases zx : x = t
                    · rw [zx, upf_s, updB_s]
                      rfl
                    · rw [upf_n zx, updB_n zx]
                      exact x2.2.1 x hx
                  · exact updB_t x2.2.2.1
                  · by_cases zx : x = t
                    · rw [zx]
                      exact hRt
                    · rw [updB_n zx] at hxC
                      exact x2.2.2.2 x hx hxC
                  · exact updB_t x3
                  · rcases hc with hc | ⟨hc1, hc2⟩
                    · exact Nat.lt_of_lt_of_le hc (cn_imp (fun x _ hx => updB_t hx))
                    · have := cn_updB (n := M.1 + 1) (show t < M.1 + 1 by omega) hc1
                      omega
              rw [awu 134 11]
              try simp only [awu 134 12, awu 134 13, pe134, xs, i_load, i_loadR, i_inc, lg, lp, true_and, and_true, List.length_cons, List.length_nil, Nat.reduceAdd, Nat.reduceLeDiff, Nat.zero_le, Int.toNat_natCast, natLit, k0, f2, k36, l36, es]
              refine ⟨fun h => by omega, fun _ => ⟨by omega, fun h => absurd h (by decide), fun _ => ?_⟩⟩
              rcases x4 with ⟨rfl, rfl, y3⟩ | ⟨rfl, y⟩
              · try simp only [awu 134 14, pe134, xs, i_load, i_loadR, i_inc, lg, lp, true_and, and_true, List.length_cons, List.length_nil, Nat.reduceAdd, Nat.reduceLeDiff, Nat.zero_le, Int.toNat_natCast, natLit, k0]
                refine ⟨fun h => absurd (by trivial) h, fun _ => ?_⟩
                refine sp_stepOf f1 hm hW ha (show s ≤ M.1 by omega) (show l < a by omega) ?_
                dsimp only
                rw [hgt]
                by_cases hCt : C' t = true
                · rw [if_pos hCt] at et
                  try simp only [awu 134 14, awu 134 16, pe134, xs, i_load, i_loadR, i_inc, lg, lp, true_and, and_true, List.length_cons, List.length_nil, Nat.reduceAdd, Nat.reduceLeDiff, Nat.zero_le, Int.toNat_natCast, natLit, k0, k36, l36, et]
                  exact ⟨by omega, fun _ => last 0 (Or.inl ⟨rfl, rfl, hCt, y3⟩), fun h => absurd (by decide) h⟩
                · rw [if_neg hCt] at et
                  try simp only [awu 134 14, awu 134 15, pe134, xs, i_load, i_loadR, i_inc, lg, lp, true_and, and_true, List.length_cons, List.length_nil, Nat.reduceAdd, Nat.reduceLeDiff, Nat.zero_le, Int.toNat_natCast, natLit, k0, k36, l36, et]
                  exact ⟨by omega, fun h => absurd (by trivial) h, fun _ => last 1 (Or.inr ⟨rfl, Or.inr ⟨by simpa using hCt, Nat.le_refl _⟩⟩)⟩
              · try simp only [awu 134 15, pe134, xs, i_load, i_loadR, i_inc, lg, lp, true_and, and_true, List.length_cons, List.length_nil, Nat.reduceAdd, Nat.reduceLeDiff, Nat.zero_le, Int.toNat_natCast, natLit, k0]
                exact ⟨fun _ => last 1 (Or.inr ⟨rfl, Or.inl y⟩), fun h => absurd (by decide) h⟩
          rw [awu 134 9]
          try simp only [awu 134 10, pe134, xs, i_load, i_loadR, i_inc, lg, lp, true_and, and_true, List.length_cons, List.length_nil, Nat.reduceAdd, Nat.reduceLeDiff, Nat.zero_le, Int.toNat_natCast, natLit, k0]
          refine ⟨fun h => by omega, fun _ => keyl a 0 s3 C' mo (by omega) g2 hCs ?_⟩
          rcases g3 with ⟨y1, y2, y3⟩ | y
          · exact Or.inl ⟨y1, y2, fun s' l' h1 h2 h3 => y3 s' l' (by omega) h2 h3⟩
          · exact Or.inr y
        · have es := g2.2.1 s (by omega)
          rw [if_neg hCs] at es
          have f2 := (fr s3 g2.1).2
          have nx : ∀ u5, AW (P 134) Q (MS (d + 2)) 0 (fun _ => 0) 9 [vr 99, vi m, vi (M.1 : Nat), vi mo, vi (s + 1 : Nat), u5] [] s3 := fun u5 => ih (s + 1) s3 C' mo u5 (by omega) g2 (by
            rcases g3 with ⟨y1, y2, y3⟩ | y
            · refine Or.inl ⟨y1, y2, fun s' l' h1 h2 h3 => ?_⟩
              by_cases z : s' = s
              · subst z
                rw [y2] at hCs
                exact absurd h3 hCs
              · exact y3 s' l' (by omega) h2 h3
            · exact Or.inr y)
          rw [awu 134 9]
          try simp only [awu 134 10, awu 134 11, awu 134 12, awu 134 18, pe134, xs, i_load, i_loadR, i_inc, lg, lp, true_and, and_true, List.length_cons, List.length_nil, Nat.reduceAdd, Nat.reduceLeDiff, Nat.zero_le, Int.toNat_natCast, natLit, k0, f2, k36, l36, es, ws ()]
          exact ⟨fun h => by omega, fun _ => ⟨fun _ => nx _, fun _ => ⟨by omega, fun _ => nx _, fun h => absurd (by trivial) h⟩⟩⟩
    rw [awu 134 7]
    try simp only [awu 134 8, pe134, xs, i_load, i_loadR, i_inc, lg, lp, true_and, and_true, List.length_cons, List.length_nil, Nat.reduceAdd, Nat.reduceLeDiff, Nat.zero_le, Int.toNat_natCast, natLit, k0]
    exact ⟨fun h => absurd h (by decide), fun _ => keys (M.1 + 1) 0 s2 C 0 _ (by omega) hC (Or.inl ⟨rfl, rfl, fun s' l h => by omega⟩)⟩
  have rounds : ∀ f : Nat, ∀ (s2 : St) (C : Nat → Bool) (u4 u5 : V), CI st s2 M a C → M.1 + 1 ≤ cn C (M.1 + 1) + f → AW (P 134) Q (MS (d + 2)) 0 (fun _ => 0) 7 [vr 99, vi m, vi (M.1 : Nat), vi 1, u4, u5] [] s2 := by
    intro f
    induction f with
    | zero =>
      intro s2 C u4 u5 h1 h2
      refine round s2 C u4 u5 h1 (fun s3 C' _ _ _ h => ?_)
      have := cn_le (p := C') (M.1 + 1)
      omega
    | succ f ih =>
      intro s2 C u4 u5 h1 h2
      exact round s2 C u4 u5 h1 (fun s3 C' u4 u5 h3 h4 => ih s3 C' u4 u5 h3 (by omega))
  have fill : ∀ mm i : Nat, ∀ (s2 : St), i + mm = M.1 + 1 → (∀ q, q ≠ 136 → s2 q = st q) → (∀ s, s < i → s2 136 s = if s = 0 then 1 else 0) → AW (P 134) Q (MS (d + 2)) 0 (fun _ => 0) 1 [vr 99, vi m, vi (M.1 : Nat), vi i, none, none] [] s2 := by
    intro mm
    induction mm with
    | zero =>
      intro i s2 g1 g2 g3
      rw [awu 134 1]
      try simp only [awu 134 6, pe134, xs, i_load, i_loadR, i_inc, lg, lp, true_and, and_true, List.length_cons, List.length_nil, Nat.reduceAdd, Nat.reduceLeDiff, Nat.zero_le, Int.toNat_natCast, natLit, k0]
      refine ⟨fun _ => rounds (M.1 + 1) s2 (fun s => s == 0) none none ⟨g2, fun s hs => ?_, rfl, fun s hs he => ?_⟩ (by omega), fun h => absurd (by omega) h⟩
      · rw [g3 s (by omega)]
        by_cases z : s = 0
        · rw [z]; rfl
        · rw [if_neg z, if_neg (by simpa using z)]
      · have : s = 0 := by simpa using he
        subst this
        rw [gx_s h0]
        exact Rc_0
    | succ mm ih =>
      intro i s2 g1 g2 g3
      have wk : Unit → wr ((i : Int) + 1) = ((i + 1 : Nat) : Int) := fun _ => by rw [wr_id (by omega) (by omega)]; omega
      have nx : ∀ v : Int, v = (if i = 0 then 1 else 0) → ok01 v → AW (P 134) Q (MS (d + 2)) 0 (fun _ => 0) 5 [vr 99, vi m, vi (M.1 : Nat), vi i, none, none] [vi v, vi i, vr 136] s2 := by
        intro v hv hv1
        rw [awu 134 5]
        try simp only [awu 134 5, pe134, xs, i_load, i_loadR, i_inc, lg, lp, true_and, and_true, List.length_cons, List.length_nil, Nat.reduceAdd, Nat.reduceLeDiff, Nat.zero_le, Int.toNat_natCast, natLit, k0, k36, l36, wk ()]
        refine ⟨by omega, hv1, ih (i + 1) _ (by omega) (fun q q1 => ?_) (fun s hs => ?_)⟩
        · rw [up2_ne q1]
          exact g2 q q1
        · rw [up2_self]
          by_cases zs : s = i
          · rw [zs, upf_s]
            exact hv
          · rw [upf_n zs]
            exact g3 s (by omega)
      rw [awu 134 1]
      try simp only [awu 134 2, awu 134 3, awu 134 4, pe134, xs, i_load, i_loadR, i_inc, lg, lp, true_and, and_true, List.length_cons, List.length_nil, Nat.reduceAdd, Nat.reduceLeDiff, Nat.zero_le, Int.toNat_natCast, natLit, k0]
      refine ⟨fun h => by omega, fun _ => ⟨fun h => nx 0 (by rw [if_neg (by omega)]) ok01_0, fun h => nx 1 (by rw [if_pos (by omega)]) ok01_1⟩⟩
  refine MS_v [vr 99, vi m, none, none, none, none] rfl rfl rfl rfl ?_
  try simp only [awu 134 0, pe134, xs, i_load, i_loadR, i_inc, lg, lp, true_and, and_true, List.length_cons, List.length_nil, Nat.reduceAdd, Nat.reduceLeDiff, Nat.zero_le, Int.toNat_natCast, natLit, k0, k19, l19, e19]
  exact ⟨by omega, fill (M.1 + 1) 0 st (by omega) (fun _ _ => rfl) (fun s hs => by omega)⟩
