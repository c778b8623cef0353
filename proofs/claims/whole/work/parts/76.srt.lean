/-! kinds of states: the reference -/
def al (M : MC) (a : Nat) (g : Nat → Nat) (s t : Nat) : Bool := (g s == g t) && !(orL (fun l => !(g (sq M s l) == g (sq M t l))) a)
theorem al_d {M : MC} {a s t : Nat} {g : Nat → Nat} : al M a g s t = true ↔ g s = g t ∧ ∀ l, l < a → g (sq M s l) = g (sq M t l) := by
  unfold al
  rw [Bool.and_eq_true, beq_iff_eq, Bool.not_eq_true']
  constructor
  · rintro ⟨h1, h2⟩
    refine ⟨h1, fun l hl => ?_⟩
    by_cases z : g (sq M s l) = g (sq M t l)
    · exact z
    · have := (orL_d (p := fun l => !(g (sq M s l) == g (sq M t l))) (n := a)).mpr ⟨l, hl, by rw [beq_eq_false_iff_ne.mpr z]; rfl⟩
      rw [h2] at this
      cases this
  · rintro ⟨h1, h2⟩
    refine ⟨h1, ?_⟩
    cases e : orL (fun l => !(g (sq M s l) == g (sq M t l))) a with
    | false => rfl
    | true =>
      obtain ⟨l, l1, l2⟩ := orL_d.mp e
      rw [h2 l l1, beq_self_eq_true] at l2
      cases l2
theorem al_y {M : MC} {a s t : Nat} {g : Nat → Nat} (h : al M a g s t = true) : al M a g t s = true := by
  obtain ⟨h1, h2⟩ := al_d.mp h
  exact al_d.mpr ⟨h1.symm, fun l hl => (h2 l hl).symm⟩
theorem al_t {M : MC} {a s t u : Nat} {g : Nat → Nat} (h : al M a g s t = true) (h' : al M a g t u = true) : al M a g s u = true := by
  obtain ⟨h1, h2⟩ := al_d.mp h
  obtain ⟨g1, g2⟩ := al_d.mp h'
  exact al_d.mpr ⟨h1.trans g1, fun l hl => (h2 l hl).trans (g2 l hl)⟩
theorem sp_alike {d m a s t : Nat} {st : St} {M : MC} {g : Nat → Nat} {Q : Rn} (hM : MCm st m M) (hm : m ≤ 4) (hW : MW a M) (ha : a ≤ 4) (hl : st 99 2 = a) (hg : ∀ i, i ≤ M.1 → st 137 i = (g i : Nat)) (hs : s ≤ M.1) (ht : t ≤ M.1) (hq : Q (vi (if al M a g s t then 1 else 0)) st) : MS (d + 3) 135 [vr 99, vi m, vi s, vi t] st Q := by
  have k0 : kl 99 = 12 := rfl
  have k37 : kl 137 = 50 := rfl
  have l37 : len 137 = 201 := rfl
  have hN := hM.2.1
  have e1 := hg s hs
  have e2 := hg t ht
  have key : ∀ mm l : Nat, l + mm = a → g s = g t → (∀ j, j < l → g (sq M s j) = g (sq M t j)) → AW (P 135) Q (MS (d + 2)) 0 (fun _ => 0) 3 [vr 99, vi m, vi s, vi t, vi l] [] st := by
    intro mm
    induction mm with
    | zero =>
      intro l g1 g2 g3
      have : l = a := by omega
      subst this
      rw [if_pos (al_d.mpr ⟨g2, g3⟩)] at hq
      rw [awu 135 3]
      try simp only [awu 135 7, pe135, xs, i_load, i_loadR, i_inc, lg, lp, true_and, and_true, List.length_cons, List.length_nil, Nat.reduceAdd, Nat.reduceLeDiff, Nat.zero_le, Int.toNat_natCast, natLit, k0, hl, ok01_1]
      exact ⟨fun _ => hq, fun h => absurd (Int.le_refl _) h⟩
    | succ mm ih =>
      intro l g1 g2 g3
      have wl' : Unit → wr ((l : Int) + 1) = ((l + 1 : Nat) : Int) := fun _ => by rw [wr_id (by omega) (by omega)]; omega
      have b1 := sq_b (s := s) hW (show l < a by omega) ha
      have b2 := sq_b (s := t) hW (show l < a by omega) ha
      have x1 := hg _ b1
      have x2 := hg _ b2
      rw [awu 135 3]
      try simp only [awu 135 4, pe135, xs, i_load, i_loadR, i_inc, lg, lp, true_and, and_true, List.length_cons, List.length_nil, Nat.reduceAdd, Nat.reduceLeDiff, Nat.zero_le, Int.toNat_natCast, natLit, k0, hl]
      refine ⟨fun h => by omega, fun _ => ?_⟩
      refine sp_stepOf hM hm hW ha hs (show l < a by omega) ?_
      dsimp only
      try simp only [awu 135 4, pe135, xs, i_load, i_loadR, i_inc, lg, lp, true_and, and_true, List.length_cons, List.length_nil, Nat.reduceAdd, Nat.reduceLeDiff, Nat.zero_le, Int.toNat_natCast, natLit, k0, k37, l37, x1]
      refine ⟨by omega, ?_⟩
      refine sp_stepOf hM hm hW ha ht (show l < a by omega) ?_
      dsimp only
      try simp only [awu 135 4, awu 135 5, awu 135 6, pe135, xs, i_load, i_loadR, i_inc, lg, lp, true_and, and_true, List.length_cons, List.length_nil, Nat.reduceAdd, Nat.reduceLeDiff, Nat.zero_le, Int.toNat_natCast, natLit, k0, k37, l37, x2, wl' (), ok01_0]
      refine ⟨by omega, fun h => ih (l + 1) (by omega) g2 (fun j hj => ?_), fun h => ?_⟩
      · by_cases z : j = l
        · rw [z]
          omega
        · exact g3 j (by omega)
      · rw [if_neg (fun h' => h (by rw [(al_d.mp h').2 l (by omega)]))] at hq
        exact hq
  refine MS_v [vr 99, vi m, vi s, vi t, none] rfl rfl rfl rfl ?_
  try simp only [awu 135 0, awu 135 1, awu 135 2, pe135, xs, i_load, i_loadR, i_inc, lg, lp, true_and, and_true, List.length_cons, List.length_nil, Nat.reduceAdd, Nat.reduceLeDiff, Nat.zero_le, Int.toNat_natCast, natLit, k0, k37, l37, e1, e2, ok01_0]
  refine ⟨by omega, by omega, fun h => key a 0 (by omega) (by omega) (fun j hj => by omega), fun h => ?_⟩
  rw [if_neg (fun h' => h (by rw [(al_d.mp h').1]))] at hq
  exact hq
theorem isF_congr {C : Nat → Bool} {k k' : Nat → Nat} {n : Nat} (h : ∀ i, i < n → C i = true → k' i = k i) : ∀ s, s < n → isF C k' s = isF C k s := by
  intro s hs
  cases e : isF C k s with
  | true =>
    obtain ⟨h1, h2⟩ := isF_d.mp e
    exact isF_d.mpr ⟨h1, fun t ht hc e' => h2 t ht hc (by rw [← h t (by omega) hc, ← h s hs h1]; exact e')⟩
  | false =>
    cases e2 : isF C k' s with
    | false => rfl
    | true =>
      obtain ⟨h1, h2⟩ := isF_d.mp e2
      have := isF_d.mpr ⟨h1, fun t ht hc e' => h2 t ht hc (by rw [h t (by omega) hc, h s hs h1]; exact e')⟩
      rw [e] at this
      cases this
def FrS3 (st st' : St) : Prop := ∀ q, q ≠ 137 → q ≠ 138 → st' q = st q
def LI (M : MC) (a : Nat) (g : Nat → Nat) : Prop := (∀ s t, s ≤ M.1 → t ≤ M.1 → rcB M a (gx M s) = true → rcB M a (gx M t) = true → Nq M a (gx M s) (gx M t) → g s = g t) ∧ ∀ s t, s ≤ M.1 → t ≤ M.1 → rcB M a (gx M s) = true → rcB M a (gx M t) = true → g s = g t → inM M (gx M s) = inM M (gx M t)
def Stb (M : MC) (a : Nat) (g : Nat → Nat) : Prop := ∀ s t, s ≤ M.1 → t ≤ M.1 → rcB M a (gx M s) = true → rcB M a (gx M t) = true → g s = g t → ∀ l, l < a → g (sq M s l) = g (sq M t l)
def KM (M : MC) (a c : Nat) (g : Nat → Nat) : Prop := (∀ s t, s ≤ M.1 → t ≤ M.1 → rcB M a (gx M s) = true → rcB M a (gx M t) = true → (g s = g t ↔ Nq M a (gx M s) (gx M t))) ∧ (∀ s, s ≤ M.1 → rcB M a (gx M s) = true → g s < c) ∧ c = cn (isF (fun i => rcB M a (gx M i)) g) (M.1 + 1)
theorem rc_sq {M : MC} {a s l : Nat} (hW : MW a M) (ha : a ≤ 4) (hl : l < a) (h : rcB M a (gx M s) = true) : rcB M a (gx M (sq M s l)) = true := by
  rw [rcB_d] at h ⊢
  rw [sq_x hW hl ha]
  exact Rc_s h hl
theorem KM_of {M : MC} {a c : Nat} {g : Nat → Nat} (hW : MW a M) (ha : a ≤ 4) (h : LI M a g) (hs : Stb M a g) (h2 : ∀ s, s ≤ M.1 → rcB M a (gx M s) = true → g s < c) (h3 : c = cn (isF (fun i => rcB M a (gx M i)) g) (M.1 + 1)) : KM M a c g := by
  refine ⟨fun s t h1 h2 c1 c2 => ⟨fun e x hx => ?_, h.1 s t h1 h2 c1 c2⟩, h2, h3⟩
  exact Nq_of (n := M.1 + 1) (C := fun i => rcB M a (gx M i)) (z := gx M) (k := g) (dl := sq M) (fun s l hs hc hl => ⟨by have := sq_b (s := s) hW hl ha; omega, rc_sq hW ha hl hc, sq_x hW hl ha⟩) (fun s t h1 h2 c1 c2 e => h.2 s t (by omega) (by omega) c1 c2 e) (fun s t l h1 h2 c1 c2 hl e => hs s t (by omega) (by omega) c1 c2 e l hl) x hx (by omega) (by omega) c1 c2 e
theorem KM_NC {M : MC} {a c : Nat} {g : Nat → Nat} (hW : MW a M) (ha : a ≤ 4) (m0 : 0 < M.1) (h : KM M a c g) : NCp M a c := by
  refine ⟨M.1 + 1, fun i => rcB M a (gx M i), gx M, g, fun i hi hc => rcB_d.mp hc, fun s hs => ?_, fun i j hi hj c1 c2 => h.1 i j (by omega) (by omega) c1 c2, h.2.2⟩
  rcases Rc_b hW ha m0 hs with z | z
  · refine ⟨M.1, by omega, ?_, ?_⟩
    · show rcB M a (gx M M.1) = true
      rw [gx_N, rcB_d, ← z]
      exact hs
    · rw [gx_N, z]
  · obtain ⟨i, rfl⟩ : ∃ i : Nat, s = i := ⟨s.toNat, by omega⟩
    refine ⟨i, by omega, ?_, ?_⟩
    · show rcB M a (gx M i) = true
      rw [gx_s (by omega), rcB_d]
      exact hs
    · rw [gx_s (by omega)]
set_option maxHeartbeats 2000000 in
theorem sp_laySorts {d m a : Nat} {st : St} {M : MC} {Q : Rn} (hM : MCm st m M) (hm : m ≤ 4) (hW : MW a M) (ha : a ≤ 4) (h0 : 0 < M.1) (hl : st 99 2 = a)
    (hq : ∀ (st' : St) (g : Nat → Nat) (c : Nat), (∀ i, i ≤ M.1 → st' 137 i = (g i : Nat)) → KM M a c g → (∀ q, q ≠ 136 → q ≠ 137 → q ≠ 138 → st' q = st q) → Q (vi (c : Nat)) st') : MS (d + 4) 136 [vr 99, vi m] st Q := by
  have k0 : kl 99 = 12 := rfl
  have k19 : kl 119 = 50 := rfl
  have l19 : len 119 = 5 := rfl
  have k36 : kl 136 = 52 := rfl
  have l36 : len 136 = 201 := rfl
  have k37 : kl 137 = 50 := rfl
  have l37 : len 137 = 201 := rfl
  have k38 : kl 138 = 50 := rfl
  have l38 : len 138 = 201 := rfl
  have hN := hM.2.1
  refine MS_v [vr 99, vi m, none, none, none, none, none] rfl rfl rfl rfl ?_
  try simp only [awu 136 0, pe136, xs, i_load, i_loadR, i_inc, lg, lp, true_and, and_true, List.length_cons, List.length_nil, Nat.reduceAdd, Nat.reduceLeDiff, Nat.zero_le, Int.toNat_natCast, natLit, k0]
  refine sp_layCome hM hm hW ha h0 hl (fun s1 c1 f1 => ?_)
  dsimp only
  have fr : ∀ s2 : St, FrS3 s1 s2 → MCm s2 m M ∧ s2 99 2 = a ∧ ∀ s, s ≤ M.1 → s2 136 s = if rcB M a (gx M s) then 1 else 0 := fun s2 h => ⟨MCm_congr hM (by rw [h 119 (by decide) (by decide), f1 119 (by decide)]) (fun i _ _ => by rw [h 120 (by decide) (by decide), f1 120 (by decide)]) (fun i _ _ => by rw [h 121 (by decide) (by decide), f1 121 (by decide)]), by rw [h 99 (by decide) (by decide), f1 99 (by decide)]; exact hl, fun s hs => by rw [h 136 (by decide) (by decide)]; exact c1 s hs⟩
  have e19 : s1 119 m = (M.1 : Nat) := by rw [f1 119 (by decide)]; exact hM.1
  have rc0 : rcB M a (gx M 0) = true := by rw [gx_s h0, rcB_d]; exact Rc_0
  generalize hC : (fun i => rcB M a (gx M i)) = C at *
  have eC : ∀ i, rcB M a (gx M i) = C i := fun i => by rw [← hC]
  have fin : ∀ (s2 : St) (g : Nat → Nat) (c : Nat) (u5 u6 : V), FrS3 s1 s2 → (∀ i, i ≤ M.1 → s2 137 i = (g i : Nat)) → LI M a g → Stb M a g → (∀ s, s ≤ M.1 → rcB M a (gx M s) = true → g s < c) → c = cn (isF C g) (M.1 + 1) → AW (P 136) Q (MS (d + 3)) 0 (fun _ => 0) 8 [vr 99, vi m, vi (M.1 : Nat), vi c, vi c, u5, u6] [] s2 := by
    intro s2 g c u5 u6 g1 g2 g3 g4 g5 g6
    have hKM : KM M a c g := KM_of hW ha g3 g4 g5 (by rw [hC]; exact g6)
    rw [awu 136 8]
    try simp only [awu 136 30, pe136, xs, i_load, i_loadR, i_inc, lg, lp, true_and, and_true, List.length_cons, List.length_nil, Nat.reduceAdd, Nat.reduceLeDiff, Nat.zero_le, Int.toNat_natCast, natLit, k0]
    exact ⟨fun _ => hq s2 g c g2 hKM (fun q q1 q2 q3 => by rw [g1 q q2 q3, f1 q q1]), fun h => absurd (by trivial) h⟩
  have loop : ∀ f : Nat, ∀ (s2 : St) (g : Nat → Nat) (c was : Nat) (u5 u6 : V), M.1 + 2 ≤ c + f → c ≤ M.1 + 1 → was ≠ c → FrS3 s1 s2 → (∀ i, i ≤ M.1 → s2 137 i = (g i : Nat)) → LI M a g → (c = 1 ∨ (c = cn (isF C g) (M.1 + 1) ∧ (∀ s, s ≤ M.1 → rcB M a (gx M s) = true → g s < c))) → AW (P 136) Q (MS (d + 3)) 0 (fun _ => 0) 8 [vr 99, vi m, vi (M.1 : Nat), vi was, vi c, u5, u6] [] s2 := by
    intro f
    induction f with
    | zero => intro s2 g c was u5 u6 g1 g2; omega
    | succ f ih =>
      intro s2 g c was u5 u6 g1 g2 gne g3 g4 g5 g6
      have nxt : ∀ (s3 : St) (g' : Nat → Nat) (c' : Nat) (u5 u6 : V), FrS3 s1 s3 → (∀ i, i ≤ M.1 → s3 137 i = (g' i : Nat)) → (∀ i j, i ≤ M.1 → j ≤ M.1 → C i = true → C j = true → (g' i = g' j ↔ al M a g i j = true)) → (∀ i, i ≤ M.1 → C i = true → g' i < c') → c' = cn (isF C g') (M.1 + 1) → AW (P 136) Q (MS (d + 3)) 0 (fun _ => 0) 8 [vr 99, vi m, vi (M.1 : Nat), vi c, vi c', u5, u6] [] s3 := by
        intro s3 g' c' u5 u6 x2 x4 x5 x6 x7
        have hcle := cn_le (p := isF C g') (M.1 + 1)
        have C0 : C 0 = true := by rw [← eC]; exact rc0
        have hc'0 := x6 0 (by omega) C0
        have hLI : LI M a g' := by
          refine ⟨fun i j hi hj ci cj e => ?_, fun i j hi hj ci cj e => ?_⟩
          · refine (x5 i j hi hj (by rw [← eC]; exact ci) (by rw [← eC]; exact cj)).mpr (al_d.mpr ⟨g5.1 i j hi hj ci cj e, fun l hl => ?_⟩)
            refine g5.1 _ _ (sq_b hW hl ha) (sq_b hW hl ha) (rc_sq hW ha hl ci) (rc_sq hW ha hl cj) ?_
            rw [sq_x hW hl ha, sq_x hW hl ha]
            exact Nq_s hl e
          · have := (x5 i j hi hj (by rw [← eC]; exact ci) (by rw [← eC]; exact cj)).mp e
            exact g5.2 i j hi hj ci cj (al_d.mp this).1
        have hlt : ∀ s, s ≤ M.1 → rcB M a (gx M s) = true → g' s < c' := fun s hs hc => x6 s hs (by rw [← eC]; exact hc)
        have step : c < c' → AW (P 136) Q (MS (d + 3)) 0 (fun _ => 0) 8 [vr 99, vi m, vi (M.1 : Nat), vi c, vi c', u5, u6] [] s3 := fun h => ih s3 g' c' c u5 u6 (by omega) (by omega) (by omega) x2 x4 hLI (Or.inr ⟨x7, hlt⟩)
        have same : c' = c → Stb M a g' → AW (P 136) Q (MS (d + 3)) 0 (fun _ => 0) 8 [vr 99, vi m, vi (M.1 : Nat), vi c, vi c', u5, u6] [] s3 := fun h hst => by
          subst h
          exact fin s3 g' c' u5 u6 x2 x4 hLI hst hlt x7
        rcases g6 with z | ⟨z1, z2⟩
        · by_cases e : c' = c
          · refine same e (fun s t hs ht cs ct _ l hl => ?_)
            have a1 := hlt _ (sq_b (s := s) hW hl ha) (rc_sq hW ha hl cs)
            have a2 := hlt _ (sq_b (s := t) hW hl ha) (rc_sq hW ha hl ct)
            omega
          · exact step (by omega)
        · have hr : ∀ s t, s < M.1 + 1 → t < M.1 + 1 → C s = true → C t = true → g' s = g' t → g s = g t := fun s t hs ht cs ct e => (al_d.mp ((x5 s t (by omega) (by omega) cs ct).mp e)).1
          have hge := isF_le hr
          by_cases e : c' = c
          · have heq := isF_eq hr (by omega)
            refine same e (fun s t hs ht cs ct e l hl => ?_)
            have := (al_d.mp ((x5 s t hs ht (by rw [← eC]; exact cs) (by rw [← eC]; exact ct)).mp e)).2 l hl
            have b1 := sq_b (s := s) hW hl ha
            have b2 := sq_b (s := t) hW hl ha
            exact heq _ _ (by omega) (by omega) (by rw [← eC]; exact rc_sq hW ha hl cs) (by rw [← eC]; exact rc_sq hW ha hl ct) this
          · exact step (by omega)
      have copy : ∀ mm s : Nat, ∀ (s3 : St) (g' : Nat → Nat) (c' : Nat) (u6 : V), s + mm = M.1 + 1 → FrS3 s1 s3 → (∀ i, i ≤ M.1 → C i = true → s3 138 i = (g' i : Nat)) → (∀ i, i ≤ M.1 → s3 137 i = ((if i < s ∧ C i = true then g' i else g i : Nat) : Int)) → (∀ i j, i ≤ M.1 → j ≤ M.1 → C i = true → C j = true → (g' i = g' j ↔ al M a g i j = true)) → (∀ i, i ≤ M.1 → C i = true → g' i < c') → c' = cn (isF C g') (M.1 + 1) → AW (P 136) Q (MS (d + 3)) 0 (fun _ => 0) 25 [vr 99, vi m, vi (M.1 : Nat), vi c, vi c', vi s, u6] [] s3 := by
        intro mm
        induction mm with
        | zero =>
          intro s s3 g' c' u6 x1 x2 x3 x4 x5 x6 x7
          have hgg : ∀ i, i < M.1 + 1 → C i = true → (fun i => if i < s ∧ C i = true then g' i else g i) i = g' i := fun i hi hc => by
            show (if i < s ∧ C i = true then g' i else g i) = g' i
            rw [if_pos ⟨by omega, hc⟩]
          rw [awu 136 25]
          try simp only [awu 136 29, pe136, xs, i_load, i_loadR, i_inc, lg, lp, true_and, and_true, List.length_cons, List.length_nil, Nat.reduceAdd, Nat.reduceLeDiff, Nat.zero_le, Int.toNat_natCast, natLit, k0]
          refine ⟨fun _ => nxt s3 (fun i => if i < s ∧ C i = true then g' i else g i) c' _ _ x2 (fun i hi => x4 i hi) (fun i j hi hj ci cj => ?_) (fun i hi ci => ?_) ?_, fun h => absurd (by omega) h⟩
          · rw [if_pos ⟨by omega, ci⟩, if_pos ⟨by omega, cj⟩]
            exact x5 i j hi hj ci cj
          · rw [if_pos ⟨by omega, ci⟩]
            exact x6 i hi ci
          · rw [x7]
            exact (cn_congr (isF_congr hgg)).symm
        | succ mm ihc =>
          intro s s3 g' c' u6 x1 x2 x3 x4 x5 x6 x7
          have ws : Unit → wr ((s : Int) + 1) = ((s + 1 : Nat) : Int) := fun _ => by rw [wr_id (by omega) (by omega)]; omega
          have e36 := (fr s3 x2).2.2 s (by omega)
          rw [eC] at e36
          by_cases hCs : C s = true
          · rw [if_pos hCs] at e36
            have e38 := x3 s (by omega) hCs
            rw [awu 136 25]
            try simp only [awu 136 26, awu 136 27, awu 136 28, pe136, xs, i_load, i_loadR, i_inc, lg, lp, true_and, and_true, List.length_cons, List.length_nil, Nat.reduceAdd, Nat.reduceLeDiff, Nat.zero_le, Int.toNat_natCast, natLit, k0, k36, l36, e36, k37, l37, k38, l38, e38, ws ()]
            refine ⟨fun h => by omega, fun _ => ⟨by omega, fun h => absurd h (by decide), fun _ => ⟨by omega, by omega, ?_⟩⟩⟩
            refine ihc (s + 1) _ g' c' _ (by omega) (fun q q1 q2 => by rw [up2_ne q1]; exact x2 q q1 q2) (fun i hi hc => by rw [up2_ne (by decide)]; exact x3 i hi hc) (fun i hi => ?_) x5 x6 x7
            rw [up2_self]
            by_cases z : i = s
            · rw [z, upf_s, if_pos ⟨by omega, hCs⟩]
            · rw [upf_n z, x4 i hi]
              by_cases zz : i < s ∧ C i = true
              · rw [if_pos zz, if_pos ⟨by omega, zz.2⟩]
              · rw [if_neg zz, if_neg (fun h => zz ⟨by omega, h.2⟩)]
          · rw [if_neg hCs] at e36
            rw [awu 136 25]
            try simp only [awu 136 26, awu 136 28, pe136, xs, i_load, i_loadR, i_inc, lg, lp, true_and, and_true, List.length_cons, List.length_nil, Nat.reduceAdd, Nat.reduceLeDiff, Nat.zero_le, Int.toNat_natCast, natLit, k0, k36, l36, e36, ws ()]
            refine ⟨fun h => by omega, fun _ => ⟨by omega, fun _ => ?_, fun h => absurd (by trivial) h⟩⟩
            refine ihc (s + 1) s3 g' c' _ (by omega) x2 x3 (fun i hi => ?_) x5 x6 x7
            rw [x4 i hi]
            by_cases zz : i < s ∧ C i = true
            · rw [if_pos zz, if_pos ⟨by omega, zz.2⟩]
            · rw [if_neg zz, if_neg (fun h => zz ⟨by
                by_cases z : i = s
                · rw [z] at h
                  exact absurd h.2 hCs
                · omega, h.2⟩)]
      have numb : ∀ mm s : Nat, ∀ (s3 : St) (g' : Nat → Nat) (c' : Nat) (u6 : V), s + mm = M.1 + 1 → FrS3 s1 s3 → (∀ i, i ≤ M.1 → s3 137 i = (g i : Nat)) → (∀ i, i < s → C i = true → s3 138 i = (g' i : Nat)) → (∀ i j, i < s → j < s → C i = true → C j = true → (g' i = g' j ↔ al M a g i j = true)) → (∀ i, i < s → C i = true → g' i < c') → c' = cn (isF C g') s → AW (P 136) Q (MS (d + 3)) 0 (fun _ => 0) 10 [vr 99, vi m, vi (M.1 : Nat), vi c, vi c', vi s, u6] [] s3 := by
        intro mm
        induction mm with
        | zero =>
          intro s s3 g' c' u6 x1 x2 x3 x4 x5 x6 x7
          have : s = M.1 + 1 := by omega
          subst this
          rw [awu 136 10]
          try simp only [awu 136 24, pe136, xs, i_load, i_loadR, i_inc, lg, lp, true_and, and_true, List.length_cons, List.length_nil, Nat.reduceAdd, Nat.reduceLeDiff, Nat.zero_le, Int.toNat_natCast, natLit, k0]
          refine ⟨fun _ => copy (M.1 + 1) 0 s3 g' c' _ (by omega) x2 (fun i hi => x4 i (by omega)) (fun i hi => ?_) (fun i j hi hj => x5 i j (by omega) (by omega)) (fun i hi => x6 i (by omega)) x7, fun h => absurd (by omega) h⟩
          rw [if_neg (fun h => by omega)]
          exact x3 i hi
        | succ mm ihn =>
          intro s s3 g' c' u6 x1 x2 x3 x4 x5 x6 x7
          have ws : Unit → wr ((s : Int) + 1) = ((s + 1 : Nat) : Int) := fun _ => by rw [wr_id (by omega) (by omega)]; omega
          obtain ⟨f2, f3, f4⟩ := fr s3 x2
          have e36 := f4 s (by omega)
          rw [eC] at e36
          have hcs := cn_le (p := isF C g') s
          by_cases hCs : C s = true
          · rw [if_pos hCs] at e36
            have hcg : ∀ v, cn (isF C (updN g' s v)) s = cn (isF C g') s := fun v => cn_congr (isF_congr (fun i hi _ => by rw [updN_at, if_neg (by omega)]))
            -- it is put
            have put : ∀ (t : Nat) (v : Nat) (w : Nat), (t = s ∧ v = c' ∧ w = c' + 1 ∧ (∀ i, i < s → C i = true → al M a g s i = false)) ∨ (t < s ∧ v = g' t ∧ w = c' ∧ C t = true ∧ al M a g s t = true) → AW (P 136) Q (MS (d + 3)) 0 (fun _ => 0) 21 [vr 99, vi m, vi (M.1 : Nat), vi c, vi c', vi s, vi t] [vi v, vi s, vr 138] s3 := by
              intro t v w htv
              have fin2 : ∀ u6, AW (P 136) Q (MS (d + 3)) 0 (fun _ => 0) 10 [vr 99, vi m, vi (M.1 : Nat), vi c, vi w, vi (s + 1 : Nat), u6] [] (up2 s3 138 s (v : Int)) := by
                intro u6
                refine ihn (s + 1) _ (updN g' s v) w u6 (by omega) (fun q q1 q2 => by rw [up2_ne q2]; exact x2 q q1 q2) (fun i hi => by rw [up2_ne (by decide)]; exact x3 i hi) (fun i hi hc => ?_) (fun i j hi hj ci cj => ?_) (fun i hi ci => ?_) ?_
                · rw [up2_self, updN_at]
                  by_cases z : i = s
                  · rw [z, upf_s, if_pos rfl]
                  · rw [upf_n z, if_neg z]
                    exact x4 i (by omega) hc
                · rw [updN_at, updN_at]
                  have main : ∀ i, i < s → C i = true → (g' i = v ↔ al M a g i s = true) := by
                    intro i hi ci
                    rcases htv with ⟨e1, e2, e3, e4⟩ | ⟨e1, e2, e3, e4, e5⟩
                    · have := x6 i hi ci
                      constructor
                      · intro e
                        omega
                      · intro h
                        have h' := e4 i hi ci
                        rw [al_y h] at h'
                        cases h'
                    · rw [e2, x5 i t hi e1 ci e4]
                      exact ⟨fun h => al_t h (al_y e5), fun h => al_t h e5⟩
                  by_cases zi : i = s
                  · by_cases zj : j = s
                    · rw [if_pos zi, if_pos zj, zi, zj]
                      exact ⟨fun _ => al_d.mpr ⟨rfl, fun _ _ => rfl⟩, fun _ => rfl⟩
                    · rw [if_pos zi, if_neg zj, zi]
                      have := main j (by omega) cj
                      exact ⟨fun e => al_y (this.mp e.symm), fun e => (this.mpr (al_y e)).symm⟩
                  · by_cases zj : j = s
                    · rw [if_neg zi, if_pos zj, zj]
                      exact main i (by omega) ci
                    · rw [if_neg zi, if_neg zj]
                      exact x5 i j (by omega) (by omega) ci cj
                · rw [updN_at]
                  by_cases zi : i = s
                  · rw [if_pos zi]
                    rcases htv with ⟨e1, e2, e3, e4⟩ | ⟨e1, e2, e3, e4, e5⟩
                    · omega
                    · have := x6 t e1 e4
                      omega
                  · rw [if_neg zi]
                    have := x6 i (by omega) ci
                    rcases htv with ⟨e1, e2, e3, e4⟩ | ⟨e1, e2, e3, e4, e5⟩ <;> omega
                · rw [cn_s, hcg]
                  rcases htv with ⟨e1, e2, e3, e4⟩ | ⟨e1, e2, e3, e4, e5⟩
                  · rw [if_pos]
                    · omega
                    · refine isF_d.mpr ⟨hCs, fun i hi ci => ?_⟩
                      rw [updN_at, updN_at, if_neg (by omega), if_pos rfl]
                      have := x6 i hi ci
                      omega
                  · rw [if_neg]
                    · omega
                    · intro h
                      refine (isF_d.mp h).2 t e1 e4 ?_
                      rw [updN_at, updN_at, if_neg (by omega), if_pos rfl, e2]
              rw [awu 136 21]
              rcases htv with ⟨e1, e2, e3, e4⟩ | ⟨e1, e2, e3, e4, e5⟩
              · have wc : Unit → wr ((c' : Int) + 1) = ((w : Nat) : Int) := fun _ => by rw [wr_id (by omega) (by omega)]; omega
                try simp only [awu 136 21, awu 136 22, awu 136 23, pe136, xs, i_load, i_loadR, i_inc, lg, lp, true_and, and_true, List.length_cons, List.length_nil, Nat.reduceAdd, Nat.reduceLeDiff, Nat.zero_le, Int.toNat_natCast, natLit, k0, k38, l38, wc (), ws ()]
                exact ⟨by omega, fun h => absurd (by omega) h, fun _ => fin2 _⟩
              · subst e3
                try simp only [awu 136 21, awu 136 23, pe136, xs, i_load, i_loadR, i_inc, lg, lp, true_and, and_true, List.length_cons, List.length_nil, Nat.reduceAdd, Nat.reduceLeDiff, Nat.zero_le, Int.toNat_natCast, natLit, k0, k38, l38, ws ()]
                exact ⟨by omega, fun _ => fin2 _, fun h => absurd (by omega) h⟩
            have find : ∀ mm t : Nat, t + mm = s → (∀ i, i < t → C i = true → al M a g s i = false) → AW (P 136) Q (MS (d + 3)) 0 (fun _ => 0) 14 [vr 99, vi m, vi (M.1 : Nat), vi c, vi c', vi s, vi t] [] s3 := by
              intro mm
              induction mm with
              | zero =>
                intro t y1 y2
                have : t = s := by omega
                subst this
                rw [awu 136 14]
                try simp only [awu 136 18, awu 136 20, pe136, xs, i_load, i_loadR, i_inc, lg, lp, true_and, and_true, List.length_cons, List.length_nil, Nat.reduceAdd, Nat.reduceLeDiff, Nat.zero_le, Int.toNat_natCast, natLit, k0]
                exact ⟨fun _ => ⟨fun _ => put t c' (c' + 1) (Or.inl ⟨rfl, rfl, rfl, y2⟩), fun h => absurd (Int.le_refl _) h⟩, fun h => absurd (Int.le_refl _) h⟩
              | succ mm ihf =>
                intro t y1 y2
                have wt : Unit → wr ((t : Int) + 1) = ((t + 1 : Nat) : Int) := fun _ => by rw [wr_id (by omega) (by omega)]; omega
                have t36 := f4 t (by omega)
                rw [eC] at t36
                by_cases hCt : C t = true
                · rw [if_pos hCt] at t36
                  have e38 := x4 t (by omega) hCt
                  rw [awu 136 14]
                  try simp only [awu 136 15, awu 136 16, pe136, xs, i_load, i_loadR, i_inc, lg, lp, true_and, and_true, List.length_cons, List.length_nil, Nat.reduceAdd, Nat.reduceLeDiff, Nat.zero_le, Int.toNat_natCast, natLit, k0, k36, l36, t36]
                  refine ⟨fun h => by omega, fun _ => ⟨by omega, fun h => absurd h (by decide), fun _ => ?_⟩⟩
                  refine sp_alike f2 hm hW ha f3 x3 (show s ≤ M.1 by omega) (show t ≤ M.1 by omega) ?_
                  dsimp only
                  by_cases hal : al M a g s t = true
                  · rw [if_pos hal]
                    try simp only [awu 136 16, awu 136 18, awu 136 19, pe136, xs, i_load, i_loadR, i_inc, lg, lp, true_and, and_true, List.length_cons, List.length_nil, Nat.reduceAdd, Nat.reduceLeDiff, Nat.zero_le, Int.toNat_natCast, natLit, k0, k38, l38, e38]
                    exact ⟨fun _ => ⟨fun h => by omega, fun _ => ⟨by omega, put t (g' t) c' (Or.inr ⟨by omega, rfl, rfl, hCt, hal⟩)⟩⟩, fun h => absurd (by decide) h⟩
                  · rw [if_neg hal]
                    try simp only [awu 136 16, awu 136 17, pe136, xs, i_load, i_loadR, i_inc, lg, lp, true_and, and_true, List.length_cons, List.length_nil, Nat.reduceAdd, Nat.reduceLeDiff, Nat.zero_le, Int.toNat_natCast, natLit, k0, wt ()]
                    refine ⟨fun h => absurd (by trivial) h, fun _ => ihf (t + 1) (by omega) (fun i hi ci => ?_)⟩
                    by_cases z : i = t
                    · rw [z]
                      simpa using hal
                    · exact y2 i (by omega) ci
                · rw [if_neg hCt] at t36
                  rw [awu 136 14]
                  try simp only [awu 136 15, awu 136 17, pe136, xs, i_load, i_loadR, i_inc, lg, lp, true_and, and_true, List.length_cons, List.length_nil, Nat.reduceAdd, Nat.reduceLeDiff, Nat.zero_le, Int.toNat_natCast, natLit, k0, k36, l36, t36, wt ()]
                  refine ⟨fun h => by omega, fun _ => ⟨by omega, fun _ => ihf (t + 1) (by omega) (fun i hi ci => ?_), fun h => absurd (by trivial) h⟩⟩
                  by_cases z : i = t
                  · rw [z] at ci
                    exact absurd ci hCt
                  · exact y2 i (by omega) ci
            rw [awu 136 10]
            try simp only [awu 136 11, awu 136 13, pe136, xs, i_load, i_loadR, i_inc, lg, lp, true_and, and_true, List.length_cons, List.length_nil, Nat.reduceAdd, Nat.reduceLeDiff, Nat.zero_le, Int.toNat_natCast, natLit, k0, k36, l36, e36]
            exact ⟨fun h => by omega, fun _ => ⟨by omega, fun _ => find s 0 (by omega) (fun i hi => by omega), fun h => absurd (by decide) h⟩⟩
          · rw [if_neg hCs] at e36
            have hF : ¬ isF C g' s = true := fun h => hCs (isF_d.mp h).1
            rw [awu 136 10]
            try simp only [awu 136 11, awu 136 12, awu 136 23, pe136, xs, i_load, i_loadR, i_inc, lg, lp, true_and, and_true, List.length_cons, List.length_nil, Nat.reduceAdd, Nat.reduceLeDiff, Nat.zero_le, Int.toNat_natCast, natLit, k0, k36, l36, e36, ws ()]
            refine ⟨fun h => by omega, fun _ => ⟨by omega, fun h => absurd (by trivial) h, fun _ => ihn (s + 1) s3 g' c' _ (by omega) x2 x3 (fun i hi ci => ?_) (fun i j hi hj ci cj => ?_) (fun i hi ci => ?_) (by rw [cn_s, if_neg hF]; exact x7)⟩⟩
            · by_cases z : i = s
              · rw [z] at ci
                exact absurd ci hCs
              · exact x4 i (by omega) ci
            · by_cases z : i = s
              · rw [z] at ci
                exact absurd ci hCs
              · by_cases z2 : j = s
                · rw [z2] at cj
                  exact absurd cj hCs
                · exact x5 i j (by omega) (by omega) ci cj
            · by_cases z : i = s
              · rw [z] at ci
                exact absurd ci hCs
              · exact x6 i (by omega) ci
      rw [awu 136 8]
      try simp only [awu 136 9, pe136, xs, i_load, i_loadR, i_inc, lg, lp, true_and, and_true, List.length_cons, List.length_nil, Nat.reduceAdd, Nat.reduceLeDiff, Nat.zero_le, Int.toNat_natCast, natLit, k0]
      exact ⟨fun h => absurd (by omega) gne, fun _ => numb (M.1 + 1) 0 s2 (fun _ => 0) 0 _ (by omega) g3 g4 (fun i hi => by omega) (fun i j hi => by omega) (fun i hi => by omega) rfl⟩
  have fill : ∀ mm i : Nat, ∀ (s2 : St), i + mm = M.1 + 1 → FrS3 s1 s2 → (∀ s, s < i → s2 137 s = ((if inM M (gx M s) then 1 else 0 : Nat) : Int)) → AW (P 136) Q (MS (d + 3)) 0 (fun _ => 0) 1 [vr 99, vi m, vi (M.1 : Nat), vi i, none, none, none] [] s2 := by
    intro mm
    induction mm with
    | zero =>
      intro i s2 g1 g2 g3
      rw [awu 136 1]
      try simp only [awu 136 7, pe136, xs, i_load, i_loadR, i_inc, lg, lp, true_and, and_true, List.length_cons, List.length_nil, Nat.reduceAdd, Nat.reduceLeDiff, Nat.zero_le, Int.toNat_natCast, natLit, k0]
      refine ⟨fun _ => loop (M.1 + 1) s2 (fun s => if inM M (gx M s) then 1 else 0) 1 0 none none (by omega) (by omega) (by decide) g2 (fun i hi => g3 i (by omega)) ⟨fun s t hs ht _ _ e => ?_, fun s t hs ht _ _ e => ?_⟩ (Or.inl rfl), fun h => absurd (by omega) h⟩
      · show (if inM M (gx M s) then 1 else 0) = (if inM M (gx M t) then 1 else 0)
        rw [Nq_m e]
      · have e : (if inM M (gx M s) then 1 else 0) = (if inM M (gx M t) then 1 else 0) := e
        cases hx : inM M (gx M s) <;> cases hy : inM M (gx M t) <;> rw [hx, hy] at e <;> simp at e ⊢
    | succ mm ih =>
      intro i s2 g1 g2 g3
      have wk : Unit → wr ((i : Int) + 1) = ((i + 1 : Nat) : Int) := fun _ => by rw [wr_id (by omega) (by omega)]; omega
      have nx : ∀ v : Int, v = ((if inM M (gx M i) then 1 else 0 : Nat) : Int) → AW (P 136) Q (MS (d + 3)) 0 (fun _ => 0) 6 [vr 99, vi m, vi (M.1 : Nat), vi i, none, none, none] [vi v, vi i, vr 137] s2 := by
        intro v hv
        rw [awu 136 6]
        try simp only [awu 136 6, pe136, xs, i_load, i_loadR, i_inc, lg, lp, true_and, and_true, List.length_cons, List.length_nil, Nat.reduceAdd, Nat.reduceLeDiff, Nat.zero_le, Int.toNat_natCast, natLit, k0, k37, l37, wk ()]
        refine ⟨by omega, ih (i + 1) _ (by omega) (fun q q1 q2 => ?_) (fun s hs => ?_)⟩
        · rw [up2_ne q1]
          exact g2 q q1 q2
        · rw [up2_self]
          by_cases zs : s = i
          · rw [zs, upf_s]
            exact hv
          · rw [upf_n zs]
            exact g3 s (by omega)
      rw [awu 136 1]
      rcases Nat.lt_or_ge i M.1 with z | z
      · try simp only [awu 136 2, awu 136 3, pe136, xs, i_load, i_loadR, i_inc, lg, lp, true_and, and_true, List.length_cons, List.length_nil, Nat.reduceAdd, Nat.reduceLeDiff, Nat.zero_le, Int.toNat_natCast, natLit, k0]
        refine ⟨fun h => by omega, fun _ => ⟨fun h => by omega, fun _ => ?_⟩⟩
        refine sp_markOf (fr s2 g2).1 hm z ?_
        dsimp only
        rw [gx_s z, inM_s z] at nx
        try simp only [awu 136 3, awu 136 4, awu 136 5, pe136, xs, i_load, i_loadR, i_inc, lg, lp, true_and, and_true, List.length_cons, List.length_nil, Nat.reduceAdd, Nat.reduceLeDiff, Nat.zero_le, Int.toNat_natCast, natLit, k0]
        refine ⟨fun h => nx 0 (by rw [if_neg (by simpa using h)]; rfl), fun h => nx 1 (by rw [if_pos (by simpa using h)]; rfl)⟩
      · have : i = M.1 := by omega
        subst this
        rw [gx_N, inM_n] at nx
        try simp only [awu 136 2, awu 136 5, pe136, xs, i_load, i_loadR, i_inc, lg, lp, true_and, and_true, List.length_cons, List.length_nil, Nat.reduceAdd, Nat.reduceLeDiff, Nat.zero_le, Int.toNat_natCast, natLit, k0]
        exact ⟨fun h => by omega, fun _ => ⟨fun _ => nx 0 rfl, fun h => absurd (Int.le_refl _) h⟩⟩
  try simp only [awu 136 0, pe136, xs, i_load, i_loadR, i_inc, lg, lp, true_and, and_true, List.length_cons, List.length_nil, Nat.reduceAdd, Nat.reduceLeDiff, Nat.zero_le, Int.toNat_natCast, natLit, k0, k19, l19, e19]
  exact ⟨by omega, fill (M.1 + 1) 0 s1 (by omega) (fun _ _ _ => rfl) (fun s hs => by omega)⟩
