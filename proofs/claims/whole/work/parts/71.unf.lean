/-! what is one: the class -/
def UF (st : St) (Ld r t : Nat → Nat) (c : Nat) : Prop := (∀ k, k < 404 → st 96 k = (Ld k : Nat) ∧ Ld k < 404) ∧ (∀ k, k < 404 → r k < 404 ∧ Ld (r k) = r k ∧ r (Ld k) = r k ∧ (Ld k = k → r k = k)) ∧ (∀ k, k < 404 → (Ld k = k → t k = 404) ∧ (Ld k ≠ k → t k < c ∧ t k < t (Ld k))) ∧ cn (fun k => Ld k == k) 404 + c = 404
theorem sp_leadOf {d c s : Nat} {st : St} {Ld r t : Nat → Nat} {Q : Rn} (hU : UF st Ld r t c) (hs : s < 404)
    (hq : ∀ (st' : St) (Ld' : Nat → Nat), UF st' Ld' r t c → (∀ q, q ≠ 96 → st' q = st q) → Q (vi (r s : Nat)) st') : MS (d + 1) 212 [vr 87, vi s] st Q := by
  have k0 : kl 87 = 4 := rfl
  have k9 : kl 96 = 50 := rfl
  have l9 : len 96 = 404 := rfl
  have key : ∀ n k j : Nat, ∀ (s2 : St) (Ld : Nat → Nat), 404 ≤ t k + n → j ≤ t k → k < 404 → r k = r s → UF s2 Ld r t c → (∀ q, q ≠ 96 → s2 q = st q) → AW (P 212) Q (MS d) 0 (fun _ => 0) 1 [vr 87, vi s, vi k, vi j] [] s2 := by
    intro n
    induction n with
    | zero =>
      intro k j s2 Ld g1 g2 g3 g4 g5 g6
      have hroot : Ld k = k := by
        rcases Classical.em (Ld k = k) with z | z
        · exact z
        · have := (g5.2.2.1 k g3).2 z
          have := g5.2.2.2
          omega
      have e := (g5.1 k g3).1
      rw [hroot] at e
      have hr := (g5.2.1 k g3).2.2.2 hroot
      have fin : Q (vi (k : Nat)) s2 := by
        rw [← hr, g4]
        exact hq s2 Ld g5 g6
      rw [awu 212 1]
      try simp only [awu 212 2, awu 212 4, pe212, xs, i_load, i_loadR, i_inc, lg, lp, true_and, and_true, List.length_cons, List.length_nil, Nat.reduceAdd, Nat.reduceLeDiff, Nat.zero_le, Int.toNat_natCast, natLit, k0, k9, l9, e]
      exact ⟨fun _ => fin, fun _ => ⟨by omega, fun _ => fin, fun h => absurd (by trivial) h⟩⟩
    | succ n ih =>
      intro k j s2 Ld g1 g2 g3 g4 g5 g6
      by_cases hroot : Ld k = k
      · have e := (g5.1 k g3).1
        rw [hroot] at e
        have hr := (g5.2.1 k g3).2.2.2 hroot
        have fin : Q (vi (k : Nat)) s2 := by
          rw [← hr, g4]
          exact hq s2 Ld g5 g6
        rw [awu 212 1]
        try simp only [awu 212 2, awu 212 4, pe212, xs, i_load, i_loadR, i_inc, lg, lp, true_and, and_true, List.length_cons, List.length_nil, Nat.reduceAdd, Nat.reduceLeDiff, Nat.zero_le, Int.toNat_natCast, natLit, k0, k9, l9, e]
        exact ⟨fun _ => fin, fun _ => ⟨by omega, fun _ => fin, fun h => absurd (by trivial) h⟩⟩
      · obtain ⟨t1, t2⟩ := (g5.2.2.1 k g3).2 hroot
        have hc := g5.2.2.2
        obtain ⟨e, eb⟩ := g5.1 k g3
        obtain ⟨e2, eb2⟩ := g5.1 (Ld k) eb
        have hll : t (Ld k) ≤ t (Ld (Ld k)) := by
          by_cases z : Ld (Ld k) = Ld k
          · rw [z]
            exact Nat.le_refl _
          · exact Nat.le_of_lt ((g5.2.2.1 (Ld k) eb).2 z).2
        have hne : Ld (Ld k) ≠ k := by
          intro z
          rw [z] at hll
          omega
        have wj : Unit → wr ((j : Int) + 1) = ((j + 1 : Nat) : Int) := fun _ => by rw [wr_id (by omega) (by omega)]; omega
        have e3 : up2 s2 96 k ((Ld (Ld k) : Nat) : Int) 96 k = ((Ld (Ld k) : Nat) : Int) := by rw [up2_self, upf_s]
        have r1 := g5.2.1 k g3
        have r2 := g5.2.1 (Ld k) eb
        rw [awu 212 1]
        try simp only [awu 212 2, awu 212 3, pe212, xs, i_load, i_loadR, i_inc, lg, lp, true_and, and_true, List.length_cons, List.length_nil, Nat.reduceAdd, Nat.reduceLeDiff, Nat.zero_le, Int.toNat_natCast, natLit, k0, k9, l9, e, e2, e3, wj ()]
        refine ⟨fun h => by omega, fun _ => ⟨by omega, fun h => absurd (by omega) hroot, fun _ => ⟨by omega, by omega, by omega, by omega, ?_⟩⟩⟩
        refine ih (Ld (Ld k)) (j + 1) _ (updN Ld k (Ld (Ld k))) (by omega) (by omega) eb2 (by rw [r2.2.2.1, r1.2.2.1]; exact g4) ⟨fun x hx => ?_, fun x hx => ?_, fun x hx => ?_, ?_⟩ (fun q q1 => by rw [up2_ne q1]; exact g6 q q1)
        · rw [up2_self, updN_at]
          by_cases z : x = k
          · rw [z, upf_s, if_pos rfl]
            exact ⟨rfl, eb2⟩
          · rw [upf_n z, if_neg z]
            exact g5.1 x hx
        · obtain ⟨y1, y2, y3, y4⟩ := g5.2.1 x hx
          rw [updN_at, updN_at]
          refine ⟨y1, ?_, ?_, ?_⟩
          · rw [if_neg (fun h => hroot (by rw [← h]; exact y2))]
            exact y2
          · by_cases z : x = k
            · rw [if_pos z, r2.2.2.1, r1.2.2.1, z]
            · rw [if_neg z]
              exact y3
          · by_cases z : x = k
            · rw [if_pos z, z]
              intro h
              exact absurd h hne
            · rw [if_neg z]
              exact y4
        · rw [updN_at]
          by_cases z : x = k
          · rw [if_pos z, z]
            exact ⟨fun h => absurd h hne, fun _ => ⟨t1, by omega⟩⟩
          · rw [if_neg z]
            exact g5.2.2.1 x hx
        · rw [cn_congr (p := fun x => updN Ld k (Ld (Ld k)) x == x) (q := fun x => Ld x == x)]
          · exact hc
          · intro x _
            show (updN Ld k (Ld (Ld k)) x == x) = (Ld x == x)
            rw [updN_at]
            by_cases z : x = k
            · rw [if_pos z, z]
              rw [beq_eq_false_iff_ne.mpr hne, beq_eq_false_iff_ne.mpr hroot]
            · rw [if_neg z]
  refine MS_v [vr 87, vi s, none, none] rfl rfl rfl rfl ?_
  try simp only [awu 212 0, pe212, xs, i_load, i_loadR, i_inc, lg, lp, true_and, and_true, List.length_cons, List.length_nil, Nat.reduceAdd, Nat.reduceLeDiff, Nat.zero_le, Int.toNat_natCast, natLit, k0]
  exact key 404 s 0 st Ld (by omega) (Nat.zero_le _) hs rfl hU (fun _ _ => rfl)
def uni (r : Nat → Nat) (a b : Nat) : Nat → Nat := fun x => if r x = a then b else r x
def UG (st : St) (r : Nat → Nat) (c : Nat) : Prop := ∃ Ld t, UF st Ld r t c
theorem sp_unite {d c : Nat} {s t : Int} {st : St} {r : Nat → Nat} {Q : Rn} (hU : UG st r c) (hs : -1 ≤ s ∧ s < 201) (ht : -1 ≤ t ∧ t < 201)
    (h0 : ∀ st' : St, r (s + 1).toNat = r (t + 203).toNat → UG st' r c → (∀ q, q ≠ 96 → st' q = st q) → Q (vi 0) st')
    (h1 : ∀ st' : St, r (s + 1).toNat ≠ r (t + 203).toNat → c < 403 → UG st' (uni r (r (s + 1).toNat) (r (t + 203).toNat)) (c + 1) → (∀ q, q ≠ 96 → st' q = st q) → Q (vi 1) st') : MS (d + 2) 211 [vr 87, vi s, vi t] st Q := by
  have k0 : kl 87 = 4 := rfl
  have k9 : kl 96 = 50 := rfl
  have l9 : len 96 = 404 := rfl
  obtain ⟨Ld, τ, hU⟩ := hU
  have w1 : Unit → wr (s + 1) = (((s + 1).toNat : Nat) : Int) := fun _ => by rw [wr_id (by omega) (by omega)]; omega
  have w2 : Unit → wr (t + 1) = t + 1 := fun _ => by rw [wr_id (by omega) (by omega)]
  have w3 : Unit → wr (t + 1 + 202) = (((t + 203).toNat : Nat) : Int) := fun _ => by rw [wr_id (by omega) (by omega)]; omega
  refine MS_v [vr 87, vi s, vi t, none, none] rfl rfl rfl rfl ?_
  try simp only [awu 211 0, pe211, xs, i_load, i_loadR, i_inc, lg, lp, true_and, and_true, List.length_cons, List.length_nil, Nat.reduceAdd, Nat.reduceLeDiff, Nat.zero_le, Int.toNat_natCast, natLit, k0, w1 ()]
  refine sp_leadOf hU (by omega) (fun s1 L1 y1 y2 => ?_)
  dsimp only
  try simp only [awu 211 0, pe211, xs, i_load, i_loadR, i_inc, lg, lp, true_and, and_true, List.length_cons, List.length_nil, Nat.reduceAdd, Nat.reduceLeDiff, Nat.zero_le, Int.toNat_natCast, natLit, k0, w2 (), w3 ()]
  refine sp_leadOf y1 (show (t + 203).toNat < 404 by omega) (fun s2 L2 z1 z2 => ?_)
  dsimp only
  generalize hS : (s + 1).toNat = S at *
  generalize hT : (t + 203).toNat = T at *
  have hS4 : S < 404 := by omega
  have hT4 : T < 404 := by omega
  obtain ⟨a1, a2, a3, a4⟩ := z1.2.1 S hS4
  obtain ⟨b1, b2, b3, b4⟩ := z1.2.1 T hT4
  have frq : ∀ q v, q ≠ 96 → up2 s2 96 (r S) v q = st q := fun q v hq => by rw [up2_ne hq, z2 q hq, y2 q hq]
  try simp only [awu 211 0, awu 211 1, awu 211 2, awu 211 3, pe211, xs, i_load, i_loadR, i_inc, lg, lp, true_and, and_true, List.length_cons, List.length_nil, Nat.reduceAdd, Nat.reduceLeDiff, Nat.zero_le, Int.toNat_natCast, natLit, k0, k9, l9, ok01_0, ok01_1]
  refine ⟨by omega, fun h => ?_, fun h => ?_⟩
  · have h : r S = r T := by omega
    refine h0 _ h ⟨L2, τ, ⟨fun k hk => ?_, z1.2⟩⟩ (fun q hq => frq q _ hq)
    rw [up2_self]
    by_cases z : k = r S
    · rw [z, upf_s, ← h, a2]
      exact ⟨rfl, a1⟩
    · rw [upf_n z]
      exact z1.1 k hk
  · have h : r S ≠ r T := by omega
    have hcn := cn_off (p := fun k => L2 k == k) (q := updB (fun k => L2 k == k) (r S) false) (b := r S) a1 (fun i _ hi => (updB_n hi).symm) (by show (L2 (r S) == r S) = true; rw [a2]; exact beq_self_eq_true _) updB_s
    have hpos := cn_pos (p := updB (fun k => L2 k == k) (r S) false) (b := r T) b1 (by rw [updB_n (fun e => h e.symm)]; show (L2 (r T) == r T) = true; rw [b2]; exact beq_self_eq_true _)
    have hc := z1.2.2.2
    have hrr : ∀ x, x < 404 → r (r x) = r x := fun x hx => (z1.2.1 (r x) (z1.2.1 x hx).1).2.2.2 (z1.2.1 x hx).2.1
    refine h1 _ h (by omega) ⟨updN L2 (r S) (r T), updN τ (r S) c, ⟨fun k hk => ?_, fun k hk => ?_, fun k hk => ?_, ?_⟩⟩ (fun q hq => frq q _ hq)
    · rw [up2_self, updN_at]
      by_cases z : k = r S
      · rw [z, upf_s, if_pos rfl]
        exact ⟨rfl, b1⟩
      · rw [upf_n z, if_neg z]
        exact z1.1 k hk
    · obtain ⟨y1, y2, y3, y4⟩ := z1.2.1 k hk
      unfold uni
      rw [updN_at, updN_at]
      refine ⟨by split <;> assumption, ?_, ?_, ?_⟩
      · by_cases z : r k = r S
        · rw [if_pos z, if_neg (fun e => h e.symm)]
          exact b2
        · rw [if_neg z, if_neg z]
          exact y2
      · by_cases z : k = r S
        · rw [if_pos z, hrr T hT4, z, hrr S hS4, if_pos rfl, if_neg (fun e => h e.symm)]
        · rw [if_neg z, y3]
      · by_cases z : k = r S
        · rw [if_pos z, z]
          intro e
          exact absurd e (fun e => h e.symm)
        · rw [if_neg z]
          intro e
          rw [y4 e, if_neg z]
    · rw [updN_at, updN_at, updN_at]
      obtain ⟨y1, y2⟩ := z1.2.2.1 k hk
      by_cases z : k = r S
      · rw [if_pos z, if_pos z, z]
        refine ⟨fun e => absurd e (fun e => h e.symm), fun _ => ⟨by omega, ?_⟩⟩
        rw [if_neg (fun e => h e.symm), (z1.2.2.1 (r T) b1).1 b2]
        omega
      · rw [if_neg z, if_neg z]
        refine ⟨y1, fun e => ?_⟩
        obtain ⟨x1, x2⟩ := y2 e
        refine ⟨by omega, ?_⟩
        by_cases zz : L2 k = r S
        · rw [if_pos zz]
          exact x1
        · rw [if_neg zz]
          exact x2
    · rw [cn_congr (p := fun x => updN L2 (r S) (r T) x == x) (q := updB (fun k => L2 k == k) (r S) false)]
      · omega
      · intro x _
        show (updN L2 (r S) (r T) x == x) = _
        rw [updN_at]
        by_cases z : x = r S
        · rw [if_pos z, z, updB_s]
          exact beq_eq_false_iff_ne.mpr (fun e => h e.symm)
        · rw [if_neg z, updB_n z]
/-! colours that pairs keep -/
def CPr (r : Nat → Nat) (X : Nat → Int × Int) (c : Nat) : Prop := ∀ p : Nat → Bool, (∀ j, j < c → p ((X j).1 + 1).toNat = p ((X j).2 + 203).toNat) → ∀ x, x < 404 → p x = p (r x)
theorem CPr_uni {r : Nat → Nat} {X : Nat → Int × Int} {c : Nat} {q : Int × Int} (h : CPr r X c) (h1 : (q.1 + 1).toNat < 404) (h2 : (q.2 + 203).toNat < 404) : CPr (uni r (r (q.1 + 1).toNat) (r (q.2 + 203).toNat)) (updP X c q) (c + 1) := by
  intro p hp x hx
  have hp' := h p (fun j hj => by
    have := hp j (by omega)
    rw [updP_n (by omega)] at this
    exact this)
  have hc := hp c (by omega)
  rw [updP_s] at hc
  unfold uni
  by_cases z : r x = r (q.1 + 1).toNat
  · rw [if_pos z, hp' x hx, z, ← hp' _ h1, hc]
    exact hp' _ h2
  · rw [if_neg z]
    exact hp' x hx
def ag (M O : MC) (q : Int × Int) (x : List Nat) : Prop := inM M (rl M q.1 x) = inM O (rl O q.2 x)
theorem CPr_ag {M O : MC} {r : Nat → Nat} {X : Nat → Int × Int} {c : Nat} {q : Int × Int} {x : List Nat} (h : CPr r X c) (hX : ∀ i, i < c → (-1 ≤ (X i).1 ∧ (X i).1 < 201) ∧ (-1 ≤ (X i).2 ∧ (X i).2 < 201)) (hq : (-1 ≤ q.1 ∧ q.1 < 201) ∧ (-1 ≤ q.2 ∧ q.2 < 201)) (he : r (q.1 + 1).toNat = r (q.2 + 203).toNat) (ha : ∀ i, i < c → ag M O (X i) x) : ag M O q x := by
  have e1 : ∀ s : Int, -1 ≤ s → s < 201 → (if (s + 1).toNat < 202 then inM M (rl M (((s + 1).toNat : Int) - 1) x) else inM O (rl O (((s + 1).toNat : Int) - 203) x)) = inM M (rl M s x) := fun s h1 h2 => by
    rw [if_pos (by omega)]
    congr 2
    omega
  have e2 : ∀ s : Int, -1 ≤ s → s < 201 → (if (s + 203).toNat < 202 then inM M (rl M (((s + 203).toNat : Int) - 1) x) else inM O (rl O (((s + 203).toNat : Int) - 203) x)) = inM O (rl O s x) := fun s h1 h2 => by
    rw [if_neg (by omega)]
    congr 2
    omega
  have := h (fun k => if k < 202 then inM M (rl M ((k : Int) - 1) x) else inM O (rl O ((k : Int) - 203) x)) (fun j hj => by
    obtain ⟨y1, y2⟩ := hX j hj
    show (if ((X j).1 + 1).toNat < 202 then _ else _) = (if ((X j).2 + 203).toNat < 202 then _ else _)
    rw [e1 _ y1.1 y1.2, e2 _ y2.1 y2.2]
    exact ha j hj)
  have g1 := this (q.1 + 1).toNat (by omega)
  have g2 := this (q.2 + 203).toNat (by omega)
  rw [he, ← g2] at g1
  have g1 : (if (q.1 + 1).toNat < 202 then _ else _) = (if (q.2 + 203).toNat < 202 then _ else _) := g1
  rw [e1 _ hq.1.1 hq.1.2, e2 _ hq.2.1 hq.2.2] at g1
  exact g1
/-- nothing earlier tells them apart -/
theorem HK {M O : MC} {a c b : Nat} {X : Nat → Int × Int} {W : Nat → List Nat} (h0 : 0 < c) (hW0 : W 0 = []) (hX : ∀ i, i < c → X i = (rl M 0 (W i), rl O 0 (W i)) ∧ Lw a (W i)) (hnd : ∀ i, i < c → ag M O (X i) [])
    (hp : ∀ p j, p < c → j < a → nm (W p ++ [j]) < b → (∃ i, i < c ∧ W i = W p ++ [j]) ∨ ∀ x, Lw a x → (∀ i, i < c → nm (W i) < nm (W p ++ [j]) → ag M O (X i) x) → ag M O (tg M O (X p) j) x) : ∀ (N : Nat) (v : List Nat), nm v = N → Lw a v → N < b → ¬ Df M O v := by
  intro N
  induction N using Nat.strongRecOn with
  | _ N ih =>
    intro v hv hL hb
    have key : ∀ (x : List Nat) (i : Nat), i < c → v = W i ++ x → ¬ Df M O v := by
      intro x
      induction x with
      | nil =>
        intro i hi e
        rw [List.append_nil] at e
        have := hnd i hi
        unfold ag at this
        rw [(hX i hi).1] at this
        rw [e]
        unfold Df
        exact fun h => h this
      | cons l x ihx =>
        intro i hi e
        have e' : v = (W i ++ [l]) ++ x := by rw [e, List.append_assoc]; rfl
        have hl : l < a := hL l (by rw [e]; exact List.mem_append.mpr (Or.inr List.mem_cons_self))
        have hx : Lw a x := fun k hk => hL k (by rw [e]; exact List.mem_append.mpr (Or.inr (List.mem_cons_of_mem _ hk)))
        have hnv : nm v = nA (nm (W i ++ [l])) x := by rw [e', nm_app]
        have hle : nm (W i ++ [l]) ≤ nm v := by rw [hnv]; exact nA_ge
        rcases hp i l hi hl (by omega) with ⟨j, j1, j2⟩ | hag
        · exact ihx j j1 (by rw [j2]; exact e')
        · have := hag x hx (fun j hj hlt => by
            have hj2 := hX j hj
            have nlt : nm (W j ++ x) < nm v := by
              rw [nm_app, hnv]
              exact nA_mono hlt
            have := ih (nm (W j ++ x)) (by omega) (W j ++ x) rfl (Lw_app hj2.2 hx) (by omega)
            unfold Df at this
            rw [rl_app, rl_app] at this
            unfold ag
            rw [hj2.1]
            exact Classical.not_not.mp this)
          unfold ag tg at this
          rw [(hX i hi).1] at this
          unfold Df
          rw [e', rl_app (M := M), rl_app (M := O), rl_sn, rl_sn]
          exact fun h => h this
    exact key v 0 h0 (by rw [hW0]; rfl)
