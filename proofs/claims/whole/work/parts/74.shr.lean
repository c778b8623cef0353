/-! a machine and its kinds: the class -/
def zz (M : MC) (a n k : Nat) : Int := ((bf M M a n).1 k).1
def dl (M : MC) (a n k l : Nat) : Nat := (hasP (bf M M a n) (tg M M ((bf M M a n).1 k) l)).getD 0
def SH (M : MC) (a n : Nat) : Prop := (0 < n ∧ n ≤ 201) ∧ zz M a n 0 = 0 ∧ (∀ k, k < n → Rc M a (zz M a n k)) ∧ (∀ s, Rc M a s → ∃ k, k < n ∧ zz M a n k = s) ∧ (∀ k l, k < n → l < a → dl M a n k l < n ∧ zz M a n (dl M a n k l) = fo M (zz M a n k) l) ∧ (∀ i, 0 < i → i < n → ∃ p j, p < i ∧ j < a ∧ dl M a n p j = i ∧ ∀ p' j', lx p' j' p j → j' < a → dl M a n p' j' < i) ∧ (∀ k, k < n → (btM M M a 0 n).2.1 k = if inM M (zz M a n k) then 1 else 2) ∧ ∀ k l, k < n → l < a → (btM M M a 0 n).2.2 (4 * k + l) = (dl M a n k l : Nat)
theorem bf_dg {M : MC} {a k l : Nat} {X : PR} (h : BI M M a X k l) : ∀ i, i < X.2 → (X.1 i).2 = (X.1 i).1 := by
  intro i
  induction i using Nat.strongRecOn with
  | _ i ih =>
    intro hi
    rcases Nat.eq_zero_or_pos i with z | z
    · rw [z, h.2.1.2]
    · obtain ⟨p, j, _, _, p3, p4, _⟩ := h.2.2.2.2 i z hi
      rw [p4]
      show fo M (X.1 p).2 j = fo M (X.1 p).1 j
      rw [ih p p3 (by omega)]
theorem Go_201 {M : MC} {a k : Nat} (hMW : MW a M) (ha : a ≤ 4) (m0 : 0 < M.1) (hM : M.1 ≤ 200) (h : Go M M a 201 k) : (bf M M a k).2 ≤ 201 := by
  have hB := BI_bf hMW hMW ha m0 m0 k h
  have hg := bf_dg hB
  have := cn_ij (p := fun _ => true) (q := fun _ => true) (n := (bf M M a k).2) (m := 201) (f := fun i => (((bf M M a k).1 i).1 + 1).toNat) (fun i hi _ => ⟨by have := hB.2.2.1 i hi; omega, rfl⟩) (fun i j hi hj _ _ e => by
    have h1 := hB.2.2.1 i hi
    have h2 := hB.2.2.1 j hj
    have e1 : ((bf M M a k).1 i).1 = ((bf M M a k).1 j).1 := by omega
    exact hB.1 i j hi hj (Prod.ext e1 (by rw [hg i hi, hg j hj, e1])))
  rw [cn_all (fun _ _ => rfl), cn_all (fun _ _ => rfl)] at this
  exact this
theorem SH_of {M : MC} {a n : Nat} (hMW : MW a M) (ha : a ≤ 4) (m0 : 0 < M.1) (hF : Fin M M a 201 n) : SH M a n := by
  have hB := BI_bf hMW hMW ha m0 m0 n hF.1
  have hn := hF.2
  have hg := bf_dg hB
  have hdl : ∀ k l, k < n → l < a → dl M a n k l < n ∧ (bf M M a n).1 (dl M a n k l) = tg M M ((bf M M a n).1 k) l ∧ hasP (bf M M a n) (tg M M ((bf M M a n).1 k) l) = some (dl M a n k l) := by
    intro k l hk hl
    obtain ⟨i, i1, i2⟩ := hB.2.2.2.1 k l (Or.inl hk) hl
    have e := hasP_of hB.1 i1 i2
    have : dl M a n k l = i := by unfold dl; rw [e]; rfl
    rw [this]
    exact ⟨by omega, i2, e⟩
  have hzd : ∀ k l, k < n → l < a → dl M a n k l < n ∧ zz M a n (dl M a n k l) = fo M (zz M a n k) l := fun k l hk hl => ⟨(hdl k l hk hl).1, by show ((bf M M a n).1 (dl M a n k l)).1 = _; rw [(hdl k l hk hl).2.1]; rfl⟩
  have h0 : zz M a n 0 = 0 := by show ((bf M M a n).1 0).1 = 0; rw [hB.2.1.2]
  refine ⟨⟨by have := hB.2.1.1; omega, Fin_le hF (by decide)⟩, h0, ?_, fun s hs => ?_, hzd, fun i hi0 hi => ?_, fun k hk => ?_, fun k l hk hl => ?_⟩
  · intro k
    induction k using Nat.strongRecOn with
    | _ k ih =>
      intro hk
      rcases Nat.eq_zero_or_pos k with z | z
      · rw [z, h0]
        exact Rc_0
      · obtain ⟨p, j, _, p2, p3, p4, _⟩ := hB.2.2.2.2 k z (by omega)
        have : zz M a n k = fo M (zz M a n p) j := by show ((bf M M a n).1 k).1 = _; rw [p4]; rfl
        rw [this]
        exact Rc_s (ih p p3 (by omega)) p2
  · refine Rc_of (M := M) (a := a) (R := fun s => ∃ k, k < n ∧ zz M a n k = s) ⟨0, by have := hB.2.1.1; omega, h0⟩ (fun s l hs hl => ?_) hs
    obtain ⟨k, k1, k2⟩ := hs
    obtain ⟨d1, d2⟩ := hzd k l k1 hl
    exact ⟨_, d1, by rw [d2, k2]⟩
  · obtain ⟨p, j, p1, p2, p3, p4, p5⟩ := hB.2.2.2.2 i hi0 (by omega)
    refine ⟨p, j, p3, p2, ?_, fun p' j' hp' hj' => ?_⟩
    · have := hasP_of hB.1 (show i < (bf M M a n).2 by omega) p4
      unfold dl
      rw [this]
      rfl
    · obtain ⟨i', i1, i2⟩ := p5 p' j' hp' hj'
      have := hasP_of hB.1 (show i' < (bf M M a n).2 by omega) i2
      unfold dl
      rw [this]
      exact i1
  · rw [btM_m]
    have : ((bf M M a n).1 k).2 = ((bf M M a n).1 k).1 := hg k (by omega)
    rw [this]
    show (if cb 0 (inM M (zz M a n k)) (inM M (zz M a n k)) = true then (1 : Int) else 2) = _
    unfold cb
    rw [if_pos rfl, Bool.and_self]
  · rw [btM_a, show (4 * k + l) % 4 = l by omega, show (4 * k + l) / 4 = k by omega, if_pos hl]
    rfl
def FrK (st st' : St) : Prop := ∀ q i, ¬ (q = 87 ∧ (i = 9 ∨ i = 10)) → q < 91 ∨ q = 96 ∨ 98 < q → st' q i = st q i
theorem FrK_r {st : St} : FrK st st := fun _ _ _ _ => rfl
theorem FrK_t {s1 s2 s3 : St} (h1 : FrK s1 s2) (h2 : FrK s2 s3) : FrK s1 s3 := fun q i a b => by rw [h2 q i a b, h1 q i a b]
theorem sp_takeK {d c : Nat} {st : St} {Q : Rn} (hc : st 87 9 = (c : Nat)) (hq : ∀ st' : St, (∀ s, s < 201 → st' 97 s = st 98 s) → st' 87 10 = (c : Nat) → (∀ q i, ¬ (q = 87 ∧ i = 10) → q ≠ 97 → st' q i = st q i) → Q none st') : MS (d + 1) 218 [vr 87] st Q := by
  have k0 : kl 87 = 4 := rfl
  have k97 : kl 97 = 50 := rfl
  have l97 : len 97 = 201 := rfl
  have k98 : kl 98 = 50 := rfl
  have l98 : len 98 = 201 := rfl
  have e1 : ∀ f, up1 st 97 f 87 9 = (c : Nat) := fun f => by rw [up1_ne (by decide)]; exact hc
  refine MS_v [vr 87] rfl rfl rfl rfl ?_
  try simp only [awu 218 0, pe218, xs, i_load, i_loadR, i_inc, lg, lp, true_and, and_true, List.length_cons, List.length_nil, Nat.reduceAdd, Nat.reduceLeDiff, Nat.zero_le, Int.toNat_natCast, natLit, k0, k97, l97, k98, l98, Int.toNat_zero, e1]
  refine ⟨by decide, by decide, ?_⟩
  refine hq _ (fun s hs => ?_) (by rw [up2_self, upf_s]) (fun q i q1 q2 => ?_)
  · rw [up2_ne (by decide), up1_self, cpf_at, if_pos (by rw [show ((201 : Int)).toNat = 201 from rfl]; omega)]
    congr 1
    omega
  · rw [up2_at]
    by_cases z : q = 87
    · subst z
      rw [if_pos rfl, if_neg (by omega), up1_ne (by decide)]
    · rw [if_neg z, up1_ne q2]
theorem sp_splitMark {d n : Nat} {st : St} {R : MC} {Q : Rn} (hR : MCc st 88 201 R) (hn : R.1 = n) (hn2 : n ≤ 201)
    (hq : ∀ (st' : St), (∀ s, s < n → st' 97 s = (nsk (fun s => (0, R.2.1 s)) s : Nat)) → st' 87 10 = (cn (isF (fun _ => true) (nsk (fun s => (0, R.2.1 s)))) n : Nat) → FrK st st' → Q none st') : MS (d + 3) 215 [vr 87] st Q := by
  have k0 : kl 87 = 4 := rfl
  have k88 : kl 88 = 2 := rfl
  have k89 : kl 89 = 50 := rfl
  have l89 : len 89 = 201 := rfl
  have k98 : kl 98 = 50 := rfl
  have l98 : len 98 = 201 := rfl
  have fr : ∀ s2 : St, FrK st s2 → MCc s2 88 201 R := fun s2 h => MCc_congr hR (fun q h1 h2 => by funext i; exact h q i (by omega) (by omega))
  have key : ∀ mm s : Nat, ∀ s2 : St, s + mm = n → MP s2 (nsq (fun s => (0, R.2.1 s)) s) → FrK st s2 → (∀ t, t < s → s2 98 t = (nsk (fun s => (0, R.2.1 s)) t : Nat)) → AW (P 215) Q (MS (d + 2)) 0 (fun _ => 0) 1 [vr 87, vi s] [] s2 := by
    intro mm
    induction mm with
    | zero =>
      intro s s2 g1 g2 g3 g4
      have : s = n := by omega
      subst this
      have f1 := (fr s2 g3).1
      rw [hn] at f1
      rw [awu 215 1]
      try simp only [awu 215 4, pe215, xs, i_load, i_loadR, i_inc, lg, lp, true_and, and_true, List.length_cons, List.length_nil, Nat.reduceAdd, Nat.reduceLeDiff, Nat.zero_le, Int.toNat_natCast, natLit, k0, k88, f1]
      refine ⟨fun _ => ?_, fun h => absurd (Int.le_refl _) h⟩
      refine sp_takeK g2.1 (fun s3 y1 y2 y3 => ?_)
      dsimp only
      try simp only [awu 215 4, pe215, xs, i_load, i_loadR, i_inc, lg, lp, true_and, and_true, List.length_cons, List.length_nil, Nat.reduceAdd, Nat.reduceLeDiff, Nat.zero_le, Int.toNat_natCast, natLit, k0]
      refine hq s3 (fun t ht => by rw [y1 t (by omega)]; exact g4 t ht) (by rw [y2, nsq_c]) (fun q i q1 q2 => ?_)
      rw [y3 q i (by omega) (by omega)]
      exact g3 q i q1 q2
    | succ mm ih =>
      intro s s2 g1 g2 g3 g4
      obtain ⟨f1, f2, f3, -⟩ := fr s2 g3
      rw [hn] at f1
      have e89 := f3 s (by omega)
      have ws : Unit → wr ((s : Int) + 1) = ((s + 1 : Nat) : Int) := fun _ => by rw [wr_id (by omega) (by omega)]; omega
      have hle := cn_le (p := isF (fun _ => true) (nsk (fun s => (0, R.2.1 s)))) s
      rw [← nsq_c] at hle
      rw [awu 215 1]
      try simp only [awu 215 2, awu 215 3, pe215, xs, i_load, i_loadR, i_inc, lg, lp, true_and, and_true, List.length_cons, List.length_nil, Nat.reduceAdd, Nat.reduceLeDiff, Nat.zero_le, Int.toNat_natCast, natLit, k0, k88, f1, k89, l89, e89]
      refine ⟨fun h => by omega, fun _ => ⟨fun h => by omega, fun _ => ⟨by omega, ?_⟩⟩⟩
      refine sp_numberOf (X := nsq (fun s => (0, R.2.1 s)) s) g2 (nsq_D s) (by omega) (by decide) (by decide) (fun s3 w1 w2 => ?_)
      dsimp only
      try simp only [awu 215 3, pe215, xs, i_load, i_loadR, i_inc, lg, lp, true_and, and_true, List.length_cons, List.length_nil, Nat.reduceAdd, Nat.reduceLeDiff, Nat.zero_le, Int.toNat_natCast, natLit, k0, k98, l98, ws ()]
      refine ⟨by omega, ih (s + 1) _ (by omega) ⟨by rw [up2_ne (by decide)]; exact w1.1, fun i hi => by rw [up2_ne (by decide), up2_ne (by decide), up2_ne (by decide)]; exact w1.2.1 i hi, fun x hx => by rw [up2_ne (by decide)]; exact w1.2.2 x hx⟩ (fun q i q1 q2 => by rw [up2_ne (by omega), w2 q i (by omega) (by omega)]; exact g3 q i q1 q2) (fun t ht => ?_)⟩
      rw [up2_self]
      by_cases z : t = s
      · rw [z, upf_s]
        rfl
      · rw [upf_n z, w2 98 t (by omega) (by omega)]
        exact g4 t (by omega)
  refine MS_v [vr 87, none] rfl rfl rfl rfl ?_
  try simp only [awu 215 0, pe215, xs, i_load, i_loadR, i_inc, lg, lp, true_and, and_true, List.length_cons, List.length_nil, Nat.reduceAdd, Nat.reduceLeDiff, Nat.zero_le, Int.toNat_natCast, natLit, k0]
  refine sp_forget (fun s1 y1 y2 => ?_)
  dsimp only
  try simp only [awu 215 0, pe215, xs, i_load, i_loadR, i_inc, lg, lp, true_and, and_true, List.length_cons, List.length_nil, Nat.reduceAdd, Nat.reduceLeDiff, Nat.zero_le, Int.toNat_natCast, natLit, k0]
  exact key n 0 s1 (by omega) y1 (fun q i q1 q2 => y2 q i (by omega) (by omega)) (fun t ht => by omega)
theorem sp_kindOf {d : Nat} {t c : Nat} {st : St} {k : Nat → Nat} {Q : Rn} (hc : st 88 2 = (c : Nat)) (hc2 : c ≤ 201) (ht : t < c) (hk : st 97 t = (k t : Nat)) (hq : Q (vi (k t : Nat)) st) : MS (d + 2) 217 [vr 87, vi t] st Q := by
  have k0 : kl 87 = 4 := rfl
  have k97 : kl 97 = 50 := rfl
  have l97 : len 97 = 201 := rfl
  refine MS_v [vr 87, vi t] rfl rfl rfl rfl ?_
  try simp only [awu 217 0, pe217, xs, i_load, i_loadR, i_inc, lg, lp, true_and, and_true, List.length_cons, List.length_nil, Nat.reduceAdd, Nat.reduceLeDiff, Nat.zero_le, Int.toNat_natCast, natLit, k0]
  refine sp_mchas isMc_88 hc hc2 ?_
  dsimp only
  rw [if_pos (by omega)]
  try simp only [awu 217 0, awu 217 1, awu 217 3, pe217, xs, i_load, i_loadR, i_inc, lg, lp, true_and, and_true, List.length_cons, List.length_nil, Nat.reduceAdd, Nat.reduceLeDiff, Nat.zero_le, Int.toNat_natCast, natLit, k0, k97, l97, hk]
  exact ⟨fun h => absurd h (by decide), fun _ => ⟨by omega, hq⟩⟩
theorem sp_splitLet {d n a l : Nat} {st : St} {M : MC} {k : Nat → Nat} {Q : Rn} (hS : SH M a n) (hRW : MW a (btM M M a 0 n)) (ha : a ≤ 4) (hl : l < a) (hR : MCc st 88 201 (btM M M a 0 n)) (hk : ∀ s, s < n → st 97 s = (k s : Nat)) (hk2 : ∀ s, s < n → k s ≤ 200)
    (hq : ∀ (st' : St), (∀ s, s < n → st' 97 s = (nsk (fun s => ((k s : Int), (k (dl M a n s l) : Int))) s : Nat)) → st' 87 10 = (cn (isF (fun _ => true) (nsk (fun s => ((k s : Int), (k (dl M a n s l) : Int))))) n : Nat) → FrK st st' → Q none st') : MS (d + 3) 216 [vr 87, vi l] st Q := by
  have k0 : kl 87 = 4 := rfl
  have k88 : kl 88 = 2 := rfl
  have k97 : kl 97 = 50 := rfl
  have l97 : len 97 = 201 := rfl
  have k98 : kl 98 = 50 := rfl
  have l98 : len 98 = 201 := rfl
  have hn2 := hS.1.2
  have fr : ∀ s2 : St, (∀ q i, ¬ (q = 87 ∧ i = 9) → q < 91 ∨ q = 96 ∨ q = 97 ∨ 98 < q → s2 q i = st q i) → MCc s2 88 201 (btM M M a 0 n) ∧ ∀ s, s < n → s2 97 s = (k s : Nat) := fun s2 h => ⟨MCc_congr hR (fun q h1 h2 => by funext i; exact h q i (by omega) (by omega)), fun s hs => by rw [h 97 s (by omega) (by omega)]; exact hk s hs⟩
  have key : ∀ mm s : Nat, ∀ s2 : St, s + mm = n → MP s2 (nsq (fun s => ((k s : Int), (k (dl M a n s l) : Int))) s) → (∀ q i, ¬ (q = 87 ∧ i = 9) → q < 91 ∨ q = 96 ∨ q = 97 ∨ 98 < q → s2 q i = st q i) → (∀ t, t < s → s2 98 t = (nsk (fun s => ((k s : Int), (k (dl M a n s l) : Int))) t : Nat)) → AW (P 216) Q (MS (d + 2)) 0 (fun _ => 0) 1 [vr 87, vi l, vi s] [] s2 := by
    intro mm
    induction mm with
    | zero =>
      intro s s2 g1 g2 g3 g4
      have : s = n := by omega
      subst this
      have f1 : s2 88 2 = (s : Nat) := (fr s2 g3).1.1
      rw [awu 216 1]
      try simp only [awu 216 4, pe216, xs, i_load, i_loadR, i_inc, lg, lp, true_and, and_true, List.length_cons, List.length_nil, Nat.reduceAdd, Nat.reduceLeDiff, Nat.zero_le, Int.toNat_natCast, natLit, k0, k88, f1]
      refine ⟨fun _ => ?_, fun h => absurd (Int.le_refl _) h⟩
      refine sp_takeK g2.1 (fun s3 y1 y2 y3 => ?_)
      dsimp only
      try simp only [awu 216 4, pe216, xs, i_load, i_loadR, i_inc, lg, lp, true_and, and_true, List.length_cons, List.length_nil, Nat.reduceAdd, Nat.reduceLeDiff, Nat.zero_le, Int.toNat_natCast, natLit, k0]
      refine hq s3 (fun t ht => by rw [y1 t (by omega)]; exact g4 t ht) (by rw [y2, nsq_c]) (fun q i q1 q2 => ?_)
      rw [y3 q i (by omega) (by omega)]
      exact g3 q i (by omega) (by omega)
    | succ mm ih =>
      intro s s2 g1 g2 g3 g4
      obtain ⟨fM, fk⟩ := fr s2 g3
      have f1 : s2 88 2 = (n : Nat) := fM.1
      have e97 := fk s (by omega)
      have ws : Unit → wr ((s : Int) + 1) = ((s + 1 : Nat) : Int) := fun _ => by rw [wr_id (by omega) (by omega)]; omega
      have hle := cn_le (p := isF (fun _ => true) (nsk (fun s => ((k s : Int), (k (dl M a n s l) : Int))))) s
      rw [← nsq_c] at hle
      have hd := hS.2.2.2.2.1 s l (by omega) hl
      have hfo : fo (btM M M a 0 n) (s : Int) l = (dl M a n s l : Nat) := by
        unfold fo
        rw [if_pos ⟨by omega, by show (s : Int) < ((n : Nat) : Int); omega⟩, Int.toNat_natCast]
        exact hS.2.2.2.2.2.2.2 s l (by omega) hl
      have hks := hk2 s (by omega)
      rw [awu 216 1]
      try simp only [awu 216 2, awu 216 3, pe216, xs, i_load, i_loadR, i_inc, lg, lp, true_and, and_true, List.length_cons, List.length_nil, Nat.reduceAdd, Nat.reduceLeDiff, Nat.zero_le, Int.toNat_natCast, natLit, k0, k88, f1, k97, l97, e97]
      refine ⟨fun h => by omega, fun _ => ⟨fun h => by omega, fun _ => ⟨by omega, ?_⟩⟩⟩
      refine sp_mcfollow isMc_88 fM hRW (show l < 4 by omega) ?_
      dsimp only
      rw [hfo]
      try simp only [awu 216 3, pe216, xs, i_load, i_loadR, i_inc, lg, lp, true_and, and_true, List.length_cons, List.length_nil, Nat.reduceAdd, Nat.reduceLeDiff, Nat.zero_le, Int.toNat_natCast, natLit, k0]
      refine sp_kindOf (t := dl M a n s l) (k := k) f1 hn2 hd.1 (fk _ hd.1) ?_
      dsimp only
      try simp only [awu 216 3, pe216, xs, i_load, i_loadR, i_inc, lg, lp, true_and, and_true, List.length_cons, List.length_nil, Nat.reduceAdd, Nat.reduceLeDiff, Nat.zero_le, Int.toNat_natCast, natLit, k0]
      refine sp_numberOf (X := nsq (fun s => ((k s : Int), (k (dl M a n s l) : Int))) s) g2 (nsq_D s) (by omega) (by omega) (by omega) (fun s3 w1 w2 => ?_)
      dsimp only
      try simp only [awu 216 3, pe216, xs, i_load, i_loadR, i_inc, lg, lp, true_and, and_true, List.length_cons, List.length_nil, Nat.reduceAdd, Nat.reduceLeDiff, Nat.zero_le, Int.toNat_natCast, natLit, k0, k98, l98, ws ()]
      refine ⟨by omega, ih (s + 1) _ (by omega) ⟨by rw [up2_ne (by decide)]; exact w1.1, fun i hi => by rw [up2_ne (by decide), up2_ne (by decide), up2_ne (by decide)]; exact w1.2.1 i hi, fun x hx => by rw [up2_ne (by decide)]; exact w1.2.2 x hx⟩ (fun q i q1 q2 => by rw [up2_ne (by omega), w2 q i (by omega) (by omega)]; exact g3 q i q1 q2) (fun t ht => ?_)⟩
      rw [up2_self]
      by_cases z : t = s
      · rw [z, upf_s]
        rfl
      · rw [upf_n z, w2 98 t (by omega) (by omega)]
        exact g4 t (by omega)
  refine MS_v [vr 87, vi l, none] rfl rfl rfl rfl ?_
  try simp only [awu 216 0, pe216, xs, i_load, i_loadR, i_inc, lg, lp, true_and, and_true, List.length_cons, List.length_nil, Nat.reduceAdd, Nat.reduceLeDiff, Nat.zero_le, Int.toNat_natCast, natLit, k0]
  refine sp_forget (fun s1 y1 y2 => ?_)
  dsimp only
  try simp only [awu 216 0, pe216, xs, i_load, i_loadR, i_inc, lg, lp, true_and, and_true, List.length_cons, List.length_nil, Nat.reduceAdd, Nat.reduceLeDiff, Nat.zero_le, Int.toNat_natCast, natLit, k0]
  exact key n 0 s1 (by omega) y1 (fun q i q1 q2 => y2 q i (by omega) (by omega)) (fun t ht => by omega)
/-- kinds so far: no finer than what is -/
def KI (M : MC) (a n : Nat) (k : Nat → Nat) : Prop := FN k n ∧ (∀ s t, s < n → t < n → Nq M a (zz M a n s) (zz M a n t) → k s = k t) ∧ ∀ s t, s < n → t < n → k s = k t → inM M (zz M a n s) = inM M (zz M a n t)
def KD (M : MC) (a n : Nat) (k : Nat → Nat) : Prop := FN k n ∧ ∀ s t, s < n → t < n → (k s = k t ↔ Nq M a (zz M a n s) (zz M a n t))
theorem KI_D {M : MC} {a n : Nat} {k : Nat → Nat} (hS : SH M a n) (h : KI M a n k) (hs : ∀ s t l, s < n → t < n → l < a → k s = k t → k (dl M a n s l) = k (dl M a n t l)) : KD M a n k := by
  refine ⟨h.1, fun s t h1 h2 => ⟨fun e x hx => ?_, h.2.1 s t h1 h2⟩⟩
  exact Nq_of (C := fun _ => true) (z := zz M a n) (k := k) (dl := dl M a n) (fun s l hs _ hl => ⟨(hS.2.2.2.2.1 s l hs hl).1, rfl, (hS.2.2.2.2.1 s l hs hl).2⟩) (fun s t h1 h2 _ _ e => h.2.2 s t h1 h2 e) (fun s t l h1 h2 _ _ hl e => hs s t l h1 h2 hl e) x hx h1 h2 rfl rfl e
theorem KI_l {M : MC} {a n l : Nat} {k : Nat → Nat} (hS : SH M a n) (hl : l < a) (h : KI M a n k) : KI M a n (nsk (fun s => ((k s : Int), (k (dl M a n s l) : Int)))) := by
  refine ⟨nsk_FN, fun s t h1 h2 e => ?_, fun s t h1 h2 e => ?_⟩
  · rw [nsk_eq]
    obtain ⟨a1, a2⟩ := hS.2.2.2.2.1 s l h1 hl
    obtain ⟨b1, b2⟩ := hS.2.2.2.2.1 t l h2 hl
    show ((k s : Int), (k (dl M a n s l) : Int)) = ((k t : Int), (k (dl M a n t l) : Int))
    rw [h.2.1 s t h1 h2 e, h.2.1 _ _ a1 b1 (by rw [a2, b2]; exact Nq_s hl e)]
  · have e : ((k s : Int), (k (dl M a n s l) : Int)) = ((k t : Int), (k (dl M a n t l) : Int)) := nsk_eq.mp e
    have : (k s : Int) = (k t : Int) := congrArg Prod.fst e
    exact h.2.2 s t h1 h2 (by omega)
set_option maxHeartbeats 1000000 in
theorem sp_shrink {d o c a : Nat} {st : St} {M : MC} {Q : Rn} (ho : isMc o c) (ho2 : o + 2 < 87) (hM : MCc st o c M) (hMW : MW a M) (m0 : 0 < M.1) (hM2 : M.1 ≤ 200) (ha : a ≤ 4)
    (hq : ∀ (st' : St) (n : Nat) (k : Nat → Nat), Fin M M a 201 n → SH M a n → KD M a n k → MCc st' 88 201 (btM M M a 0 n) → (∀ s, s < n → st' 97 s = (k s : Nat)) → (∀ q, q < 87 ∨ q = 96 ∨ 98 < q → st' q = st q) → Q (vi (cn (isF (fun _ => true) k) n : Nat)) st') : MS (d + 5) 214 [vr 87, vr o, vi a] st Q := by
  have k0 : kl 87 = 4 := rfl
  refine MS_v [vr 87, vr o, vi a, none, none, none] rfl rfl rfl rfl ?_
  try simp only [awu 214 0, pe214, xs, i_load, i_loadR, i_inc, lg, lp, true_and, and_true, List.length_cons, List.length_nil, Nat.reduceAdd, Nat.reduceLeDiff, Nat.zero_le, Int.toNat_natCast, natLit, k0]
  refine sp_putTog (mo := 201) ho ho ho2 ho2 hM hM hMW hMW m0 m0 hM2 ha (by decide) (by decide) (fun s1 n y1 y2 y3 => ?_) (fun s1 k y1 y2 => ?_)
  · dsimp only
    have hS := SH_of hMW ha m0 y1
    have hRW := btM_W (how := 0) hMW hMW ha m0 m0 y1
    have hn2 := hS.1.2
    have fr : ∀ s2 : St, FrK s1 s2 → MCc s2 88 201 (btM M M a 0 n) := fun s2 h => MCc_congr y2 (fun q h1 h2 => by funext i; exact h q i (by omega) (by omega))
    have frs : ∀ s2 : St, FrK s1 s2 → ∀ q, q < 87 ∨ q = 96 ∨ 98 < q → s2 q = st q := fun s2 h q hq => by
      funext i
      rw [h q i (by omega) (by omega), y3 q i (by omega)]
    try simp only [awu 214 0, pe214, xs, i_load, i_loadR, i_inc, lg, lp, true_and, and_true, List.length_cons, List.length_nil, Nat.reduceAdd, Nat.reduceLeDiff, Nat.zero_le, Int.toNat_natCast, natLit, k0]
    refine sp_splitMark y2 rfl hn2 (fun s2 z1 z2 z3 => ?_)
    dsimp only
    have hk0 : KI M a n (nsk (fun s => (0, (btM M M a 0 n).2.1 s))) := by
      refine ⟨nsk_FN, fun s t h1 h2 e => ?_, fun s t h1 h2 e => ?_⟩
      · rw [nsk_eq]
        show ((0 : Int), (btM M M a 0 n).2.1 s) = (0, (btM M M a 0 n).2.1 t)
        rw [hS.2.2.2.2.2.2.1 s h1, hS.2.2.2.2.2.2.1 t h2, Nq_m e]
      · have e : ((0 : Int), (btM M M a 0 n).2.1 s) = (0, (btM M M a 0 n).2.1 t) := nsk_eq.mp e
        have e : (btM M M a 0 n).2.1 s = (btM M M a 0 n).2.1 t := congrArg Prod.snd e
        rw [hS.2.2.2.2.2.2.1 s h1, hS.2.2.2.2.2.2.1 t h2] at e
        cases hx : inM M (zz M a n s) <;> cases hy : inM M (zz M a n t) <;> rw [hx, hy] at e <;> simp at e ⊢
    have fin : ∀ (s3 : St) (k : Nat → Nat), FrK s1 s3 → (∀ s, s < n → s3 97 s = (k s : Nat)) → KD M a n k → Q (vi (cn (isF (fun _ => true) k) n : Nat)) s3 := fun s3 k h1 h2 h3 => hq s3 n k y1 hS h3 (fr s3 h1) h2 (frs s3 h1)
    have turns : ∀ mm t : Nat, ∀ (s3 : St) (k : Nat → Nat) (ct : Nat) (u5 : V), t + mm = 201 → FrK s1 s3 → (∀ s, s < n → s3 97 s = (k s : Nat)) → s3 87 10 = (cn (isF (fun _ => true) k) n : Nat) → KI M a n k → ((ct < cn (isF (fun _ => true) k) n ∧ t < cn (isF (fun _ => true) k) n) ∨ (ct = cn (isF (fun _ => true) k) n ∧ KD M a n k)) → AW (P 214) Q (MS (d + 4)) 0 (fun _ => 0) 1 [vr 87, vr o, vi a, vi ct, vi t, u5] [] s3 := by
      intro mm
      induction mm with
      | zero =>
        intro t s3 k ct u5 g1 g2 g3 g4 g5 g6
        have hle := cn_le (p := isF (fun _ => true) k) n
        rcases g6 with ⟨_, g6⟩ | ⟨_, g6⟩
        · omega
        · rw [awu 214 1]
          try simp only [awu 214 7, pe214, xs, i_load, i_loadR, i_inc, lg, lp, true_and, and_true, List.length_cons, List.length_nil, Nat.reduceAdd, Nat.reduceLeDiff, Nat.zero_le, Int.toNat_natCast, natLit, k0, g4]
          exact ⟨fun _ => fin s3 k g2 g3 g6, fun h => absurd (by omega) h⟩
      | succ mm ih =>
        intro t s3 k ct u5 g1 g2 g3 g4 g5 g6
        have hle := cn_le (p := isF (fun _ => true) k) n
        rcases g6 with ⟨g6, g6'⟩ | ⟨g6, g6'⟩
        · have wt : Unit → wr ((t : Int) + 1) = ((t + 1 : Nat) : Int) := fun _ => by rw [wr_id (by omega) (by omega)]; omega
          have lets : ∀ mm l : Nat, ∀ (s4 : St) (k' : Nat → Nat), l + mm = a → FrK s1 s4 → (∀ s, s < n → s4 97 s = (k' s : Nat)) → s4 87 10 = (cn (isF (fun _ => true) k') n : Nat) → KI M a n k' → (∀ s t, s < n → t < n → k' s = k' t → k s = k t) → (cn (isF (fun _ => true) k') n ≤ cn (isF (fun _ => true) k) n → (∀ s t, s < n → t < n → k s = k t → k' s = k' t) ∧ ∀ s t j, s < n → t < n → j < l → k s = k t → k (dl M a n s j) = k (dl M a n t j)) → AW (P 214) Q (MS (d + 4)) 0 (fun _ => 0) 4 [vr 87, vr o, vi a, vi (cn (isF (fun _ => true) k) n : Nat), vi t, vi l] [] s4 := by
            intro mm
            induction mm with
            | zero =>
              intro l s4 k' x1 x2 x3 x4 x5 x6 x7
              have : l = a := by omega
              subst this
              have hge := isF_le (C := fun _ => true) (k := k) (k' := k') (n := n) (fun s t h1 h2 _ _ e => x6 s t h1 h2 e)
              rw [awu 214 4]
              try simp only [awu 214 6, pe214, xs, i_load, i_loadR, i_inc, lg, lp, true_and, and_true, List.length_cons, List.length_nil, Nat.reduceAdd, Nat.reduceLeDiff, Nat.zero_le, Int.toNat_natCast, natLit, k0, wt ()]
              refine ⟨fun _ => ih (t + 1) s4 k' _ _ (by omega) x2 x3 x4 x5 ?_, fun h => absurd (Int.le_refl _) h⟩
              rcases Nat.lt_or_ge (cn (isF (fun _ => true) k) n) (cn (isF (fun _ => true) k') n) with z | z
              · exact Or.inl ⟨z, by omega⟩
              · obtain ⟨e1, e2⟩ := x7 z
                refine Or.inr ⟨by omega, KI_D hS x5 (fun s t j h1 h2 hj e => ?_)⟩
                obtain ⟨d1, -⟩ := hS.2.2.2.2.1 s j h1 hj
                obtain ⟨d2, -⟩ := hS.2.2.2.2.1 t j h2 hj
                exact e1 _ _ d1 d2 (e2 s t j h1 h2 hj (x6 s t h1 h2 e))
            | succ mm ihl =>
              intro l s4 k' x1 x2 x3 x4 x5 x6 x7
              have wl' : Unit → wr ((l : Int) + 1) = ((l + 1 : Nat) : Int) := fun _ => by rw [wr_id (by omega) (by omega)]; omega
              have hle' := cn_le (p := isF (fun _ => true) k') n
              rw [awu 214 4]
              try simp only [awu 214 5, pe214, xs, i_load, i_loadR, i_inc, lg, lp, true_and, and_true, List.length_cons, List.length_nil, Nat.reduceAdd, Nat.reduceLeDiff, Nat.zero_le, Int.toNat_natCast, natLit, k0]
              refine ⟨fun h => by omega, fun _ => ?_⟩
              refine sp_splitLet hS hRW ha (show l < a by omega) (fr s4 x2) x3 (fun s hs => by have := FN_lt x5.1 hs hs; omega) (fun s5 v1 v2 v3 => ?_)
              dsimp only
              try simp only [awu 214 5, pe214, xs, i_load, i_loadR, i_inc, lg, lp, true_and, and_true, List.length_cons, List.length_nil, Nat.reduceAdd, Nat.reduceLeDiff, Nat.zero_le, Int.toNat_natCast, natLit, k0, wl' ()]
              have href : ∀ s t, s < n → t < n → nsk (fun s => ((k' s : Int), (k' (dl M a n s l) : Int))) s = nsk (fun s => ((k' s : Int), (k' (dl M a n s l) : Int))) t → k' s = k' t ∧ k' (dl M a n s l) = k' (dl M a n t l) := by
                intro s t h1 h2 e
                have e : ((k' s : Int), (k' (dl M a n s l) : Int)) = ((k' t : Int), (k' (dl M a n t l) : Int)) := nsk_eq.mp e
                have e1 : (k' s : Int) = (k' t : Int) := congrArg Prod.fst e
                have e2 : (k' (dl M a n s l) : Int) = (k' (dl M a n t l) : Int) := congrArg Prod.snd e
                exact ⟨by omega, by omega⟩
              refine ihl (l + 1) s5 _ (by omega) (FrK_t x2 v3) v1 v2 (KI_l hS (by omega) x5) (fun s t h1 h2 e => x6 s t h1 h2 (href s t h1 h2 e).1) (fun hle2 => ?_)
              have m1 := isF_le (C := fun _ => true) (k := k') (k' := nsk (fun s => ((k' s : Int), (k' (dl M a n s l) : Int)))) (n := n) (fun s t h1 h2 _ _ e => (href s t h1 h2 e).1)
              have m2 := isF_le (C := fun _ => true) (k := k) (k' := k') (n := n) (fun s t h1 h2 _ _ e => x6 s t h1 h2 e)
              obtain ⟨e1, e2⟩ := x7 (by omega)
              have m3 := isF_eq (C := fun _ => true) (k := k') (k' := nsk (fun s => ((k' s : Int), (k' (dl M a n s l) : Int)))) (n := n) (fun s t h1 h2 _ _ e => (href s t h1 h2 e).1) (by omega)
              refine ⟨fun s t h1 h2 e => m3 s t h1 h2 rfl rfl (e1 s t h1 h2 e), fun s t j h1 h2 hj e => ?_⟩
              by_cases z : j = l
              · subst z
                obtain ⟨d1, -⟩ := hS.2.2.2.2.1 s j h1 (by omega)
                obtain ⟨d2, -⟩ := hS.2.2.2.2.1 t j h2 (by omega)
                exact x6 _ _ d1 d2 (href s t h1 h2 (m3 s t h1 h2 rfl rfl (e1 s t h1 h2 e))).2
              · exact e2 s t j h1 h2 (by omega) e
          rw [awu 214 1]
          try simp only [awu 214 2, awu 214 3, pe214, xs, i_load, i_loadR, i_inc, lg, lp, true_and, and_true, List.length_cons, List.length_nil, Nat.reduceAdd, Nat.reduceLeDiff, Nat.zero_le, Int.toNat_natCast, natLit, k0, g4]
          refine ⟨fun h => by omega, fun _ => ⟨fun h => by omega, fun _ => lets a 0 s3 k (by omega) g2 g3 g4 g5 (fun _ _ _ _ e => e) (fun _ => ⟨fun _ _ _ _ e => e, fun s t j _ _ h => by omega⟩)⟩⟩
        · subst g6
          rw [awu 214 1]
          try simp only [awu 214 2, awu 214 7, pe214, xs, i_load, i_loadR, i_inc, lg, lp, true_and, and_true, List.length_cons, List.length_nil, Nat.reduceAdd, Nat.reduceLeDiff, Nat.zero_le, Int.toNat_natCast, natLit, k0, g4]
          exact ⟨fun h => by omega, fun _ => ⟨fun _ => fin s3 k g2 g3 g6', fun h => absurd (Int.le_refl _) h⟩⟩
    have hpos : 0 < cn (isF (fun _ => true) (nsk (fun s => (0, (btM M M a 0 n).2.1 s)))) n := cn_pos (b := 0) hS.1.1 (isF_d.mpr ⟨rfl, fun t ht => by omega⟩)
    try simp only [awu 214 0, pe214, xs, i_load, i_loadR, i_inc, lg, lp, true_and, and_true, List.length_cons, List.length_nil, Nat.reduceAdd, Nat.reduceLeDiff, Nat.zero_le, Int.toNat_natCast, natLit, k0]
    exact turns 201 0 s2 _ 0 _ (by omega) z3 z1 z2 hk0 (Or.inl ⟨hpos, hpos⟩)
  · exfalso
    have := Go_201 hMW ha m0 hM2 y1.1
    have := y1.2
    omega
