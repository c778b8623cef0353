/-! one state takes in another (reference) -/
def SM (st : St) (T : List (Nat × Nat)) : Prop := st 99 27 = (2 * T.length : Nat) ∧ ∀ i, i < T.length → st 117 (2 * i) = ((T.getD (T.length - 1 - i) (0, 0)).1 : Nat) ∧ st 117 (2 * i + 1) = ((T.getD (T.length - 1 - i) (0, 0)).2 : Nat)
theorem sp_mpair {d x y : Nat} {st : St} {T : List (Nat × Nat)} {Q : Rn} (hT : SM st T) (hl : T.length ≤ 600) (hq : ∀ st' : St, SM st' ((x, y) :: T) → (∀ j i, j ≠ 117 → ¬ (j = 99 ∧ i = 27) → st' j i = st j i) → Q none st') : MS (d + 1) 63 [vr 99, vi x, vi y] st Q := by
  have k0 : kl 99 = 12 := rfl
  have k1 : kl 117 = 50 := rfl
  have l1 : len 117 = 1400 := rfl
  obtain ⟨h27, hT⟩ := hT
  have e1 : up2 st 117 (2 * T.length) x 99 27 = (2 * T.length : Nat) := by rw [up2_ne (by omega)]; exact h27
  have e2 : up2 (up2 st 117 (2 * T.length) x) 117 (2 * T.length + 1) y 99 27 = (2 * T.length : Nat) := by rw [up2_ne (by omega), up2_ne (by omega)]; exact h27
  have w1 : Unit → wr (((2 * T.length : Nat) : Int) + 1) = ((2 * T.length + 1 : Nat) : Int) := fun _ => by rw [wr_id (by omega) (by omega)]; omega
  have w2 : Unit → wr (((2 * T.length : Nat) : Int) + 2) = ((2 * (T.length + 1) : Nat) : Int) := fun _ => by rw [wr_id (by omega) (by omega)]; omega
  refine MS_v [vr 99, vi x, vi y] rfl rfl rfl rfl ?_
  try simp only [awu 63 0, pe63, xs, i_load, i_loadR, i_inc, lg, lp, true_and, and_true, List.length_cons, List.length_nil, Nat.reduceAdd, Nat.reduceLeDiff, Nat.zero_le, Int.toNat_natCast, natLit, k0, k1, l1, h27, e1, w1 (), e2, w2 ()]
  refine ⟨by omega, by omega, ?_⟩
  refine hq _ ⟨?_, fun i hi => ?_⟩ (fun j i h1 h2 => ?_)
  · simp only [up2_at]
    simp
  · rw [List.length_cons] at hi ⊢
    simp only [up2_at]
    by_cases e : i = T.length
    · subst e
      simp
    · have := hT i (by omega)
      rw [show T.length + 1 - 1 - i = (T.length - 1 - i) + 1 by omega]
      simp [show ¬ 2 * i = 2 * T.length + 1 by omega, show ¬ 2 * i = 2 * T.length by omega, show ¬ 2 * i + 1 = 2 * T.length by omega, e]
      simp at this
      exact this
  · simp only [up2_at]
    by_cases e : j = 99
    · subst e
      have : i ≠ 27 := fun e => h2 ⟨rfl, e⟩
      simp [this]
    · simp [e, h1]
def mf (F : FS) (a b : Nat) : Nat := if F.2.1 a ≠ 0 ∧ F.2.1 b ≠ 0 then 1 else 0
set_option maxHeartbeats 1000000 in
theorem sp_mtie {d n q a b J m0 : Nat} {st : St} {F : FS} {T : List (Nat × Nat)} {Q : Rn} (hn : n ≤ 120) (hq4 : q ≤ 4) (hC : MR st n q F) (hF : FI n F) (hL : LA n q F) (hab : a < b) (hb : b < n) (ua : F.1 a = a) (ub : F.1 b = b) (hJ : st 99 24 = J) (hJn : J < 120) (hm0 : st 99 25 = m0) (hm1 : m0 < 1000) (hT : SM st T) (hTl : T.length ≤ 477)
    (hq : ∀ st' : St, MR st' n q (ab F a b) → SM st' (plT F a b T 4) → st' 99 24 = (J + 1 : Nat) → st' 99 25 = (m0 + mf F a b : Nat) → (∀ i, i < J → st' 113 i = st 113 i ∧ st' 114 i = st 114 i ∧ st' 115 i = st 115 i) → (∀ i, i < 4 * J → st' 116 i = st 116 i) → st' 113 J = b → st' 114 J = F.2.1 a → st' 115 J = F.2.2.1 a → (∀ l, l < q → st' 116 (4 * J + l) = F.2.2.2 (4 * a + l)) → (∀ j i, j < 99 ∨ (j = 99 ∧ i ≠ 19 ∧ i ≠ 24 ∧ i ≠ 25 ∧ i ≠ 27) ∨ (99 < j ∧ j < 109) ∨ 117 < j → st' j i = st j i) → Q none st') : MS (d + 2) 64 [vr 99, vi a, vi b] st Q := by
  have k0 : kl 99 = 12 := rfl
  have k1 : kl 109 = 50 := rfl
  have l1 : len 109 = 161 := rfl
  have k2 : kl 110 = 50 := rfl
  have l2 : len 110 = 161 := rfl
  have k3 : kl 111 = 52 := rfl
  have l3 : len 111 = 161 := rfl
  have k4 : kl 112 = 50 := rfl
  have l4 : len 112 = 644 := rfl
  have k5 : kl 113 = 50 := rfl
  have l5 : len 113 = 161 := rfl
  have k6 : kl 114 = 50 := rfl
  have l6 : len 114 = 161 := rfl
  have k7 : kl 115 = 52 := rfl
  have l7 : len 115 = 161 := rfl
  have k8 : kl 116 = 50 := rfl
  have l8 : len 116 = 644 := rfl
  obtain ⟨h14, h2, h1, h4, h19⟩ := id hC
  obtain ⟨a1, a2, a3⟩ := h1 a (by omega)
  obtain ⟨b1, b2, b3⟩ := h1 b hb
  have hma := hF.2.1 a (by omega)
  have hmb := hF.2.1 b hb
  have hra := hF.2.2.1 a (by omega)
  have hrb := hF.2.2.1 b hb
  have hcR := cR_ab (F := F) hab hb ub
  have hcRl : cR F n ≤ n := cn_le n
  -- letters that there aren't
  have plq : ∀ l, q ≤ l → l ≤ 4 → plT F a b T l = plT F a b T q := by
    intro l
    induction l with
    | zero => intro h1 _; rw [show q = 0 by omega]
    | succ l ih =>
      intro h1 h2
      by_cases e : q = l + 1
      · rw [e]
      · have hb0 : bth F a b l = false := by unfold bth; rw [hL a l (by omega) (by omega) (by omega)]; rfl
        show (if bth F a b l then _ else plT F a b T l) = _
        rw [hb0]
        exact ih (by omega) (by omega)
  -- the end: marks, red
  have E3 : ∀ s5 : St, (∀ k, k < n → s5 109 k = (if (ab F a b).1 k = k then -1 else ((ab F a b).1 k : Int)) ∧ s5 110 k = (ab F a b).2.1 k ∧ s5 111 k = F.2.2.1 k) → (∀ i, i < 4 * n → s5 112 i = abk F a b 4 i) → s5 99 19 = (cR F n : Nat) → s5 99 24 = (J + 1 : Nat) → s5 99 25 = (m0 + mf F a b : Nat) → SM s5 (plT F a b T 4) → (∀ i, i < J → s5 113 i = st 113 i ∧ s5 114 i = st 114 i ∧ s5 115 i = st 115 i) → (∀ i, i < 4 * J → s5 116 i = st 116 i) → s5 113 J = b → s5 114 J = F.2.1 a → s5 115 J = F.2.2.1 a → (∀ l, l < q → s5 116 (4 * J + l) = F.2.2.2 (4 * a + l)) → (∀ j i, j < 99 ∨ (j = 99 ∧ i ≠ 19 ∧ i ≠ 24 ∧ i ≠ 25 ∧ i ≠ 27) ∨ (99 < j ∧ j < 109) ∨ 117 < j → s5 j i = st j i) → ∀ (u4 u5 u6 : V), ∀ v : Int, v = (if F.2.2.1 a = 0 then F.2.2.1 b else F.2.2.1 a) → AW (P 64) Q (MS (d + 1)) 0 (fun _ => 0) 18 [vr 99, vi a, vi b, vi J, u4, u5, u6] [vi v, vi a, vr 111] s5 := by
    intro s5 z1 z4 z19 z24 z25 zT zt1 zt2 zb zm zr zk zf u4 u5 u6 v hv
    have w1 : Unit → wr ((cR F n : Int) - 1) = (cR (ab F a b) n : Int) := fun _ => by rw [wr_id (by omega) (by omega)]; omega
    have q19 : up2 s5 111 a v 99 19 = (cR F n : Nat) := by rw [up2_ne (by omega)]; exact z19
    rw [awu 64 18]
    try simp only [awu 64 18, pe64, xs, i_load, i_loadR, i_inc, lg, lp, true_and, and_true, List.length_cons, List.length_nil, Nat.reduceAdd, Nat.reduceLeDiff, Nat.zero_le, Int.toNat_natCast, natLit, k0, k3, l3, q19, w1 ()]
    refine ⟨by omega, ?_, ?_⟩
    · rw [hv]
      split
      · exact hrb
      · exact hra
    refine hq _ ⟨?_, ?_, fun k hk => ?_, fun i hi => ?_, ?_⟩ ⟨?_, fun i hi => ?_⟩ ?_ ?_ (fun i hi => ?_) (fun i hi => ?_) ?_ ?_ ?_ (fun l hl => ?_) (fun j i hj => ?_)
    · rw [up2_at, if_pos rfl, if_neg (by omega), up2_ne (by omega), zf 99 14 (by omega)]; exact h14
    · rw [up2_at, if_pos rfl, if_neg (by omega), up2_ne (by omega), zf 99 2 (by omega)]; exact h2
    · obtain ⟨y1, y2, y3⟩ := z1 k hk
      rw [up2_ne (by omega), up2_ne (by omega), up2_ne (by omega), up2_ne (by omega), up2_ne (by omega), up2_self]
      refine ⟨y1, y2, ?_⟩
      show upf (s5 111) a v k = upf F.2.2.1 a _ k
      rw [hv]
      unfold upf
      split
      · rfl
      · exact y3
    · rw [up2_ne (by omega), up2_ne (by omega)]; exact z4 i hi
    · rw [up2_at, if_pos rfl, if_pos rfl]
    · rw [up2_at, if_pos rfl, if_neg (by omega), up2_ne (by omega)]; exact zT.1
    · rw [up2_ne (by omega), up2_ne (by omega)]; exact zT.2 i hi
    · rw [up2_at, if_pos rfl, if_neg (by omega), up2_ne (by omega)]; exact z24
    · rw [up2_at, if_pos rfl, if_neg (by omega), up2_ne (by omega)]; exact z25
    · rw [up2_ne (by omega), up2_ne (by omega), up2_ne (by omega), up2_ne (by omega), up2_ne (by omega), up2_ne (by omega)]; exact zt1 i hi
    · rw [up2_ne (by omega), up2_ne (by omega)]; exact zt2 i hi
    · rw [up2_ne (by omega), up2_ne (by omega)]; exact zb
    · rw [up2_ne (by omega), up2_ne (by omega)]; exact zm
    · rw [up2_ne (by omega), up2_ne (by omega)]; exact zr
    · rw [up2_ne (by omega), up2_ne (by omega)]; exact zk l hl
    · rw [up2_at]
      by_cases e : j = 99
      · subst e
        rw [if_pos rfl, if_neg (by omega), up2_ne (by omega)]; exact zf 99 i hj
      · rw [if_neg e, up2_ne (by omega)]; exact zf j i hj
  -- behind the letters
  have E : ∀ s4 : St, (∀ k, k < n → s4 109 k = (if F.1 k = k then -1 else (F.1 k : Int)) ∧ s4 110 k = F.2.1 k ∧ s4 111 k = F.2.2.1 k) → (∀ i, i < 4 * n → s4 112 i = abk F a b 4 i) → s4 99 19 = (cR F n : Nat) → s4 99 24 = J → s4 99 25 = m0 → SM s4 (plT F a b T 4) → (∀ i, i < J → s4 113 i = st 113 i ∧ s4 114 i = st 114 i ∧ s4 115 i = st 115 i) → (∀ i, i < 4 * J → s4 116 i = st 116 i) → s4 113 J = b → s4 114 J = F.2.1 a → s4 115 J = F.2.2.1 a → (∀ l, l < q → s4 116 (4 * J + l) = F.2.2.2 (4 * a + l)) → (∀ j i, j < 99 ∨ (j = 99 ∧ i ≠ 19 ∧ i ≠ 24 ∧ i ≠ 25 ∧ i ≠ 27) ∨ (99 < j ∧ j < 109) ∨ 117 < j → s4 j i = st j i) → ∀ (u4 u5 u6 : V), AW (P 64) Q (MS (d + 1)) 0 (fun _ => 0) 7 [vr 99, vi a, vi b, vi J, u4, u5, u6] [] s4 := by
    intro s4 z1 z4 z19 z24 z25 zT zt1 zt2 zb zm zr zk zf u4 u5 u6
    have w1 : Unit → wr ((J : Int) + 1) = ((J + 1 : Nat) : Int) := fun _ => by rw [wr_id (by omega) (by omega)]; omega
    -- the state with the tie, the count of marks
    have D : ∀ v : Int, v = (mf F a b : Nat) → AW (P 64) Q (MS (d + 1)) 0 (fun _ => 0) 11 [vr 99, vi a, vi b, vi J, u4, u5, u6] [vi v, vi m0, vr 99] (up2 (up2 s4 99 24 (J + 1 : Nat)) 109 b a) := by
      intro v hv
      have hmf : mf F a b ≤ 1 := by unfold mf; split <;> omega
      have w2 : Unit → wr ((m0 : Int) + v) = ((m0 + mf F a b : Nat) : Int) := fun _ => by rw [wr_id (by omega) (by omega)]; omega
      have m1 : up2 (up2 (up2 s4 99 24 (J + 1 : Nat)) 109 b a) 99 25 (m0 + mf F a b : Nat) 110 a = F.2.1 a := by rw [up2_ne (by omega), up2_ne (by omega), up2_ne (by omega)]; exact (z1 a (by omega)).2.1
      have m2 : up2 (up2 (up2 s4 99 24 (J + 1 : Nat)) 109 b a) 99 25 (m0 + mf F a b : Nat) 110 b = F.2.1 b := by rw [up2_ne (by omega), up2_ne (by omega), up2_ne (by omega)]; exact (z1 b hb).2.1
      have fin : ∀ w : Int, w = (if F.2.1 a = 0 then F.2.1 b else F.2.1 a) → AW (P 64) Q (MS (d + 1)) 0 (fun _ => 0) 14 [vr 99, vi a, vi b, vi J, u4, u5, u6] [vi w, vi a, vr 110] (up2 (up2 (up2 s4 99 24 (J + 1 : Nat)) 109 b a) 99 25 (m0 + mf F a b : Nat)) := by
        intro w hw
        have r1 : up2 (up2 (up2 (up2 s4 99 24 (J + 1 : Nat)) 109 b a) 99 25 (m0 + mf F a b : Nat)) 110 a w 111 a = F.2.2.1 a := by rw [up2_ne (by omega), up2_ne (by omega), up2_ne (by omega), up2_ne (by omega)]; exact (z1 a (by omega)).2.2
        have r2 : up2 (up2 (up2 (up2 s4 99 24 (J + 1 : Nat)) 109 b a) 99 25 (m0 + mf F a b : Nat)) 110 a w 111 b = F.2.2.1 b := by rw [up2_ne (by omega), up2_ne (by omega), up2_ne (by omega), up2_ne (by omega)]; exact (z1 b hb).2.2
        have fin2 := E3 (up2 (up2 (up2 (up2 s4 99 24 (J + 1 : Nat)) 109 b a) 99 25 (m0 + mf F a b : Nat)) 110 a w) (fun k hk => by
            obtain ⟨y1, y2, y3⟩ := z1 k hk
            simp only [up2_at]
            simp
            refine ⟨?_, ?_, y3⟩
            · show _ = (if updN F.1 b a k = k then -1 else ((updN F.1 b a k : Nat) : Int))
              unfold updN
              by_cases e : k = b
              · subst e
                simp
                omega
              · simp [e, y1]
            · show _ = upf F.2.1 a _ k
              rw [← hw]
              unfold upf
              split
              · rfl
              · exact y2) (fun i hi => by
            rw [up2_ne (by omega), up2_ne (by omega), up2_ne (by omega), up2_ne (by omega)]; exact z4 i hi) (by simp only [up2_at]; simp [z19]) (by simp only [up2_at]; simp) (by simp only [up2_at]; simp) ⟨by simp only [up2_at]; simp [zT.1], fun i hi => by
            rw [up2_ne (by omega), up2_ne (by omega), up2_ne (by omega), up2_ne (by omega)]; exact zT.2 i hi⟩ (fun i hi => by
            have := zt1 i hi
            simp only [up2_at]; simp; exact this) (fun i hi => by
            have := zt2 i hi
            simp only [up2_at]; simp; exact this) (by simp only [up2_at]; simp; exact zb) (by simp only [up2_at]; simp; exact zm) (by simp only [up2_at]; simp; exact zr) (fun l hl => by
            have := zk l hl
            simp only [up2_at]; simp; exact this) (fun j i hj => by
            have := zf j i hj
            simp only [up2_at]
            by_cases e : j = 99
            · subst e
              simp [show i ≠ 25 by omega, show i ≠ 24 by omega, this]
            · simp [e, show j ≠ 110 by omega, show j ≠ 109 by omega, this]) u4 u5 u6
        rw [awu 64 14]
        try simp only [awu 64 15, awu 64 16, awu 64 17, pe64, xs, i_load, i_loadR, i_inc, lg, lp, true_and, and_true, List.length_cons, List.length_nil, Nat.reduceAdd, Nat.reduceLeDiff, Nat.zero_le, Int.toNat_natCast, natLit, k0, k2, l2, k3, l3, r1, r2]
        refine ⟨by omega, by omega, ?_⟩
        rcases hra with e | e
        · rw [e] at fin2 ⊢
          refine ⟨fun h => absurd rfl h, fun _ => ⟨by omega, ?_⟩⟩
          rcases hrb with e2 | e2
          · rw [e2] at fin2 ⊢
            exact ⟨fun _ => fin2 0 rfl, fun h => absurd rfl h⟩
          · rw [e2] at fin2 ⊢
            exact ⟨fun h => absurd h (by decide), fun _ => fin2 1 rfl⟩
        · rw [e] at fin2 ⊢
          exact ⟨fun _ => fin2 1 rfl, fun h => absurd (by decide) h⟩
      rw [awu 64 11]
      try simp only [awu 64 12, awu 64 13, pe64, xs, i_load, i_loadR, i_inc, lg, lp, true_and, and_true, List.length_cons, List.length_nil, Nat.reduceAdd, Nat.reduceLeDiff, Nat.zero_le, Int.toNat_natCast, natLit, k0, k2, l2, w2 (), m1, m2]
      refine ⟨by omega, fun h => ⟨by omega, fin _ (by rw [if_neg h])⟩, fun h => ⟨by omega, fin _ (by rw [if_pos (by omega)])⟩⟩
    have e25 : up2 (up2 s4 99 24 (J + 1 : Nat)) 109 b a 99 25 = m0 := by rw [up2_ne (by omega), up2_at, if_pos rfl, if_neg (by omega)]; exact z25
    have p1 : up2 (up2 s4 99 24 (J + 1 : Nat)) 109 b a 110 a = F.2.1 a := by rw [up2_ne (by omega), up2_ne (by omega)]; exact (z1 a (by omega)).2.1
    have p2 : up2 (up2 s4 99 24 (J + 1 : Nat)) 109 b a 110 b = F.2.1 b := by rw [up2_ne (by omega), up2_ne (by omega)]; exact (z1 b hb).2.1
    rw [awu 64 7]
    try simp only [awu 64 8, awu 64 9, awu 64 10, pe64, xs, i_load, i_loadR, i_inc, lg, lp, true_and, and_true, List.length_cons, List.length_nil, Nat.reduceAdd, Nat.reduceLeDiff, Nat.zero_le, Int.toNat_natCast, natLit, k0, k1, l1, k2, l2, z24, w1 (), e25, p1, p2]
    unfold mf at D
    refine ⟨by omega, by omega, fun h => D 0 (by rw [if_neg (fun z => z.1 h)]; rfl), fun h => ⟨by omega, fun h2 => D 0 (by rw [if_neg (fun z => z.2 h2)]; rfl), fun h2 => D 1 (by rw [if_pos ⟨h, h2⟩]; rfl)⟩⟩
  -- the letters
  have L : ∀ m l : Nat, ∀ (s4 : St) (u5 u6 : V), l ≤ q → q - l = m → (∀ k, k < n → s4 109 k = (if F.1 k = k then -1 else (F.1 k : Int)) ∧ s4 110 k = F.2.1 k ∧ s4 111 k = F.2.2.1 k) → (∀ i, i < 4 * n → s4 112 i = abk F a b l i) → s4 99 19 = (cR F n : Nat) → s4 99 24 = J → s4 99 25 = m0 → SM s4 (plT F a b T l) → (∀ i, i < J → s4 113 i = st 113 i ∧ s4 114 i = st 114 i ∧ s4 115 i = st 115 i) → (∀ i, i < 4 * J → s4 116 i = st 116 i) → s4 113 J = b → s4 114 J = F.2.1 a → s4 115 J = F.2.2.1 a → (∀ r, r < l → s4 116 (4 * J + r) = F.2.2.2 (4 * a + r)) → (∀ j i, j < 99 ∨ (j = 99 ∧ i ≠ 19 ∧ i ≠ 24 ∧ i ≠ 25 ∧ i ≠ 27) ∨ (99 < j ∧ j < 109) ∨ 117 < j → s4 j i = st j i) → AW (P 64) Q (MS (d + 1)) 0 (fun _ => 0) 1 [vr 99, vi a, vi b, vi J, vi l, u5, u6] [] s4 := by
    intro m
    induction m with
    | zero =>
      intro l s4 u5 u6 g1 g2 z1 z4 z19 z24 z25 zT zt1 zt2 zb zm zr zk zf
      have : l = q := by omega
      subst this
      have e2 : s4 99 2 = l := by rw [zf 99 2 (by omega)]; exact h2
      rw [awu 64 1]
      try simp only [awu 64 1, pe64, xs, i_load, i_loadR, i_inc, lg, lp, true_and, and_true, List.length_cons, List.length_nil, Nat.reduceAdd, Nat.reduceLeDiff, Nat.zero_le, Int.toNat_natCast, natLit, k0, e2]
      refine ⟨fun _ => ?_, fun h => by omega⟩
      refine E s4 z1 (fun i hi => ?_) z19 z24 z25 (by rw [plq 4 hq4 (Nat.le_refl _)]; exact zT) zt1 zt2 zb zm zr zk zf _ _ _
      rw [z4 i hi]
      unfold abk
      by_cases e : 4 * a ≤ i ∧ i < 4 * a + l ∧ F.2.2.2 i = -1
      · rw [if_pos e, if_pos (by omega)]
      · rw [if_neg e]
        split
        · rename_i q2
          have r1 := hL b (i - 4 * a) hb (by omega) (by omega)
          rw [r1]
          exact q2.2.2
        · rfl
    | succ m ih =>
      intro l s4 u5 u6 g1 g2 z1 z4 z19 z24 z25 zT zt1 zt2 zb zm zr zk zf
      have hl : l < q := by omega
      have e2 : s4 99 2 = q := by rw [zf 99 2 (by omega)]; exact h2
      have fa := hF.2.2.2 (4 * a + l) (by omega)
      have fb := hF.2.2.2 (4 * b + l) (by omega)
      have ea0 : s4 112 (4 * a + l) = F.2.2.2 (4 * a + l) := by
        rw [z4 _ (by omega)]
        unfold abk
        rw [if_neg (by omega)]
      have eb0 : s4 112 (4 * b + l) = F.2.2.2 (4 * b + l) := by
        rw [z4 _ (by omega)]
        unfold abk
        rw [if_neg (by omega)]
      have ea : up2 s4 116 (4 * J + l) (F.2.2.2 (4 * a + l)) 112 (4 * a + l) = F.2.2.2 (4 * a + l) := by rw [up2_ne (by omega)]; exact ea0
      have eb : up2 s4 116 (4 * J + l) (F.2.2.2 (4 * a + l)) 112 (4 * b + l) = F.2.2.2 (4 * b + l) := by rw [up2_ne (by omega)]; exact eb0
      have w1 : Unit → wr (4 * (a : Int)) = ((4 * a : Nat) : Int) := fun _ => by rw [wr_id (by omega) (by omega)]; omega
      have w2 : Unit → wr (((4 * a : Nat) : Int) + (l : Int)) = ((4 * a + l : Nat) : Int) := fun _ => by rw [wr_id (by omega) (by omega)]; omega
      have w3 : Unit → wr (4 * (b : Int)) = ((4 * b : Nat) : Int) := fun _ => by rw [wr_id (by omega) (by omega)]; omega
      have w4 : Unit → wr (((4 * b : Nat) : Int) + (l : Int)) = ((4 * b + l : Nat) : Int) := fun _ => by rw [wr_id (by omega) (by omega)]; omega
      have w5 : Unit → wr ((l : Int) + 1) = ((l + 1 : Nat) : Int) := fun _ => by rw [wr_id (by omega) (by omega)]; omega
      have w6 : Unit → wr (4 * (J : Int)) = ((4 * J : Nat) : Int) := fun _ => by rw [wr_id (by omega) (by omega)]; omega
      have w7 : Unit → wr (((4 * J : Nat) : Int) + (l : Int)) = ((4 * J + l : Nat) : Int) := fun _ => by rw [wr_id (by omega) (by omega)]; omega
      have hlen := plT_len (F := F) (a := a) (b := b) (T := T) l
      have p1 : plT F a b T (l + 1) = if bth F a b l then ((F.2.2.2 (4 * a + l)).toNat, (F.2.2.2 (4 * b + l)).toNat) :: plT F a b T l else plT F a b T l := rfl
      have abk1 : ∀ i, abk F a b (l + 1) i = if i = 4 * a + l then (if F.2.2.2 i = -1 then F.2.2.2 (4 * b + l) else F.2.2.2 i) else abk F a b l i := by
        intro i
        unfold abk
        by_cases e : i = 4 * a + l
        · subst e
          by_cases e2 : F.2.2.2 (4 * a + l) = -1
          · rw [if_pos (by omega), if_pos rfl, if_pos e2, show 4 * b + (4 * a + l - 4 * a) = 4 * b + l by omega]
          · rw [if_neg (by omega), if_pos rfl, if_neg e2]
        · rw [if_neg e]
          by_cases e3 : 4 * a ≤ i ∧ i < 4 * a + l ∧ F.2.2.2 i = -1
          · rw [if_pos (by omega), if_pos e3]
          · rw [if_neg (by omega), if_neg e3]
      -- the state with the arrow noted
      generalize hs5 : up2 s4 116 (4 * J + l) (F.2.2.2 (4 * a + l)) = s5 at ea eb
      have f5 : ∀ j, j ≠ 116 → s5 j = s4 j := fun j hj => by rw [← hs5, up2_ne hj]
      have k5' : s5 116 = upf (s4 116) (4 * J + l) (F.2.2.2 (4 * a + l)) := by rw [← hs5, up2_self]
      have next : ∀ (s6 : St) (u5 u6 : V), (∀ k, k < n → s6 109 k = (if F.1 k = k then -1 else (F.1 k : Int)) ∧ s6 110 k = F.2.1 k ∧ s6 111 k = F.2.2.1 k) → (∀ i, i < 4 * n → s6 112 i = abk F a b (l + 1) i) → s6 99 19 = (cR F n : Nat) → s6 99 24 = J → s6 99 25 = m0 → SM s6 (plT F a b T (l + 1)) → (∀ j, j = 113 ∨ j = 114 ∨ j = 115 ∨ j = 116 → s6 j = s5 j) → (∀ j i, j < 99 ∨ (j = 99 ∧ i ≠ 19 ∧ i ≠ 24 ∧ i ≠ 25 ∧ i ≠ 27) ∨ (99 < j ∧ j < 109) ∨ 117 < j → s6 j i = st j i) → AW (P 64) Q (MS (d + 1)) 0 (fun _ => 0) 1 [vr 99, vi a, vi b, vi J, vi (l + 1 : Nat), u5, u6] [] s6 := by
        intro s6 u5 u6 y1 y4 y19 y24 y25 yT yt yf
        refine ih (l + 1) s6 _ _ (by omega) (by omega) y1 y4 y19 y24 y25 yT (fun i hi => ?_) (fun i hi => ?_) ?_ ?_ ?_ (fun r hr => ?_) yf
        · rw [yt 113 (by omega), yt 114 (by omega), yt 115 (by omega), f5 113 (by omega), f5 114 (by omega), f5 115 (by omega)]
          exact zt1 i hi
        · rw [yt 116 (by omega), k5', upf_n (by omega)]
          exact zt2 i hi
        · rw [yt 113 (by omega), f5 113 (by omega)]; exact zb
        · rw [yt 114 (by omega), f5 114 (by omega)]; exact zm
        · rw [yt 115 (by omega), f5 115 (by omega)]; exact zr
        · rw [yt 116 (by omega), k5']
          by_cases e : r = l
          · subst e
            rw [upf_s]
          · rw [upf_n (by omega)]
            exact zk r (by omega)
      rw [awu 64 1]
      try simp only [awu 64 2, awu 64 3, awu 64 4, awu 64 5, awu 64 6, pe64, xs, i_load, i_loadR, i_inc, lg, lp, true_and, and_true, List.length_cons, List.length_nil, Nat.reduceAdd, Nat.reduceLeDiff, Nat.zero_le, Int.toNat_natCast, natLit, k0, e2, k4, l4, k8, l8, w1 (), w2 (), w3 (), w4 (), w5 (), w6 (), w7 (), ea0, hs5, ea, eb]
      refine ⟨fun h => by omega, fun _ => ⟨by omega, by omega, by omega, by omega, fun hna => ⟨fun hnb => ?_, fun hnb => ?_⟩, fun hna => ⟨by omega, ?_⟩⟩⟩
      · -- none to take over
        have hbt : bth F a b l = false := by unfold bth; simp [hnb]
        rw [hbt] at p1
        refine next s5 _ _ (fun k hk => by rw [f5 109 (by omega), f5 110 (by omega), f5 111 (by omega)]; exact z1 k hk) (fun i hi => ?_) (by rw [f5 99 (by omega)]; exact z19) (by rw [f5 99 (by omega)]; exact z24) (by rw [f5 99 (by omega)]; exact z25) (by rw [p1]; exact ⟨by rw [f5 99 (by omega)]; exact zT.1, fun i hi => by rw [f5 117 (by omega)]; exact zT.2 i hi⟩) (fun j _ => rfl) (fun j i hj => by rw [f5 j (by omega)]; exact zf j i hj)
        rw [abk1, f5 112 (by omega)]
        by_cases e : i = 4 * a + l
        · subst e
          rw [if_pos rfl, ea0, if_neg hna]
        · rw [if_neg e]
          exact z4 i hi
      · -- both
        have hbt : bth F a b l = true := by unfold bth; simp; exact ⟨hna, hnb⟩
        rw [hbt, if_pos rfl] at p1
        have e7 : F.2.2.2 (4 * a + l) = (((F.2.2.2 (4 * a + l)).toNat : Nat) : Int) := by omega
        have e8 : F.2.2.2 (4 * b + l) = (((F.2.2.2 (4 * b + l)).toNat : Nat) : Int) := by omega
        have hpr : ∀ R : Rn, (∀ st' : St, SM st' (((F.2.2.2 (4 * a + l)).toNat, (F.2.2.2 (4 * b + l)).toNat) :: plT F a b T l) → (∀ j i, j ≠ 117 → ¬ (j = 99 ∧ i = 27) → st' j i = s5 j i) → R none st') → MS (d + 1) 63 [vr 99, vi (F.2.2.2 (4 * a + l)), vi (F.2.2.2 (4 * b + l))] s5 R := by
          intro R hR
          rw [e7, e8]
          exact sp_mpair ⟨by rw [f5 99 (by omega)]; exact zT.1, fun i hi => by rw [f5 117 (by omega)]; exact zT.2 i hi⟩ (by omega) (by simpa using hR)
        refine hpr _ (fun s6 x1 x2 => ?_)
        dsimp only
        try simp only [awu 64 6, pe64, xs, i_load, i_loadR, i_inc, lg, lp, true_and, and_true, List.length_cons, List.length_nil, Nat.reduceAdd, Nat.reduceLeDiff, Nat.zero_le, Int.toNat_natCast, natLit, k0, w5 ()]
        have fx : ∀ j, j ≠ 117 → j ≠ 99 → s6 j = s4 j ∨ j = 116 := fun j h1 h2 => by
          by_cases e : j = 116
          · exact Or.inr e
          · left
            funext i
            rw [x2 j i h1 (by omega), f5 j e]
        refine next s6 _ _ (fun k hk => ?_) (fun i hi => ?_) ?_ ?_ ?_ (by rw [p1]; exact x1) (fun j hj => ?_) (fun j i hj => ?_)
        · rw [x2 109 k (by omega) (by omega), x2 110 k (by omega) (by omega), x2 111 k (by omega) (by omega), f5 109 (by omega), f5 110 (by omega), f5 111 (by omega)]
          exact z1 k hk
        · rw [abk1, x2 112 i (by omega) (by omega), f5 112 (by omega)]
          by_cases e : i = 4 * a + l
          · subst e
            rw [if_pos rfl, ea0, if_neg hna]
          · rw [if_neg e]
            exact z4 i hi
        · rw [x2 99 19 (by omega) (by omega), f5 99 (by omega)]; exact z19
        · rw [x2 99 24 (by omega) (by omega), f5 99 (by omega)]; exact z24
        · rw [x2 99 25 (by omega) (by omega), f5 99 (by omega)]; exact z25
        · funext i
          exact x2 j i (by omega) (by omega)
        · rw [x2 j i (by omega) (by omega), f5 j (by omega)]
          exact zf j i hj
      · -- it gets the arrow, or none
        have hna : F.2.2.2 (4 * a + l) = -1 := by omega
        have hbt : bth F a b l = false := by unfold bth; simp [hna]
        rw [hbt] at p1
        refine next _ _ _ (fun k hk => by rw [up2_ne (by omega), up2_ne (by omega), up2_ne (by omega), f5 109 (by omega), f5 110 (by omega), f5 111 (by omega)]; exact z1 k hk) (fun i hi => ?_) (by rw [up2_ne (by omega), f5 99 (by omega)]; exact z19) (by rw [up2_ne (by omega), f5 99 (by omega)]; exact z24) (by rw [up2_ne (by omega), f5 99 (by omega)]; exact z25) (by rw [p1]; exact ⟨by rw [up2_ne (by omega), f5 99 (by omega)]; exact zT.1, fun i hi => by rw [up2_ne (by omega), f5 117 (by omega)]; exact zT.2 i hi⟩) (fun j hj => by rw [up2_ne (by omega)]) (fun j i hj => by rw [up2_ne (by omega), f5 j (by omega)]; exact zf j i hj)
        rw [abk1, up2_self, f5 112 (by omega)]
        by_cases e : i = 4 * a + l
        · subst e
          rw [if_pos rfl, upf_s, if_pos hna]
        · rw [if_neg e, upf_n e]
          exact z4 i hi
  have q1 : up2 st 113 J b 110 a = F.2.1 a := by rw [up2_ne (by omega)]; exact a2
  have q2 : up2 (up2 st 113 J b) 114 J (F.2.1 a) 111 a = F.2.2.1 a := by rw [up2_ne (by omega), up2_ne (by omega)]; exact a3
  refine MS_v [vr 99, vi a, vi b, none, none, none, none] rfl rfl rfl rfl ?_
  try simp only [awu 64 0, pe64, xs, i_load, i_loadR, i_inc, lg, lp, true_and, and_true, List.length_cons, List.length_nil, Nat.reduceAdd, Nat.reduceLeDiff, Nat.zero_le, Int.toNat_natCast, natLit, k0, k2, l2, k3, l3, k5, l5, k6, l6, k7, l7, hJ, q1, q2]
  refine ⟨by omega, by omega, by omega, by omega, by omega, hra, ?_⟩
  refine L q 0 _ none none (Nat.zero_le _) rfl (fun k hk => ?_) (fun i hi => ?_) ?_ ?_ ?_ ⟨?_, fun i hi => ?_⟩ (fun i hi => ?_) (fun i hi => ?_) ?_ ?_ ?_ (fun r hr => by omega) (fun j i hj => ?_)
  · rw [up2_ne (by omega), up2_ne (by omega), up2_ne (by omega), up2_ne (by omega), up2_ne (by omega), up2_ne (by omega), up2_ne (by omega), up2_ne (by omega), up2_ne (by omega)]
    exact h1 k hk
  · rw [up2_ne (by omega), up2_ne (by omega), up2_ne (by omega), h4 i hi]
    unfold abk
    rw [if_neg (by omega)]
  · rw [up2_ne (by omega), up2_ne (by omega), up2_ne (by omega)]; exact h19
  · rw [up2_ne (by omega), up2_ne (by omega), up2_ne (by omega)]; exact hJ
  · rw [up2_ne (by omega), up2_ne (by omega), up2_ne (by omega)]; exact hm0
  · rw [up2_ne (by omega), up2_ne (by omega), up2_ne (by omega)]; exact hT.1
  · rw [up2_ne (by omega), up2_ne (by omega), up2_ne (by omega)]; exact hT.2 i hi
  · simp only [up2_at]
    simp [show i ≠ J by omega]
  · rw [up2_ne (by omega), up2_ne (by omega), up2_ne (by omega)]
  · simp only [up2_at]; simp
  · simp only [up2_at]; simp
  · simp only [up2_at]; simp
  · rw [up2_ne (by omega), up2_ne (by omega), up2_ne (by omega)]
