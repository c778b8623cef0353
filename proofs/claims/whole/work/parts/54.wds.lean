/-! how many words: the class -/
def sN (f : Nat → Nat) : Nat → Nat
  | 0 => 0
  | n + 1 => sN f n + f n
theorem sN_s {f : Nat → Nat} {n : Nat} : sN f (n + 1) = sN f n + f n := rfl
theorem sN_le {f : Nat → Nat} {b : Nat} : ∀ {n : Nat}, (∀ l, l < n → f l ≤ b) → sN f n ≤ n * b
  | 0, _ => by simp [sN]
  | n + 1, h => by
    have := sN_le (f := f) (b := b) (n := n) (fun l hl => h l (by omega))
    have := h n (by omega)
    rw [sN_s, Nat.add_mul]
    omega
theorem sN_congr {f g : Nat → Nat} : ∀ {n : Nat}, (∀ l, l < n → f l = g l) → sN f n = sN g n
  | 0, _ => rfl
  | n + 1, h => by rw [sN_s, sN_s, sN_congr (fun l hl => h l (by omega)), h n (by omega)]
theorem sN_0 {n : Nat} : sN (fun _ => 0) n = 0 := by
  induction n with
  | zero => rfl
  | succ n ih => rw [sN_s, ih]
def cw (M : MC) (a : Nat) : Nat → Int → Nat
  | 0, s => if inM M s then 1 else 0
  | k + 1, s => sN (fun l => cw M a k (fo M s l)) a
theorem cw_s {M : MC} {a k : Nat} {s : Int} : cw M a (k + 1) s = sN (fun l => cw M a k (fo M s l)) a := rfl
theorem cw_n {M : MC} {a : Nat} : ∀ k, cw M a k (-1) = 0
  | 0 => by
    show (if inM M (-1) then 1 else 0) = 0
    unfold inM
    rw [decide_eq_false (by omega)]
    rfl
  | k + 1 => by
    rw [cw_s, sN_congr (g := fun _ => 0) (fun l _ => by rw [fo_n, cw_n k]), sN_0]
theorem cw_b {M : MC} {a : Nat} (ha : a ≤ 4) : ∀ k s, cw M a k s ≤ 4 ^ k
  | 0, s => by
    show (if inM M s then 1 else 0) ≤ 1
    split <;> decide
  | k + 1, s => by
    rw [cw_s]
    have := sN_le (f := fun l => cw M a k (fo M s l)) (n := a) (fun l _ => cw_b ha k _)
    have h2 : a * 4 ^ k ≤ 4 * 4 ^ k := Nat.mul_le_mul_right _ ha
    rw [Nat.pow_succ]
    omega
theorem cw_m {M : MC} {a : Nat} (ha : a ≤ 4) {k : Nat} (hk : k ≤ 10) (s : Int) : cw M a k s ≤ 1048576 :=
  Nat.le_trans (cw_b ha k s) (pw4 hk)
def WY (st : St) (M : MC) (a K : Nat) : Prop := ∀ k s, k ≤ K → s < M.1 → st 81 (201 * k + s) = (cw M a k (s : Int) : Nat)
theorem sp_waysOf {d a K k : Nat} {s : Int} {st : St} {M : MC} {Q : Rn} (hY : WY st M a K) (hM : M.1 ≤ 201) (hK : K ≤ 10) (hk : k ≤ K) (hs : s = -1 ∨ (0 ≤ s ∧ s < M.1)) (hq : Q (vi (cw M a k s : Nat)) st) : MS (d + 1) 197 [vr 80, vi s, vi k] st Q := by
  have k0 : kl 80 = 3 := rfl
  have k1 : kl 81 = 50 := rfl
  have l1 : len 81 = 2211 := rfl
  refine MS_v [vr 80, vi s, vi k] rfl rfl rfl rfl ?_
  rcases hs with e | ⟨h1, h2⟩
  · subst e
    rw [cw_n] at hq
    try simp only [awu 197 0, awu 197 4, pe197, xs, i_load, i_loadR, i_inc, lg, lp, true_and, and_true, List.length_cons, List.length_nil, Nat.reduceAdd, Nat.reduceLeDiff, Nat.zero_le, Int.toNat_natCast, natLit, k0]
    exact ⟨fun _ => hq, fun h => absurd (by decide) h⟩
  · obtain ⟨t, rfl⟩ : ∃ t : Nat, s = t := ⟨s.toNat, by omega⟩
    have w1 : Unit → wr ((k : Int) * 201) = ((201 * k : Nat) : Int) := fun _ => by rw [wr_id (by omega) (by omega)]; omega
    have w2 : Unit → wr (((201 * k : Nat) : Int) + (t : Int)) = ((201 * k + t : Nat) : Int) := fun _ => by rw [wr_id (by omega) (by omega)]; omega
    have e := hY k t hk (by omega)
    try simp only [awu 197 0, awu 197 1, awu 197 2, awu 197 3, awu 197 5, pe197, xs, i_load, i_loadR, i_inc, lg, lp, true_and, and_true, List.length_cons, List.length_nil, Nat.reduceAdd, Nat.reduceLeDiff, Nat.zero_le, Int.toNat_natCast, natLit, k0, k1, l1, w1 (), w2 (), e]
    exact ⟨fun h => by omega, fun _ => ⟨fun h => by omega, fun _ => ⟨fun h => by omega, fun _ => ⟨fun _ => ⟨by omega, hq⟩, fun h => by omega⟩⟩⟩⟩
set_option maxHeartbeats 1000000 in
theorem sp_count {d o cap a K : Nat} {st : St} {M : MC} {Q : Rn} (ho : isMc o cap) (hM : MCc st o cap M) (hW : MW a M) (ha : a ≤ 4) (hK : K ≤ 10) (ho2 : o + 2 < 80)
    (hq : ∀ st' : St, WY st' M a K → (∀ q, q ≠ 81 → st' q = st q) → Q none st') : MS (d + 3) 196 [vr 80, vr o, vi a, vi K] st Q := by
  have k0 : kl 80 = 3 := rfl
  have k1 : kl 81 = 50 := rfl
  have l1 : len 81 = 2211 := rfl
  have ko := ho.1
  have hcap := ho.2.2.2
  have hM2 := hM.2.1
  have fr : ∀ s2 : St, (∀ q, q ≠ 81 → s2 q = st q) → MCc s2 o cap M ∧ s2 o 2 = (M.1 : Nat) := fun s2 h => by
    have := MCc_congr hM (fun q h1 h2 => h q (by omega))
    exact ⟨this, this.1⟩
  have key2 : ∀ m k : Nat, ∀ (s2 : St) (u5 u6 u7 : V), k + m = K + 1 → 0 < k → (∀ q, q ≠ 81 → s2 q = st q) → WY s2 M a (k - 1) → AW (P 196) Q (MS (d + 2)) 0 (fun _ => 0) 8 [vr 80, vr o, vi a, vi K, vi k, u5, u6, u7] [] s2 := by
    intro m
    induction m with
    | zero =>
      intro k s2 u5 u6 u7 g1 g1' g2 g3
      rw [awu 196 8]
      try simp only [awu 196 18, pe196, xs, i_load, i_loadR, i_inc, lg, lp, true_and, and_true, List.length_cons, List.length_nil, Nat.reduceAdd, Nat.reduceLeDiff, Nat.zero_le, Int.toNat_natCast, natLit, k0]
      rw [show k - 1 = K by omega] at g3
      exact ⟨fun _ => hq s2 g3 g2, fun h => by omega⟩
    | succ m ih =>
      intro k s2 u5 u6 u7 g1 g1' g2 g3
      have w : Unit → wr ((k : Int) + 1) = ((k + 1 : Nat) : Int) := fun _ => by rw [wr_id (by omega) (by omega)]; omega
      have wk : Unit → wr ((k : Int) - 1) = ((k - 1 : Nat) : Int) := fun _ => by rw [wr_id (by omega) (by omega)]; omega
      have w1 : Unit → wr ((k : Int) * 201) = ((201 * k : Nat) : Int) := fun _ => by rw [wr_id (by omega) (by omega)]; omega
      have keys : ∀ m s : Nat, ∀ (s3 : St) (u6 u7 : V), s + m = M.1 → (∀ q, q ≠ 81 → s3 q = st q) → WY s3 M a (k - 1) → (∀ t, t < s → s3 81 (201 * k + t) = (cw M a k (t : Int) : Nat)) → AW (P 196) Q (MS (d + 2)) 0 (fun _ => 0) 11 [vr 80, vr o, vi a, vi K, vi k, vi s, u6, u7] [] s3 := by
        intro m
        induction m with
        | zero =>
          intro s s3 u6 u7 h1 h2 h3 h4
          have : s = M.1 := by omega
          subst this
          obtain ⟨f1, f2⟩ := fr s3 h2
          rw [awu 196 11]
          try simp only [awu 196 17, pe196, xs, i_load, i_loadR, i_inc, lg, lp, true_and, and_true, List.length_cons, List.length_nil, Nat.reduceAdd, Nat.reduceLeDiff, Nat.zero_le, Int.toNat_natCast, natLit, k0, ko, f2, w ()]
          refine ⟨fun _ => ih (k + 1) s3 _ _ _ (by omega) (by omega) h2 (fun k' s a1 a2 => ?_), fun h => absurd (Int.le_refl _) h⟩
          rcases Nat.lt_or_ge k' k with z | z
          · exact h3 k' s (by omega) a2
          · have : k' = k := by omega
            subst this
            exact h4 s a2
        | succ m ihs =>
          intro s s3 u6 u7 h1 h2 h3 h4
          obtain ⟨f1, f2⟩ := fr s3 h2
          have ws : Unit → wr ((s : Int) + 1) = ((s + 1 : Nat) : Int) := fun _ => by rw [wr_id (by omega) (by omega)]; omega
          have w2 : Unit → wr (((201 * k : Nat) : Int) + (s : Int)) = ((201 * k + s : Nat) : Int) := fun _ => by rw [wr_id (by omega) (by omega)]; omega
          have keyl : ∀ m l : Nat, l + m = a → AW (P 196) Q (MS (d + 2)) 0 (fun _ => 0) 14 [vr 80, vr o, vi a, vi K, vi k, vi s, vi (sN (fun l => cw M a (k - 1) (fo M (s : Int) l)) l : Nat), vi l] [] s3 := by
            intro m
            induction m with
            | zero =>
              intro l e1
              have : l = a := by omega
              subst this
              have hcs : sN (fun l => cw M l (k - 1) (fo M (s : Int) l)) l = sN (fun l => cw M l (k - 1) (fo M (s : Int) l)) l := rfl
              rw [awu 196 14]
              try simp only [awu 196 16, pe196, xs, i_load, i_loadR, i_inc, lg, lp, true_and, and_true, List.length_cons, List.length_nil, Nat.reduceAdd, Nat.reduceLeDiff, Nat.zero_le, Int.toNat_natCast, natLit, k0, k1, l1, w1 (), w2 (), ws ()]
              refine ⟨fun _ => ⟨by omega, ?_⟩, fun h => absurd (Int.le_refl _) h⟩
              refine ihs (s + 1) _ _ _ (by omega) (fun q hq => ?_) (fun k' t a1 a2 => ?_) (fun t ht => ?_)
              · rw [up2_ne hq]
                exact h2 q hq
              · rw [up2_self, upf_n (by omega)]
                exact h3 k' t a1 a2
              · rw [up2_self]
                by_cases z : t = s
                · subst z
                  rw [upf_s]
                  have : cw M l k (t : Int) = sN (fun i => cw M l (k - 1) (fo M (t : Int) i)) l := by
                    conv => lhs; rw [show k = (k - 1) + 1 by omega]
                    rw [cw_s]
                  rw [this]
                · rw [upf_n (by omega)]
                  exact h4 t (by omega)
            | succ m ihl =>
              intro l e1
              have wl' : Unit → wr ((l : Int) + 1) = ((l + 1 : Nat) : Int) := fun _ => by rw [wr_id (by omega) (by omega)]; omega
              have hb1 := sN_le (f := fun l => cw M a (k - 1) (fo M (s : Int) l)) (b := 1048576) (n := l) (fun i _ => cw_m ha (by omega) _)
              have hb2 := cw_m (M := M) ha (show k - 1 ≤ 10 by omega) (fo M (s : Int) l)
              have hfb := fo_b (s := (s : Int)) hW (show l < 4 by omega)
              have ihl := ihl (l + 1) (by omega)
              rw [sN_s] at ihl
              generalize sN (fun l => cw M a (k - 1) (fo M (s : Int) l)) l = v at *
              have wv : Unit → wr ((v : Int) + ((cw M a (k - 1) (fo M (s : Int) l) : Nat) : Int)) = ((v + cw M a (k - 1) (fo M (s : Int) l) : Nat) : Int) := fun _ => by
                have : l * 1048576 ≤ 4 * 1048576 := Nat.mul_le_mul_right _ (by omega)
                rw [wr_id (by omega) (by omega)]; omega
              rw [awu 196 14]
              try simp only [awu 196 15, pe196, xs, i_load, i_loadR, i_inc, lg, lp, true_and, and_true, List.length_cons, List.length_nil, Nat.reduceAdd, Nat.reduceLeDiff, Nat.zero_le, Int.toNat_natCast, natLit, k0]
              refine ⟨fun h => by omega, fun _ => ?_⟩
              refine sp_mcfollow ho f1 hW (show l < 4 by omega) ?_
              dsimp only
              try simp only [awu 196 15, pe196, xs, i_load, i_loadR, i_inc, lg, lp, true_and, and_true, List.length_cons, List.length_nil, Nat.reduceAdd, Nat.reduceLeDiff, Nat.zero_le, Int.toNat_natCast, natLit, k0, wk ()]
              refine sp_waysOf h3 (by omega) (by omega) (Nat.le_refl _) (by omega) ?_
              dsimp only
              try simp only [awu 196 15, pe196, xs, i_load, i_loadR, i_inc, lg, lp, true_and, and_true, List.length_cons, List.length_nil, Nat.reduceAdd, Nat.reduceLeDiff, Nat.zero_le, Int.toNat_natCast, natLit, k0, wv (), wl' ()]
              exact ihl
          rw [awu 196 11]
          try simp only [awu 196 12, awu 196 13, pe196, xs, i_load, i_loadR, i_inc, lg, lp, true_and, and_true, List.length_cons, List.length_nil, Nat.reduceAdd, Nat.reduceLeDiff, Nat.zero_le, Int.toNat_natCast, natLit, k0, ko, f2]
          exact ⟨fun h => by omega, fun _ => ⟨fun h => by omega, fun _ => keyl a 0 (by omega)⟩⟩
      rw [awu 196 8]
      try simp only [awu 196 9, awu 196 10, pe196, xs, i_load, i_loadR, i_inc, lg, lp, true_and, and_true, List.length_cons, List.length_nil, Nat.reduceAdd, Nat.reduceLeDiff, Nat.zero_le, Int.toNat_natCast, natLit, k0]
      exact ⟨fun h => by omega, fun _ => ⟨fun h => by omega, fun _ => keys M.1 0 s2 _ _ (by omega) g2 g3 (fun t ht => by omega)⟩⟩
  have key1 : ∀ m s : Nat, ∀ (s2 : St), s + m = M.1 → (∀ q, q ≠ 81 → s2 q = st q) → (∀ t, t < s → s2 81 t = (cw M a 0 (t : Int) : Nat)) → AW (P 196) Q (MS (d + 2)) 0 (fun _ => 0) 1 [vr 80, vr o, vi a, vi K, vi s, none, none, none] [] s2 := by
    intro m
    induction m with
    | zero =>
      intro s s2 g1 g2 g3
      have : s = M.1 := by omega
      subst this
      obtain ⟨f1, f2⟩ := fr s2 g2
      rw [awu 196 1]
      try simp only [awu 196 7, pe196, xs, i_load, i_loadR, i_inc, lg, lp, true_and, and_true, List.length_cons, List.length_nil, Nat.reduceAdd, Nat.reduceLeDiff, Nat.zero_le, Int.toNat_natCast, natLit, k0, ko, f2]
      refine ⟨fun _ => ?_, fun h => absurd (Int.le_refl _) h⟩
      refine key2 K 1 s2 none none none (by omega) (by decide) g2 (fun k t a1 a2 => ?_)
      have : k = 0 := by omega
      subst this
      rw [show 201 * 0 + t = t by omega]
      exact g3 t a2
    | succ m ih =>
      intro s s2 g1 g2 g3
      obtain ⟨f1, f2⟩ := fr s2 g2
      have ws : Unit → wr ((s : Int) + 1) = ((s + 1 : Nat) : Int) := fun _ => by rw [wr_id (by omega) (by omega)]; omega
      have fin : ∀ v : Int, v = (cw M a 0 (s : Int) : Nat) → AW (P 196) Q (MS (d + 2)) 0 (fun _ => 0) 6 [vr 80, vr o, vi a, vi K, vi s, none, none, none] [vi v, vi s, vr 81] s2 := by
        intro v hv
        rw [awu 196 6]
        try simp only [awu 196 6, pe196, xs, i_load, i_loadR, i_inc, lg, lp, true_and, and_true, List.length_cons, List.length_nil, Nat.reduceAdd, Nat.reduceLeDiff, Nat.zero_le, Int.toNat_natCast, natLit, k0, k1, l1, ws ()]
        refine ⟨by omega, ih (s + 1) _ (by omega) (fun q hq => ?_) (fun t ht => ?_)⟩
        · rw [up2_ne hq]
          exact g2 q hq
        · rw [up2_self]
          by_cases z : t = s
          · subst z
            rw [upf_s]
            exact hv
          · rw [upf_n z]
            exact g3 t (by omega)
      rw [awu 196 1]
      try simp only [awu 196 2, awu 196 3, pe196, xs, i_load, i_loadR, i_inc, lg, lp, true_and, and_true, List.length_cons, List.length_nil, Nat.reduceAdd, Nat.reduceLeDiff, Nat.zero_le, Int.toNat_natCast, natLit, k0, ko, f2]
      refine ⟨fun h => by omega, fun _ => ⟨fun h => by omega, fun _ => ?_⟩⟩
      refine sp_mcin ho f1 ?_
      dsimp only
      try simp only [awu 196 4, awu 196 5, pe196, xs, i_load, i_loadR, i_inc, lg, lp, true_and, and_true, List.length_cons, List.length_nil, Nat.reduceAdd, Nat.reduceLeDiff, Nat.zero_le, Int.toNat_natCast, natLit, k0]
      have e0 : cw M a 0 (s : Int) = if inM M (s : Int) then 1 else 0 := rfl
      by_cases hi : inM M (s : Int) = true
      · rw [if_pos hi]
        rw [if_pos hi] at e0
        exact ⟨fun h => absurd h (by decide), fun _ => fin 1 (by rw [e0]; rfl)⟩
      · rw [if_neg hi]
        rw [if_neg hi] at e0
        exact ⟨fun _ => fin 0 (by rw [e0]; rfl), fun h => absurd rfl h⟩
  refine MS_v [vr 80, vr o, vi a, vi K, none, none, none, none] rfl rfl rfl rfl ?_
  try simp only [awu 196 0, pe196, xs, i_load, i_loadR, i_inc, lg, lp, true_and, and_true, List.length_cons, List.length_nil, Nat.reduceAdd, Nat.reduceLeDiff, Nat.zero_le, Int.toNat_natCast, natLit, k0]
  exact key1 M.1 0 st (by omega) (fun _ _ => rfl) (fun t ht => by omega)
