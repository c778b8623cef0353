/-! the class learns, and takes back -/
theorem cpf_at {f g : Nat → Int} {a b n i : Nat} : cpf f g a b n i = if b ≤ i ∧ i < b + n then f (a + (i - b)) else g i := rfl
def T0 (n : Nat) (F0 : FS) (mk ch : Nat → Int) : Prop := (∀ k, k < n → F0.1 k = k ∧ F0.2.1 k = mk k ∧ F0.2.2.1 k = if k = 0 then 1 else 0) ∧ (∀ i, i < 4 * n → F0.2.2.2 i = ch i)
theorem cn_all {p : Nat → Bool} : ∀ {n : Nat}, (∀ k, k < n → p k = true) → cn p n = n
  | 0, _ => rfl
  | n + 1, h => by
    rw [cn_s, h n (by omega), cn_all (fun k hk => h k (by omega))]
    rfl
theorem cR_T0 {n : Nat} {F0 : FS} {mk ch : Nat → Int} (h : T0 n F0 mk ch) : cR F0 n = n := by
  refine cn_all (fun k hk => ?_)
  rw [(h.1 k hk).1]
  simp
theorem sp_fbegin {d o t n : Nat} {st : St} {F0 : FS} {Q : Rn} (ho : isFd o) (ht : isTr t) (hto : t + 4 < o) (hc : st t 4 = n) (hn : n ≤ 120) (h0 : T0 n F0 (st (t + 2)) (st (t + 4)))
    (hq : ∀ st' : St, CR st' o n F0 → st' o 12 = 0 → (∀ q, q < o ∨ o + 5 ≤ q → st' q = st q) → Q none st') : MS (d + 1) 160 [vr o, vr t] st Q := by
  obtain ⟨k0, ⟨k1, l1⟩, ⟨k2, l2⟩, ⟨k3, l3⟩, ⟨k4, l4⟩, -⟩ := id ho
  obtain ⟨t0, -, ⟨t2, m2⟩, -, ⟨t4, m4⟩⟩ := id ht
  have hcR := cR_T0 h0
  have hne : ¬ t + 4 = o + 4 := by omega
  have key : ∀ m k : Nat, ∀ s2 : St, k + m = n → (∀ q, q < o ∨ o + 4 ≤ q → s2 q = st q) → s2 o 9 = n → s2 o 10 = n → s2 o 11 = (cM F0 k : Nat) → s2 o 12 = 0 → (∀ j, j < k → s2 (o + 1) j = (F0.1 j : Nat) ∧ s2 (o + 2) j = F0.2.1 j ∧ s2 (o + 3) j = F0.2.2.1 j) → AW (P 160) Q (MS d) 0 (fun _ => 0) 1 [vr o, vr t, vi k] [] s2 := by
    intro m
    induction m with
    | zero =>
      intro k s2 g1 g2 g3 g4 g5 g6 g7
      have : k = n := by omega
      subst this
      have w : Unit → wr ((k : Int) * 4) = ((4 * k : Nat) : Int) := fun _ => by rw [wr_id (by omega) (by omega)]; omega
      rw [awu 160 1]
      try simp only [awu 160 8, pe160, xs, i_load, i_loadR, i_inc, lg, lp, true_and, and_true, List.length_cons, List.length_nil, Nat.reduceAdd, Nat.reduceLeDiff, Nat.zero_le, Int.toNat_natCast, natLit, k0, t0, g3, k4, l4, t4, m4, w (), Int.toNat_zero]
      refine ⟨fun _ => ⟨hne, ⟨by omega, by omega, by omega, by omega, by omega⟩, ?_⟩, fun h => by omega⟩
      refine hq _ ⟨?_, fun j hj => ?_, fun j hj => ?_, ?_, ?_⟩ ?_ (fun q hq => ?_)
      · rw [up1_ne (by omega)]
        exact g3
      · rw [up1_ne (by omega), up1_ne (by omega), up1_ne (by omega)]
        exact g7 j hj
      · rw [up1_self, cpf_at, if_pos (by omega), g2 (t + 4) (by omega), h0.2 j hj]
        congr 1
        omega
      · rw [up1_ne (by omega), hcR]
        exact g4
      · rw [up1_ne (by omega)]
        exact g5
      · rw [up1_ne (by omega)]
        exact g6
      · rw [up1_ne (by omega)]
        exact g2 q (by omega)
    | succ m ih =>
      intro k s2 g1 g2 g3 g4 g5 g6 g7
      have hcm : cM F0 k ≤ k := cn_le k
      have w : Unit → wr ((k : Int) + 1) = ((k + 1 : Nat) : Int) := fun _ => by rw [wr_id (by omega) (by omega)]; omega
      have w2 : Unit → wr (((cM F0 k : Nat) : Int) + 1) = ((cM F0 k + 1 : Nat) : Int) := fun _ => by rw [wr_id (by omega) (by omega)]; omega
      obtain ⟨f1, f2, f3⟩ := h0.1 k (by omega)
      have hcs : cM F0 (k + 1) = cM F0 k + (if F0.2.1 k = 0 then 0 else 1) := by
        unfold cM
        rw [cn_s]
        by_cases z : F0.2.1 k = 0
        · rw [if_pos z]
          simp [z]
        · rw [if_neg z]
          simp [z, f1]
      generalize hv : F0.2.1 k = v at *
      have e2 : ∀ x y, up2 s2 (o + 1) x y (t + 2) k = v := fun x y => by rw [up2_ne (by omega), g2 (t + 2) (by omega), ← f2]
      rw [awu 160 1]
      try simp only [awu 160 2, pe160, xs, i_load, i_loadR, i_inc, lg, lp, true_and, and_true, List.length_cons, List.length_nil, Nat.reduceAdd, Nat.reduceLeDiff, Nat.zero_le, Int.toNat_natCast, natLit, k0, t0, g3, k1, l1, k2, l2, k3, l3, t2, m2, e2]
      refine ⟨fun h => by omega, fun _ => ⟨by omega, by omega, by omega, ?_⟩⟩
      have aft : ∀ rv : Int, rv = F0.2.2.1 k → ok01 rv → AW (P 160) Q (MS d) 0 (fun _ => 0) 5 [vr o, vr t, vi k] [vi rv, vi k, vr (o + 3)] (up2 (up2 s2 (o + 1) k (k : Int)) (o + 2) k v) := by
        intro rv hrv hok
        generalize hs3 : up2 (up2 (up2 s2 (o + 1) k (k : Int)) (o + 2) k v) (o + 3) k rv = s3
        have f4 : ∀ q, q < o + 1 ∨ o + 4 ≤ q → s3 q = s2 q := fun q hq => by rw [← hs3, up2_ne (by omega), up2_ne (by omega), up2_ne (by omega)]
        have a2 : s3 (o + 2) k = v := by rw [← hs3, up2_ne (by omega), up2_self, upf_s]
        have a7 : ∀ j, j < k + 1 → s3 (o + 1) j = (F0.1 j : Nat) ∧ s3 (o + 2) j = F0.2.1 j ∧ s3 (o + 3) j = F0.2.2.1 j := fun j hj => by
          rw [← hs3, up2_ne (show o + 1 ≠ o + 3 by omega), up2_ne (show o + 1 ≠ o + 2 by omega), up2_self, up2_ne (show o + 2 ≠ o + 3 by omega), up2_self, up2_self, up2_ne (show o + 2 ≠ o + 1 by omega), up2_ne (show o + 3 ≠ o + 2 by omega), up2_ne (show o + 3 ≠ o + 1 by omega)]
          by_cases z : j = k
          · subst z
            rw [upf_s, upf_s, upf_s]
            exact ⟨by rw [f1], hv.symm, hrv⟩
          · rw [upf_n z, upf_n z, upf_n z]
            exact g7 j (by omega)
        have e11 : s3 o 11 = (cM F0 k : Nat) := by rw [f4 o (by omega)]; exact g5
        rw [awu 160 5]
        try simp only [awu 160 6, awu 160 7, pe160, xs, i_load, i_loadR, i_inc, lg, lp, true_and, and_true, List.length_cons, List.length_nil, Nat.reduceAdd, Nat.reduceLeDiff, Nat.zero_le, Int.toNat_natCast, natLit, k0, k2, l2, k3, l3, hs3, a2, e11, w (), w2 ()]
        refine ⟨by omega, hok, by omega, fun h => ?_, fun h => ?_⟩
        · rw [if_pos h] at hcs
          refine ih (k + 1) s3 (by omega) (fun q hq => ?_) ?_ ?_ ?_ ?_ a7
          · rw [f4 q (by omega)]
            exact g2 q (by omega)
          · rw [f4 o (by omega)]; exact g3
          · rw [f4 o (by omega)]; exact g4
          · rw [e11, hcs]
            rfl
          · rw [f4 o (by omega)]; exact g6
        · rw [if_neg h] at hcs
          refine ih (k + 1) _ (by omega) (fun q hq => ?_) ?_ ?_ ?_ ?_ (fun j hj => ?_)
          · rw [up2_ne (by omega), f4 q (by omega)]
            exact g2 q (by omega)
          · rw [up2_self, upf_n (by omega), f4 o (by omega)]; exact g3
          · rw [up2_self, upf_n (by omega), f4 o (by omega)]; exact g4
          · rw [up2_self, upf_s, hcs]
          · rw [up2_self, upf_n (by omega), f4 o (by omega)]; exact g6
          · rw [up2_ne (by omega), up2_ne (by omega), up2_ne (by omega)]
            exact a7 j hj
      try simp only [awu 160 3, awu 160 4, pe160, xs, i_load, i_loadR, i_inc, lg, lp, true_and, and_true, List.length_cons, List.length_nil, Nat.reduceAdd, Nat.reduceLeDiff, Nat.zero_le, Int.toNat_natCast, natLit, k0]
      refine ⟨fun h => aft 0 (by rw [f3, if_neg (by omega)]) ok01_0, fun h => aft 1 (by rw [f3, if_pos (by omega)]) ok01_1⟩
  refine MS_v [vr o, vr t, none] rfl rfl k0 rfl ?_
  have hmin : (if (n : Int) ≤ 120 then (n : Int) else 120) = n := by rw [if_pos (by omega)]
  have e9 : up2 st o 9 (n : Int) o 9 = n := by rw [up2_self, upf_s]
  try simp only [awu 160 0, pe160, xs, i_load, i_loadR, i_inc, lg, lp, true_and, and_true, List.length_cons, List.length_nil, Nat.reduceAdd, Nat.reduceLeDiff, Nat.zero_le, Int.toNat_natCast, natLit, k0, t0, hc, hmin, e9]
  refine key n 0 _ (by omega) (fun q hq => ?_) ?_ ?_ ?_ ?_ (fun j hj => by omega)
  · rw [up2_ne (by omega), up2_ne (by omega), up2_ne (by omega), up2_ne (by omega)]
  · simp only [up2_at]; simp
  · simp only [up2_at]; simp
  · simp only [up2_at]; simp [cM, cn]
  · simp only [up2_at]; simp
theorem sp_lbegin {d o t n : Nat} {st : St} {F0 : FS} {Q : Rn} (ho : isLn o) (ht : isTr t) (hto : t + 4 < o) (hc : st t 4 = n) (hn : n ≤ 120) (h0 : T0 n F0 (st (t + 2)) (st (t + 4))) (hF : FI n F0)
    (hq : ∀ st' : St, LC st' o n F0 [] F0 → (∀ q, q < o ∨ o + 6 ≤ q → st' q = st q) → Q none st') : MS (d + 2) 173 [vr o, vr t] st Q := by
  obtain ⟨k0, hf, -⟩ := id ho
  refine MS_v [vr o, vr t] rfl rfl k0 rfl ?_
  try simp only [awu 173 0, pe173, xs, i_load, i_loadR, i_inc, lg, lp, true_and, and_true, List.length_cons, List.length_nil, Nat.reduceAdd, Nat.reduceLeDiff, Nat.zero_le, Int.toNat_natCast, natLit, k0]
  refine sp_fbegin hf ht (by omega) hc hn h0 (fun s2 y1 y2 y3 => ?_)
  dsimp only
  try simp only [awu 173 0, pe173, xs, i_load, i_loadR, i_inc, lg, lp, true_and, and_true, List.length_cons, List.length_nil, Nat.reduceAdd, Nat.reduceLeDiff, Nat.zero_le, Int.toNat_natCast, natLit, k0]
  refine hq _ ⟨CR_congr y1 (fun q h1 h2 => up2_ne (by omega)), hF, ⟨0, by rw [up2_ne (by omega)]; exact y2, by rw [cR_T0 h0]; omega, rfl, rfl⟩, by rw [up2_self, upf_s]; rfl, by simp⟩ (fun q hq => ?_)
  rw [up2_ne (by omega)]
  exact y3 q (by omega)
def lrn (how : Int) (n : Nat) : Nat → List Dd × FS → List Dd × FS
  | 0, x => x
  | m + 1, x => if cn (blB x.2 n) n = 0 then x else lrn how n m ((stp how x.2 n).1 :: x.1, (stp how x.2 n).2)
theorem lrn_s {how : Int} {n m : Nat} {x : List Dd × FS} : lrn how n (m + 1) x = if cn (blB x.2 n) n = 0 then x else lrn how n m ((stp how x.2 n).1 :: x.1, (stp how x.2 n).2) := rfl
theorem sp_learn {d o t n : Nat} {how : Int} {st : St} {F0 : FS} {Q : Rn} (ho : isLn o) (ht : isTr t) (hto : t + 4 < o) (hc : st t 4 = n) (hn : n ≤ 120) (h0 : T0 n F0 (st (t + 2)) (st (t + 4))) (hF : FI n F0)
    (hq : ∀ st' : St, LC st' o n F0 (lrn how n 200 ([], F0)).1 (lrn how n 200 ([], F0)).2 → (∀ q, q < o ∨ o + 17 < q → st' q = st q) → Q (vi (cR (lrn how n 200 ([], F0)).2 n : Nat)) st') : MS (d + 6) 177 [vr o, vr t, vi how] st Q := by
  obtain ⟨k0, hf, -⟩ := id ho
  have k1 := hf.1
  have key : ∀ m s : Nat, ∀ (s2 : St) (D : List Dd) (F : FS), s + m = 200 → D.length = s → LC s2 o n F0 D F → PT s2 o n F → (∀ q, q < o ∨ o + 17 < q → s2 q = st q) → lrn how n m (D, F) = lrn how n 200 ([], F0) → AW (P 177) Q (MS (d + 5)) 0 (fun _ => 0) 1 [vr o, vr t, vi how, vi s] [] s2 := by
    intro m
    have fin : ∀ (s2 : St) (D : List Dd) (F : FS) (u : V), LC s2 o n F0 D F → (∀ q, q < o ∨ o + 17 < q → s2 q = st q) → (D, F) = lrn how n 200 ([], F0) → AW (P 177) Q (MS (d + 5)) 0 (fun _ => 0) 4 [vr o, vr t, vi how, u] [] s2 := by
      intro s2 D F u g1 g2 g3
      rw [← g3] at hq
      have e10 := g1.1.2.2.2.1
      rw [awu 177 4]
      try simp only [awu 177 4, pe177, xs, i_load, i_loadR, i_inc, lg, lp, true_and, and_true, List.length_cons, List.length_nil, Nat.reduceAdd, Nat.reduceLeDiff, Nat.zero_le, Int.toNat_natCast, natLit, k0, k1, e10]
      exact hq s2 g1 g2
    induction m with
    | zero =>
      intro s s2 D F g1 g2 g3 g4 g5 g6
      rw [awu 177 1]
      try simp only [awu 177 1, pe177, xs, i_load, i_loadR, i_inc, lg, lp, true_and, and_true, List.length_cons, List.length_nil, Nat.reduceAdd, Nat.reduceLeDiff, Nat.zero_le, Int.toNat_natCast, natLit, k0]
      exact ⟨fun _ => fin s2 D F _ g3 g5 g6, fun h => by omega⟩
    | succ m ih =>
      intro s s2 D F g1 g2 g3 g4 g5 g6
      have e9 := g4.2.1
      have w : Unit → wr ((s : Int) + 1) = ((s + 1 : Nat) : Int) := fun _ => by rw [wr_id (by omega) (by omega)]; omega
      rw [awu 177 1]
      try simp only [awu 177 2, awu 177 3, pe177, xs, i_load, i_loadR, i_inc, lg, lp, true_and, and_true, List.length_cons, List.length_nil, Nat.reduceAdd, Nat.reduceLeDiff, Nat.zero_le, Int.toNat_natCast, natLit, k0, e9]
      refine ⟨fun h => by omega, fun _ => ⟨fun h => ?_, fun h => ?_⟩⟩
      · rw [lrn_s, if_pos (by dsimp only; omega)] at g6
        exact fin s2 D F _ g3 g5 g6
      · rw [lrn_s, if_neg (by dsimp only; omega)] at g6
        obtain ⟨b, hb, hbl, -⟩ := cn_ix (show 0 < cn (blB F n) n by omega)
        refine sp_doStep ho hn g3 g4 (by omega) hb hbl (fun s3 y1 y2 => ?_)
        dsimp only
        try simp only [awu 177 3, pe177, xs, i_load, i_loadR, i_inc, lg, lp, true_and, and_true, List.length_cons, List.length_nil, Nat.reduceAdd, Nat.reduceLeDiff, Nat.zero_le, Int.toNat_natCast, natLit, k0]
        refine sp_paint ho hn y1.1 y1.2.1 (fun s4 x1 x2 x3 => ?_)
        dsimp only
        try simp only [awu 177 3, pe177, xs, i_load, i_loadR, i_inc, lg, lp, true_and, and_true, List.length_cons, List.length_nil, Nat.reduceAdd, Nat.reduceLeDiff, Nat.zero_le, Int.toNat_natCast, natLit, k0, w ()]
        obtain ⟨c1, c2, ⟨J, j1, j2, j3⟩, c4, c5⟩ := y1
        refine ih (s + 1) s4 ((stp how F n).1 :: D) (stp how F n).2 (by omega) (by simp; omega) ⟨?_, c2, ⟨J, ?_, j2, ?_⟩, ?_, c5⟩ x1 (fun q hq => ?_) g6
        · exact CR_congr c1 (fun q h1 h2 => by funext z; exact x3 q z (by omega) (by omega) (by omega) (by omega))
        · rw [x3 _ _ (by omega) (by omega) (by omega) (by omega)]
          exact j1
        · refine CD_congr (fun q hq => ?_) (fun q hq => ?_) j3
          · rw [x3 _ _ (by omega) (by omega) (by omega) (by omega), x3 _ _ (by omega) (by omega) (by omega) (by omega), x3 _ _ (by omega) (by omega) (by omega) (by omega), x3 _ _ (by omega) (by omega) (by omega) (by omega)]
            exact ⟨rfl, rfl, rfl, rfl⟩
          · rw [x3 _ _ (by omega) (by omega) (by omega) (by omega), x3 _ _ (by omega) (by omega) (by omega) (by omega)]
            exact ⟨rfl, rfl⟩
        · rw [x3 _ _ (by omega) (by omega) (by omega) (by omega)]
          exact c4
        · rw [← g5 q hq, ← y2.1 q hq]
          funext z
          exact x3 q z (by omega) (by omega) (by omega) (by omega)
  refine MS_v [vr o, vr t, vi how, none] rfl rfl k0 rfl ?_
  try simp only [awu 177 0, pe177, xs, i_load, i_loadR, i_inc, lg, lp, true_and, and_true, List.length_cons, List.length_nil, Nat.reduceAdd, Nat.reduceLeDiff, Nat.zero_le, Int.toNat_natCast, natLit, k0]
  refine sp_lbegin ho ht hto hc hn h0 hF (fun s2 y1 y2 => ?_)
  dsimp only
  try simp only [awu 177 0, pe177, xs, i_load, i_loadR, i_inc, lg, lp, true_and, and_true, List.length_cons, List.length_nil, Nat.reduceAdd, Nat.reduceLeDiff, Nat.zero_le, Int.toNat_natCast, natLit, k0]
  refine sp_paint ho hn y1.1 hF (fun s4 x1 x2 x3 => ?_)
  dsimp only
  try simp only [awu 177 0, pe177, xs, i_load, i_loadR, i_inc, lg, lp, true_and, and_true, List.length_cons, List.length_nil, Nat.reduceAdd, Nat.reduceLeDiff, Nat.zero_le, Int.toNat_natCast, natLit, k0]
  obtain ⟨c1, c2, ⟨J, j1, j2, j3⟩, c4, c5⟩ := y1
  refine key 200 0 s4 [] F0 rfl rfl ⟨?_, c2, ⟨J, ?_, j2, j3⟩, ?_, c5⟩ x1 (fun q hq => ?_) rfl
  · exact CR_congr c1 (fun q h1 h2 => by funext z; exact x3 q z (by omega) (by omega) (by omega) (by omega))
  · rw [x3 _ _ (by omega) (by omega) (by omega) (by omega)]
    exact j1
  · rw [x3 _ _ (by omega) (by omega) (by omega) (by omega)]
    exact c4
  · rw [← y2 q (by omega)]
    funext z
    exact x3 q z (by omega) (by omega) (by omega) (by omega)
/-! replay -/
def Rp (n : Nat) (F0 : FS) : List Dd → FS → Prop
  | [], F => F = F0
  | d :: D, F => ∃ M, Rp n F0 D M ∧ Dok n M d F
theorem Rp_u {n : Nat} {F0 : FS} : ∀ {D : List Dd} {F F' : FS}, Rp n F0 D F → Rp n F0 D F' → F = F'
  | [], F, F', h, h' => by rw [show F = F0 from h, show F' = F0 from h']
  | d :: D, F, F', h, h' => by
    obtain ⟨M, h1, h2⟩ := h
    obtain ⟨M', h1', h2'⟩ := h'
    rw [Rp_u h1' h1] at h2'
    exact Dok_u h2 h2'
theorem CD_Rp {st : St} {o n : Nat} {F0 : FS} : ∀ {D : List Dd} {F : FS} {J : Nat}, CD st o n F0 D F J → Rp n F0 D F
  | [], F, J, h => h.1
  | d :: D, F, J, h => by
    obtain ⟨M, JM, g1, g2, g3, g4, g5, g6, g7, g8, g9⟩ := h
    exact ⟨M, CD_Rp g1, g7⟩
theorem Rp_I {n q : Nat} {F0 : FS} (hF : FI n F0) (hL : LA n q F0) : ∀ {D : List Dd} {F : FS}, Rp n F0 D F → FI n F ∧ LA n q F
  | [], F, h => by
    rw [show F = F0 from h]
    exact ⟨hF, hL⟩
  | d :: D, F, h => by
    obtain ⟨M, h1, h2⟩ := h
    obtain ⟨a1, a2⟩ := Rp_I hF hL h1
    have := Dok_I (q := q) a1 h2
    exact ⟨this.1, this.2 a2⟩
theorem CD_ix {st : St} {o n : Nat} {F0 : FS} : ∀ {D : List Dd} {F : FS} {J : Nat}, CD st o n F0 D F J → ∀ k, k < D.length → st (o + 14) k = ((D.getD (D.length - 1 - k) (0, 0, 0)).1 : Nat) ∧ st (o + 15) k = (D.getD (D.length - 1 - k) (0, 0, 0)).2.1 ∧ st (o + 16) k = (D.getD (D.length - 1 - k) (0, 0, 0)).2.2
  | [], F, J, _, k, hk => by simp at hk
  | d :: D, F, J, h, k, hk => by
    obtain ⟨M, JM, g1, g2, g3, g4, g5, g6, g7, g8, g9⟩ := h
    rw [List.length_cons] at *
    rcases Nat.lt_or_ge k D.length with z | z
    · have := CD_ix g1 k z
      rw [show D.length + 1 - 1 - k = (D.length - 1 - k) + 1 by omega]
      simpa using this
    · have : k = D.length := by omega
      subst this
      simp
      exact ⟨g3, g4, g5⟩
theorem rdn_rdn {n i : Nat} {M : FS} (h : M.2.2.1 i = 0) : rdn (rdn M i 1) i 0 = M := by
  unfold rdn
  dsimp only
  have : upf (upf M.2.2.1 i 1) i 0 = M.2.2.1 := by
    funext k
    unfold upf
    split
    · rename_i e
      rw [e, h]
    · rfl
  rw [this]
theorem sp_take {d o n : Nat} {st : St} {F0 F : FS} {D : List Dd} {e : Dd} {Q : Rn} (ho : isLn o) (hn : n ≤ 120) (hF0 : FI n F0) (hC : LC st o n F0 (e :: D) F)
    (hq : ∀ (M : FS) (st' : St), Rp n F0 D M → LC st' o n F0 D M → (∀ q, q < o ∨ o + 17 < q → st' q = st q) → Q (vi 1) st') : MS (d + 3) 184 [vr o] st Q := by
  obtain ⟨c1, c2, ⟨J, j1, j2, M, JM, g1, g2, g3, g4, g5, g6, g7, g8, g9⟩, c4, c5⟩ := hC
  obtain ⟨k0, hf, -, -, -, ⟨k14, l14⟩, ⟨k15, l15⟩, -, ⟨k17, l17⟩⟩ := id ho
  have hR := CD_Rp g1
  have hM := Rp_I (q := 4) hF0 (fun k l h1 h2 h3 => by omega) hR
  rw [List.length_cons] at c4 c5
  have w : Unit → wr (((D.length + 1 : Nat) : Int) - 1) = ((D.length : Nat) : Int) := fun _ => by rw [wr_id (by omega) (by omega)]; omega
  generalize hs2 : up2 st o 10 (D.length : Nat) = s2
  have f2 : ∀ q, q ≠ o → s2 q = st q := fun q hq => by rw [← hs2, up2_ne hq]
  have e10 : s2 o 10 = (D.length : Nat) := by rw [← hs2, up2_self, upf_s]
  have e15 : s2 (o + 15) D.length = e.2.1 := by rw [f2 _ (by omega)]; exact g4
  have e14 : s2 (o + 14) D.length = (e.1 : Nat) := by rw [f2 _ (by omega)]; exact g3
  have e17 : s2 (o + 17) D.length = (JM : Nat) := by rw [f2 _ (by omega)]; exact g6
  have cr2 : CR s2 (o + 1) n F := CR_congr c1 (fun q h1 h2 => f2 q (by omega))
  refine MS_v [vr o] rfl rfl k0 rfl ?_
  try simp only [awu 184 0, awu 184 1, awu 184 2, pe184, xs, i_load, i_loadR, i_inc, lg, lp, true_and, and_true, List.length_cons, List.length_nil, Nat.reduceAdd, Nat.reduceLeDiff, Nat.zero_le, Int.toNat_natCast, natLit, k0, c4, w (), hs2, e10, k15, l15, e15]
  refine ⟨fun _ => ⟨by omega, ?_⟩, fun h => by omega⟩
  rcases g7 with ⟨a1, a2, a3, a4, a5⟩ | ⟨jj, a1, a2, a3, a4⟩
  · have hJ := g8 a1
    rw [a1]
    refine ⟨fun h => absurd rfl h, fun _ => ?_⟩
    try simp only [awu 184 3, pe184, xs, i_load, i_loadR, i_inc, lg, lp, true_and, and_true, List.length_cons, List.length_nil, Nat.reduceAdd, Nat.reduceLeDiff, Nat.zero_le, Int.toNat_natCast, natLit, k0, e10, k14, l14, e14]
    refine ⟨by omega, ?_⟩
    have hu : F.1 e.1 = e.1 := by rw [a5]; exact a3
    refine sp_fredden hf hn cr2 ok01_0 a2 hu ?_
    dsimp only
    have c3 := CR_rdn (k := e.1) (v := 0) cr2
    rw [a5, rdn_rdn (n := n) a4] at c3
    have f3 : ∀ q, q ≠ o + 4 → up2 s2 (o + 1 + 3) e.1 0 q = s2 q := fun q hq => up2_ne hq
    generalize up2 s2 (o + 1 + 3) e.1 0 = s3 at *
    try simp only [awu 184 5, pe184, xs, i_load, i_loadR, i_inc, lg, lp, true_and, and_true, List.length_cons, List.length_nil, Nat.reduceAdd, Nat.reduceLeDiff, Nat.zero_le, Int.toNat_natCast, natLit, k0]
    refine ⟨ok01_1, hq M s3 hR ⟨c3, hM.1, ⟨JM, ?_, ?_, ?_⟩, ?_, by omega⟩ (fun q hq => ?_)⟩
    · rw [f3 _ (by omega), f2 _ (by omega), j1, hJ]
    · rw [a5, hJ] at j2
      exact j2
    · refine CD_congr (fun q hq => ?_) (fun q hq => ?_) g1
      · rw [f3 _ (by omega), f3 _ (by omega), f3 _ (by omega), f3 _ (by omega), f2 _ (by omega), f2 _ (by omega), f2 _ (by omega), f2 _ (by omega)]
        exact ⟨rfl, rfl, rfl, rfl⟩
      · rw [f3 _ (by omega), f3 _ (by omega), f2 _ (by omega), f2 _ (by omega)]
        exact ⟨rfl, rfl⟩
    · rw [f3 _ (by omega)]
      exact e10
    · rw [f3 _ (by omega), f2 _ (by omega)]
  · have hne : e.2.1 ≠ -1 := by omega
    obtain ⟨k, b1, b2⟩ := g9 hne
    refine ⟨fun _ => ?_, fun h => absurd hne h⟩
    try simp only [awu 184 4, pe184, xs, i_load, i_loadR, i_inc, lg, lp, true_and, and_true, List.length_cons, List.length_nil, Nat.reduceAdd, Nat.reduceLeDiff, Nat.zero_le, Int.toNat_natCast, natLit, k0, e10, k17, l17, e17]
    refine ⟨by omega, ?_⟩
    have hlen := Sg_len b2
    have hcr : cR M n ≤ n := cn_le n
    refine sp_ftake (k := k) hf hn cr2 (by rw [f2 _ (by omega), j1, b1]) (by omega) (Sg_congr (fun q hq => by rw [f2 _ (by omega), f2 _ (by omega)]; exact ⟨rfl, rfl⟩) b2) (fun s3 y1 y2 y3 y4 => ?_)
    dsimp only
    try simp only [awu 184 5, pe184, xs, i_load, i_loadR, i_inc, lg, lp, true_and, and_true, List.length_cons, List.length_nil, Nat.reduceAdd, Nat.reduceLeDiff, Nat.zero_le, Int.toNat_natCast, natLit, k0]
    refine ⟨ok01_1, hq M s3 hR ⟨y1, hM.1, ⟨JM, y2, by omega, ?_⟩, ?_, by omega⟩ (fun q hq => ?_)⟩
    · refine CD_congr (fun q hq => ?_) (fun q hq => ?_) g1
      · rw [y4 _ (by omega), y4 _ (by omega), y4 _ (by omega), y4 _ (by omega), f2 _ (by omega), f2 _ (by omega), f2 _ (by omega), f2 _ (by omega)]
        exact ⟨rfl, rfl, rfl, rfl⟩
      · rw [y4 _ (by omega), y4 _ (by omega), f2 _ (by omega), f2 _ (by omega)]
        exact ⟨rfl, rfl⟩
    · rw [y4 _ (by omega)]
      exact e10
    · rw [y4 _ (by omega), f2 _ (by omega)]
theorem sp_take0 {d o n : Nat} {st : St} {F0 F : FS} {Q : Rn} (ho : isLn o) (hC : LC st o n F0 [] F) (hq : Q (vi 0) st) : MS (d + 3) 184 [vr o] st Q := by
  have c4 : st o 10 = 0 := hC.2.2.2.1
  obtain ⟨k0, -⟩ := id ho
  refine MS_v [vr o] rfl rfl k0 rfl ?_
  try simp only [awu 184 0, awu 184 1, pe184, xs, i_load, i_loadR, i_inc, lg, lp, true_and, and_true, List.length_cons, List.length_nil, Nat.reduceAdd, Nat.reduceLeDiff, Nat.zero_le, Int.toNat_natCast, natLit, k0, c4]
  exact ⟨fun h => by omega, fun _ => ⟨ok01_0, hq⟩⟩
def dOf (D : List Dd) (k what : Int) : Int := if 0 ≤ k ∧ k < D.length then (if what = 0 then (if (D.getD (D.length - 1 - k.toNat) (0, 0, 0)).2.1 = -1 then 0 else 1) else if what = 1 then ((D.getD (D.length - 1 - k.toNat) (0, 0, 0)).1 : Nat) else if what = 2 then (D.getD (D.length - 1 - k.toNat) (0, 0, 0)).2.1 else if what = 3 then (D.getD (D.length - 1 - k.toNat) (0, 0, 0)).2.2 else -2) else -2
theorem sp_deedOf {d o n : Nat} {k what : Int} {st : St} {F0 F : FS} {D : List Dd} {Q : Rn} (ho : isLn o) (hC : LC st o n F0 D F) (hq : Q (vi (dOf D k what)) st) : MS (d + 1) 185 [vr o, vi k, vi what] st Q := by
  obtain ⟨c1, c2, ⟨J, j1, j2, j3⟩, c4, c5⟩ := hC
  obtain ⟨k0, hf, -, -, -, ⟨k14, l14⟩, ⟨k15, l15⟩, ⟨k16, l16⟩, -⟩ := id ho
  refine MS_v [vr o, vi k, vi what] rfl rfl k0 rfl ?_
  unfold dOf at hq
  try simp only [awu 185 0, awu 185 1, awu 185 2, pe185, xs, i_load, i_loadR, i_inc, lg, lp, true_and, and_true, List.length_cons, List.length_nil, Nat.reduceAdd, Nat.reduceLeDiff, Nat.zero_le, Int.toNat_natCast, natLit, k0, c4]
  refine ⟨fun h => ?_, fun h => ⟨fun h2 => ?_, fun h2 => ?_⟩⟩
  · rw [if_neg (by omega)] at hq
    exact hq
  · rw [if_pos (by omega)] at hq
    obtain ⟨e1, e2, e3⟩ := CD_ix j3 k.toNat (by omega)
    try simp only [awu 185 3, awu 185 4, awu 185 5, awu 185 6, awu 185 7, awu 185 8, awu 185 9, awu 185 10, awu 185 11, pe185, xs, i_load, i_loadR, i_inc, lg, lp, true_and, and_true, List.length_cons, List.length_nil, Nat.reduceAdd, Nat.reduceLeDiff, Nat.zero_le, Int.toNat_natCast, natLit, t_sw, k0, k14, l14, k15, l15, k16, l16, e1, e2, e3]
    generalize (D.getD (D.length - 1 - k.toNat) (0, 0, 0)) = e at *
    refine ⟨fun h3 => ⟨by omega, ?_⟩, fun h3 => ⟨fun h4 => ⟨by omega, ?_⟩, fun h4 => ⟨fun h5 => ⟨by omega, ?_⟩, fun h5 => ⟨fun h6 => ⟨by omega, ?_⟩, fun h6 => ?_⟩⟩⟩⟩
    · rw [if_pos h3] at hq
      refine ⟨fun h4 => ?_, fun h4 => ?_⟩
      · rw [if_neg h4] at hq
        exact hq
      · rw [if_pos (by omega)] at hq
        exact hq
    · rw [if_neg h3, if_pos h4] at hq
      exact hq
    · rw [if_neg h3, if_neg h4, if_pos h5] at hq
      exact hq
    · rw [if_neg h3, if_neg h4, if_neg h5, if_pos h6] at hq
      exact hq
    · rw [if_neg h3, if_neg h4, if_neg h5, if_neg h6] at hq
      exact hq
  · rw [if_neg (by omega)] at hq
    exact hq
