/-! rows of bytes: the tapes and what is written, on both sides -/
def pu (st : St) (o k a : Nat) (l : List Int) : St := fun j => if j = a then (fun i => if (st o k).toNat ≤ i ∧ i < (st o k).toNat + l.length then l.getD (i - (st o k).toNat) 0 else st a i) else if j = o then upf (st o) k (st o k + l.length) else st j
theorem pu_cnt {st : St} {o k a : Nat} {l : List Int} (h : o ≠ a) : pu st o k a l o k = st o k + l.length := by
  unfold pu
  rw [if_neg h, if_pos rfl, upf_s]
theorem pu_oth {st : St} {o k a j : Nat} {l : List Int} (h1 : j ≠ a) (h2 : j ≠ o) : pu st o k a l j = st j := by
  unfold pu
  rw [if_neg h1, if_neg h2]
theorem pu_fld {st : St} {o k a i : Nat} {l : List Int} (h : o ≠ a) (hi : i ≠ k) : pu st o k a l o i = st o i := by
  unfold pu
  rw [if_neg h, if_pos rfl, upf_n hi]
theorem pu_row {st : St} {o k a i : Nat} {l : List Int} : pu st o k a l a i = if (st o k).toNat ≤ i ∧ i < (st o k).toNat + l.length then l.getD (i - (st o k).toNat) 0 else st a i := by
  unfold pu
  rw [if_pos rfl]
theorem pu_app {st : St} {o k a : Nat} {l l' : List Int} (h : o ≠ a) (h0 : 0 ≤ st o k) : pu (pu st o k a l) o k a l' = pu st o k a (l ++ l') := by
  have e : (st o k + (l.length : Int)).toNat = (st o k).toNat + l.length := by omega
  funext j i
  by_cases hj : j = a
  · subst hj
    rw [pu_row, pu_row, pu_row, pu_cnt h, e, List.length_append]
    by_cases h1 : (st o k).toNat + l.length ≤ i ∧ i < (st o k).toNat + l.length + l'.length
    · rw [if_pos h1, if_pos (by omega), List.getD_eq_getElem?_getD, List.getD_eq_getElem?_getD, List.getElem?_append_right (by omega)]
      rw [show i - (st o k).toNat - l.length = i - ((st o k).toNat + l.length) by omega]
    · rw [if_neg h1]
      by_cases h2 : (st o k).toNat ≤ i ∧ i < (st o k).toNat + l.length
      · rw [if_pos h2, if_pos (by omega), List.getD_eq_getElem?_getD, List.getD_eq_getElem?_getD, List.getElem?_append_left (by omega)]
      · rw [if_neg h2, if_neg (by omega)]
  · by_cases ho : j = o
    · subst ho
      by_cases hi : i = k
      · subst hi
        rw [pu_cnt h, pu_cnt h, pu_cnt h, List.length_append]
        omega
      · rw [pu_fld h hi, pu_fld h hi, pu_fld h hi]
    · rw [pu_oth hj ho, pu_oth hj ho, pu_oth hj ho]
theorem pu_one {st : St} {o k a c : Nat} {v : Int} (h : o ≠ a) (hc : st o k = c) : up2 (up2 st a c v) o k ((c : Int) + 1) = pu st o k a [v] := by
  have e : (st o k).toNat = c := by omega
  funext j i
  by_cases hj : j = a
  · subst hj
    rw [up2_ne (Ne.symm h), up2_self, pu_row, e]
    by_cases hi : i = c
    · subst hi
      rw [upf_s, if_pos (by simp)]
      simp
    · rw [upf_n hi, if_neg (by simp; omega)]
  · by_cases ho : j = o
    · subst ho
      rw [up2_self]
      by_cases hi : i = k
      · subst hi
        rw [upf_s, pu_cnt h, hc]
        rfl
      · rw [upf_n hi, pu_fld h hi, up2_ne h]
    · rw [up2_ne ho, up2_ne hj, pu_oth hj ho]
theorem pu_nil {st : St} {o k a : Nat} : pu st o k a [] = st := by
  funext j i
  unfold pu
  split
  · rename_i h
    subst h
    dsimp only
    rw [if_neg (by simp)]
  · split
    · rename_i h
      subst h
      unfold upf
      split
      · rename_i h2
        subst h2
        simp
      · rfl
    · rfl
/-! the class -/
theorem sp_at {d o n c : Nat} {st : St} {k : Int} {Q : Rn} (h0 : kl o = 5) (h1 : ar (o + 1) n) (hc : st o 1 = c) (hn : c ≤ n) (hq : Q (vi (if 0 ≤ k ∧ k < c then st (o + 1) k.toNat else -1)) st) : MS (d + 1) 220 [vr o, vi k] st Q := by
  obtain ⟨h1, h2⟩ := h1
  refine MS_v [vr o, vi k] rfl rfl h0 rfl ?_
  try simp only [awu 220 0, awu 220 1, awu 220 2, awu 220 3, awu 220 4, awu 220 5, pe220, xs, i_load, i_loadR, i_inc, lg, lp, true_and, and_true, List.length_cons, List.length_nil, Nat.reduceAdd, Nat.reduceLeDiff, Nat.zero_le, Int.toNat_natCast, natLit, h0, h1, h2, hc, true_or]
  refine ⟨fun a => ?_, fun a => ⟨fun b => ?_, fun b => ⟨fun e => ?_, fun e => ?_⟩⟩⟩
  · rw [if_neg (by omega)] at hq
    exact hq
  · rw [if_neg (by omega)] at hq
    exact hq
  · rw [if_neg (by omega)] at hq
    exact hq
  · rw [if_pos (by omega)] at hq
    exact ⟨by omega, hq⟩
theorem sp_cut {d o : Nat} {st : St} {k : Int} {Q : Rn} (h0 : kl o = 5) (hq : Q none (up2 st o 1 k)) : MS (d + 1) 221 [vr o, vi k] st Q := by
  refine MS_v [vr o, vi k] rfl rfl h0 rfl ?_
  try simp only [awu 221 0, pe221, xs, i_load, i_loadR, i_inc, lg, lp, true_and, and_true, List.length_cons, List.length_nil, Nat.reduceAdd, Nat.reduceLeDiff, Nat.zero_le, Int.toNat_natCast, natLit, h0]
  exact hq
theorem sp_put {d o n c : Nat} {st : St} {x : Int} {Q : Rn} (h0 : kl o = 5) (h1 : ar (o + 1) n) (hc : st o 1 = c) (hn : c < n) (hb : n < 100000) (hq : Q none (pu st o 1 (o + 1) [band x 255])) : MS (d + 1) 222 [vr o, vi x] st Q := by
  obtain ⟨h1, h2⟩ := h1
  refine MS_v [vr o, vi x] rfl rfl h0 rfl ?_
  try simp only [awu 222 0, awu 222 1, awu 222 2, awu 222 3, pe222, xs, i_load, i_loadR, i_inc, lg, lp, true_and, and_true, List.length_cons, List.length_nil, Nat.reduceAdd, Nat.reduceLeDiff, Nat.zero_le, Int.toNat_natCast, natLit, h0, h1, h2, hc, true_or]
  have e : up2 st (o + 1) c (band x 255) o 1 = c := by rw [up2_ne (by omega)]; exact hc
  refine ⟨fun a => by omega, fun a => ⟨fun b => by omega, fun b => ⟨by omega, ?_⟩⟩⟩
  rw [e]
  rw [wr_id (by omega) (by omega)]
  have := pu_one (st := st) (o := o) (k := 1) (a := o + 1) (c := c) (v := band x 255) (by omega) hc
  rw [← this] at hq
  exact hq
def fourB (x : Int) : List Int := [band (bshr x 24) 255, band (bshr x 16) 255, band (bshr x 8) 255, band x 255]
theorem sp_putFour {d o n c : Nat} {st : St} {x : Int} {Q : Rn} (h0 : kl o = 5) (h1 : ar (o + 1) n) (hc : st o 1 = c) (hn : c + 4 ≤ n) (hb : n < 100000) (hq : Q none (pu st o 1 (o + 1) (fourB x))) : MS (d + 2) 223 [vr o, vi x] st Q := by
  have c1 : ∀ l : List Int, pu st o 1 (o + 1) l o 1 = ((c + l.length : Nat) : Int) := fun l => by rw [pu_cnt (by omega), hc]; omega
  refine MS_v [vr o, vi x] rfl rfl h0 rfl ?_
  try simp only [awu 223 0, pe223, xs, i_load, i_loadR, i_inc, lg, lp, true_and, and_true, List.length_cons, List.length_nil, Nat.reduceAdd, Nat.reduceLeDiff, Nat.zero_le, Int.toNat_natCast, natLit, h0]
  refine sp_put h0 h1 hc (by omega) hb ?_
  refine sp_put h0 h1 (c1 _) (by simp; omega) hb ?_
  rw [pu_app (by omega) (by omega)]
  refine sp_put h0 h1 (c1 _) (by simp; omega) hb ?_
  rw [pu_app (by omega) (by omega)]
  refine sp_put h0 h1 (c1 _) (by simp; omega) hb ?_
  rw [pu_app (by omega) (by omega)]
  exact hq
theorem sp_wfeed {d c : Nat} {st : St} {a b x y z : Int} {Q : Rn} (hc : st 1 1 = c) (hn : c ≤ 800) (h1 : ¬ c + 20 ≤ 800 → Q (vi (-1)) st) (h2 : c + 20 ≤ 800 → Q (vi (c + 20 : Nat)) (pu st 1 1 2 (fourB a ++ fourB b ++ fourB x ++ fourB y ++ fourB z))) : MS (d + 3) 1 [vr 0, vi a, vi b, vi x, vi y, vi z] st Q := by
  have c1 : ∀ l : List Int, pu st 1 1 (1 + 1) l 1 1 = ((c + l.length : Nat) : Int) := fun l => by rw [pu_cnt (by decide), hc]; omega
  have k0 : kl 0 = 11 := rfl
  have k1 : kl 1 = 5 := rfl
  have h3 : ar 2 800 := ⟨rfl, rfl⟩
  refine MS_v [vr 0, vi a, vi b, vi x, vi y, vi z] rfl rfl rfl rfl ?_
  try simp only [awu 1 0, awu 1 1, awu 1 2, pe1, xs, i_load, i_loadR, i_inc, lg, lp, true_and, and_true, List.length_cons, List.length_nil, Nat.reduceAdd, Nat.reduceLeDiff, Nat.zero_le, Int.toNat_natCast, natLit, k0, k1, hc, Nat.zero_add]
  rw [wr_id (by omega) (by omega)]
  refine ⟨fun e => ?_, fun e => h1 (by omega)⟩
  have h2 := h2 (by omega)
  refine sp_putFour k1 h3 hc (by omega) (by decide) ?_
  refine sp_putFour k1 h3 (c1 _) (by simp [fourB]; omega) (by decide) ?_
  rw [pu_app (by decide) (by omega)]
  refine sp_putFour k1 h3 (c1 _) (by simp [fourB]; omega) (by decide) ?_
  rw [pu_app (by decide) (by omega)]
  refine sp_putFour k1 h3 (c1 _) (by simp [fourB]; omega) (by decide) ?_
  rw [pu_app (by decide) (by omega)]
  refine sp_putFour k1 h3 (c1 _) (by simp [fourB]; omega) (by decide) ?_
  rw [pu_app (by decide) (by omega)]
  rw [c1]
  exact h2
theorem sp_wend {d c : Nat} {st : St} {n : Int} {Q : Rn} (hc : st 1 1 = c) (h1 : ¬ (0 ≤ n ∧ n ≤ c) → Q (vi (-1)) st) (h2 : 0 ≤ n ∧ n ≤ c → Q (vi n) (up2 st 1 1 n)) : MS (d + 2) 2 [vr 0, vi n] st Q := by
  have k0 : kl 0 = 11 := rfl
  have k1 : kl 1 = 5 := rfl
  refine MS_v [vr 0, vi n] rfl rfl rfl rfl ?_
  try simp only [awu 2 0, awu 2 1, awu 2 2, awu 2 3, pe2, xs, i_load, i_loadR, i_inc, lg, lp, true_and, and_true, List.length_cons, List.length_nil, Nat.reduceAdd, Nat.reduceLeDiff, Nat.zero_le, Int.toNat_natCast, natLit, k0, k1, hc, Nat.zero_add]
  refine ⟨fun a => h1 (by omega), fun a => ⟨fun b => ?_, fun b => h1 (by omega)⟩⟩
  exact sp_cut k1 (h2 (by omega))
theorem sp_woctet {d c : Nat} {st : St} {k : Int} {Q : Rn} (hc : st 3 1 = c) (hn : c ≤ 3618) (hq : Q (vi (if 0 ≤ k ∧ k < c then st 4 k.toNat else -1)) st) : MS (d + 2) 36 [vr 0, vi k] st Q := by
  have k0 : kl 0 = 11 := rfl
  refine MS_v [vr 0, vi k] rfl rfl rfl rfl ?_
  try simp only [awu 36 0, pe36, xs, i_load, i_loadR, i_inc, lg, lp, true_and, and_true, List.length_cons, List.length_nil, Nat.reduceAdd, Nat.reduceLeDiff, Nat.zero_le, Int.toNat_natCast, natLit, k0, Nat.zero_add]
  exact sp_at (n := 3618) rfl ⟨rfl, rfl⟩ hc hn hq
/-! the reference -/
theorem sp_isIn {d : Nat} {st : St} {v l t : Int} {Q : Rn} (hq : Q (vi (if l ≤ v ∧ v ≤ t then 1 else 0)) st) : MS (d + 1) 43 [vi v, vi l, vi t] st Q := by
  refine MS_s [vi v, vi l, vi t] rfl rfl rfl rfl ?_
  try simp only [awu 43 0, awu 43 1, awu 43 2, awu 43 3, awu 43 4, pe43, xs, i_load, i_loadR, i_inc, lg, lp, true_and, and_true, List.length_cons, List.length_nil, Nat.reduceAdd, Nat.reduceLeDiff, Nat.zero_le, Int.toNat_natCast, natLit]
  refine ⟨fun a => ?_, fun a => ⟨fun b => ?_, fun b => ?_⟩⟩
  · rw [if_neg (by omega)] at hq
    exact ⟨ok01_0, hq⟩
  · rw [if_neg (by omega)] at hq
    exact ⟨ok01_0, hq⟩
  · rw [if_pos (by omega)] at hq
    exact ⟨ok01_1, hq⟩
def fourM (x : Int) : List Int := [w8 (bshr x 24), w8 (bshr x 16), w8 (bshr x 8), w8 (bshr x 0)]
theorem w8_w8 (x : Int) : w8 (w8 x) = w8 x := by
  unfold w8
  exact Int.bmod_bmod
theorem sp_four {d c : Nat} {st : St} {x : Int} {Q : Rn} (hc : st 99 1 = c) (hn : c + 4 ≤ 800) (hq : Q none (pu st 99 1 100 (fourM x))) : MS (d + 1) 44 [vr 99, vi x] st Q := by
  have k0 : kl 99 = 12 := rfl
  have k1 : kl 100 = 51 := rfl
  have l1 : len 100 = 800 := rfl
  have c1 : ∀ l : List Int, pu st 99 1 100 l 99 1 = ((c + l.length : Nat) : Int) := fun l => by rw [pu_cnt (by decide), hc]; omega
  have step : ∀ (l : List Int) (j : Int) (u : V), l.length < 4 → 0 ≤ j → AW (P 44) Q (MS d) 0 (fun _ => 0) 1 [vr 99, vi x, vi (wr (j + -8))] [] (pu st 99 1 100 (l ++ [w8 (bshr x j)])) → AW (P 44) Q (MS d) 0 (fun _ => 0) 1 [vr 99, vi x, vi j] [] (pu st 99 1 100 l) := by
    intro l j u hl hj hk
    rw [awu 44 1]
    try simp only [awu 44 2, awu 44 3, pe44, xs, i_load, i_loadR, i_inc, lg, lp, true_and, and_true, List.length_cons, List.length_nil, Nat.reduceAdd, Nat.reduceLeDiff, Nat.zero_le, Int.toNat_natCast, natLit, k0, k1, l1, c1]
    refine ⟨fun a => by omega, fun a => ⟨by omega, ?_⟩⟩
    rw [w8_w8]
    have e : up2 (pu st 99 1 100 l) 100 (c + l.length) (w8 (bshr x j)) 99 1 = ((c + l.length : Nat) : Int) := by rw [up2_ne (by decide)]; exact c1 l
    have e1 := pu_one (st := pu st 99 1 100 l) (o := 99) (k := 1) (a := 100) (c := c + l.length) (v := w8 (bshr x j)) (by decide) (c1 l)
    rw [e, wr_id (x := ((c + l.length : Nat) : Int) + 1) (by omega) (by omega)]
    rw [pu_app (by decide) (by omega)] at e1
    rw [e1]
    exact hk
  refine MS_v [vr 99, vi x, none] rfl rfl rfl rfl ?_
  try simp only [awu 44 0, pe44, xs, i_load, i_loadR, i_inc, lg, lp, true_and, and_true, List.length_cons, List.length_nil, Nat.reduceAdd, Nat.reduceLeDiff, Nat.zero_le, Int.toNat_natCast, natLit]
  have h0 : pu st 99 1 100 [] = st := pu_nil
  rw [← h0]
  refine step [] 24 none (by decide) (by decide) ?_
  refine step _ 16 none (by simp) (by decide) ?_
  refine step _ 8 none (by simp) (by decide) ?_
  refine step _ 0 none (by simp) (by decide) ?_
  rw [awu 44 1]
  try simp only [awu 44 2, awu 44 3, pe44, xs, i_load, i_loadR, i_inc, lg, lp, true_and, and_true, List.length_cons, List.length_nil, Nat.reduceAdd, Nat.reduceLeDiff, Nat.zero_le, Int.toNat_natCast, natLit, k0, k1, l1, c1]
  exact ⟨fun _ => hq, fun a => absurd (by decide) a⟩
theorem sp_mfeed {d c : Nat} {st : St} {a b x y z : Int} {Q : Rn} (hc : st 99 1 = c) (hn : c ≤ 800) (h1 : ¬ c + 20 ≤ 800 → Q (vi (-1)) st) (h2 : c + 20 ≤ 800 → Q (vi (c + 20 : Nat)) (pu st 99 1 100 (fourM a ++ fourM b ++ fourM x ++ fourM y ++ fourM z))) : MS (d + 2) 45 [vr 99, vi a, vi b, vi x, vi y, vi z] st Q := by
  have c1 : ∀ l : List Int, pu st 99 1 100 l 99 1 = ((c + l.length : Nat) : Int) := fun l => by rw [pu_cnt (by decide), hc]; omega
  have k0 : kl 99 = 12 := rfl
  refine MS_v [vr 99, vi a, vi b, vi x, vi y, vi z] rfl rfl rfl rfl ?_
  try simp only [awu 45 0, awu 45 1, awu 45 2, pe45, xs, i_load, i_loadR, i_inc, lg, lp, true_and, and_true, List.length_cons, List.length_nil, Nat.reduceAdd, Nat.reduceLeDiff, Nat.zero_le, Int.toNat_natCast, natLit, k0, hc]
  rw [wr_id (by omega) (by omega)]
  refine ⟨fun e => ?_, fun e => h1 (by omega)⟩
  have h2 := h2 (by omega)
  refine sp_four hc (by omega) ?_
  refine sp_four (c1 _) (by simp [fourM]; omega) ?_
  rw [pu_app (by decide) (by omega)]
  refine sp_four (c1 _) (by simp [fourM]; omega) ?_
  rw [pu_app (by decide) (by omega)]
  refine sp_four (c1 _) (by simp [fourM]; omega) ?_
  rw [pu_app (by decide) (by omega)]
  refine sp_four (c1 _) (by simp [fourM]; omega) ?_
  rw [pu_app (by decide) (by omega)]
  rw [c1]
  exact h2
theorem sp_mend {d c : Nat} {st : St} {n : Int} {Q : Rn} (hc : st 99 1 = c) (h1 : ¬ (0 ≤ n ∧ n ≤ c) → Q (vi (-1)) st) (h2 : 0 ≤ n ∧ n ≤ c → Q (vi n) (up2 st 99 1 n)) : MS (d + 2) 46 [vr 99, vi n] st Q := by
  have k0 : kl 99 = 12 := rfl
  refine MS_v [vr 99, vi n] rfl rfl rfl rfl ?_
  try simp only [awu 46 0, awu 46 1, awu 46 2, pe46, xs, i_load, i_loadR, i_inc, lg, lp, true_and, and_true, List.length_cons, List.length_nil, Nat.reduceAdd, Nat.reduceLeDiff, Nat.zero_le, Int.toNat_natCast, natLit, k0, hc]
  refine sp_isIn ?_
  dsimp only
  by_cases h : 0 ≤ n ∧ n ≤ c
  · rw [if_pos h]
    try simp only [awu 46 0, awu 46 1, awu 46 2, pe46, xs, i_load, i_loadR, i_inc, lg, lp, true_and, and_true, List.length_cons, List.length_nil, Nat.reduceAdd, Nat.reduceLeDiff, Nat.zero_le, Int.toNat_natCast, natLit, k0]
    exact ⟨fun _ => h2 h, fun a => absurd (by decide) a⟩
  · rw [if_neg h]
    try simp only [awu 46 0, awu 46 1, awu 46 2, pe46, xs, i_load, i_loadR, i_inc, lg, lp, true_and, and_true, List.length_cons, List.length_nil, Nat.reduceAdd, Nat.reduceLeDiff, Nat.zero_le, Int.toNat_natCast, natLit, k0]
    exact ⟨fun a => absurd trivial a, fun _ => h1 h⟩
theorem sp_mput {d c : Nat} {st : St} {x : Int} {Q : Rn} (hc : st 99 62 = c) (hn : c < 8000) (hq : Q none (pu st 99 62 144 [w8 x])) : MS (d + 1) 146 [vr 99, vi x] st Q := by
  have k0 : kl 99 = 12 := rfl
  have k1 : kl 144 = 51 := rfl
  have l1 : len 144 = 8000 := rfl
  refine MS_v [vr 99, vi x] rfl rfl rfl rfl ?_
  try simp only [awu 146 0, pe146, xs, i_load, i_loadR, i_inc, lg, lp, true_and, and_true, List.length_cons, List.length_nil, Nat.reduceAdd, Nat.reduceLeDiff, Nat.zero_le, Int.toNat_natCast, natLit, k0, k1, l1, hc]
  refine ⟨by omega, ?_⟩
  rw [w8_w8]
  have e : up2 st 144 c (w8 x) 99 62 = (c : Int) := by rw [up2_ne (by decide)]; exact hc
  have e1 := pu_one (st := st) (o := 99) (k := 62) (a := 144) (c := c) (v := w8 x) (by decide) hc
  rw [e, wr_id (by omega) (by omega), e1]
  exact hq
theorem sp_moctet {d c : Nat} {st : St} {k : Int} {Q : Rn} (hc : st 99 62 = c) (hn : c ≤ 8000) (hq : Q (vi (if 0 ≤ k ∧ k < c then st 144 k.toNat else -1)) st) : MS (d + 2) 149 [vr 99, vi k] st Q := by
  have k0 : kl 99 = 12 := rfl
  have k1 : kl 144 = 51 := rfl
  have l1 : len 144 = 8000 := rfl
  refine MS_v [vr 99, vi k] rfl rfl rfl rfl ?_
  try simp only [awu 149 0, awu 149 1, awu 149 2, awu 149 3, pe149, xs, i_load, i_loadR, i_inc, lg, lp, true_and, and_true, List.length_cons, List.length_nil, Nat.reduceAdd, Nat.reduceLeDiff, Nat.zero_le, Int.toNat_natCast, natLit, k0, k1, l1, hc]
  refine sp_isIn ?_
  dsimp only
  rw [wr_id (by omega) (by omega)]
  by_cases h : 0 ≤ k ∧ k < c
  · rw [if_pos (by omega)]
    rw [if_pos h] at hq
    try simp only [awu 149 0, awu 149 1, awu 149 2, awu 149 3, pe149, xs, i_load, i_loadR, i_inc, lg, lp, true_and, and_true, List.length_cons, List.length_nil, Nat.reduceAdd, Nat.reduceLeDiff, Nat.zero_le, Int.toNat_natCast, natLit, k0, k1, l1]
    exact ⟨fun a => absurd a (by decide), fun _ => ⟨by omega, hq⟩⟩
  · rw [if_neg (by omega)]
    rw [if_neg h] at hq
    try simp only [awu 149 0, awu 149 1, awu 149 2, awu 149 3, pe149, xs, i_load, i_loadR, i_inc, lg, lp, true_and, and_true, List.length_cons, List.length_nil, Nat.reduceAdd, Nat.reduceLeDiff, Nat.zero_le, Int.toNat_natCast, natLit, k0, k1, l1]
    exact ⟨fun _ => hq, fun a => absurd trivial a⟩
