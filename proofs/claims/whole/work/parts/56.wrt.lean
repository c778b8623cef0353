/-! what is written -/
def WRc (st : St) (L : List Nat) : Prop := st 3 1 = (L.length : Nat) ∧ ∀ i, i < L.length → st 4 i = (L.getD i 0 : Nat)
def WRm (st : St) (L : List Nat) : Prop := st 99 62 = (L.length : Nat) ∧ ∀ i, i < L.length → st 144 i = (L.getD i 0 : Nat)
def FrWc (st st' : St) : Prop := ∀ q i, q ≠ 4 → ¬ (q = 3 ∧ i = 1) → st' q i = st q i
def FrWm (st st' : St) : Prop := ∀ q i, q ≠ 144 → ¬ (q = 99 ∧ i = 62) → st' q i = st q i
theorem FrWc_r {st : St} : FrWc st st := fun _ _ _ _ => rfl
theorem FrWm_r {st : St} : FrWm st st := fun _ _ _ _ => rfl
theorem FrWc_t {s1 s2 s3 : St} (h1 : FrWc s1 s2) (h2 : FrWc s2 s3) : FrWc s1 s3 := fun q i a b => by rw [h2 q i a b, h1 q i a b]
theorem FrWm_t {s1 s2 s3 : St} (h1 : FrWm s1 s2) (h2 : FrWm s2 s3) : FrWm s1 s3 := fun q i a b => by rw [h2 q i a b, h1 q i a b]
theorem getD_app {L : List Nat} {v i : Nat} (h : i < (L ++ [v]).length) : (L ++ [v]).getD i 0 = if i < L.length then L.getD i 0 else v := by
  rw [List.length_append, List.length_singleton] at h
  rw [List.getD_eq_getElem?_getD, List.getD_eq_getElem?_getD]
  by_cases z : i < L.length
  · rw [if_pos z, List.getElem?_append_left z]
  · rw [if_neg z, List.getElem?_append_right (by omega), show i - L.length = 0 by omega]
    rfl
theorem sp_cputN {d v : Nat} {st : St} {L : List Nat} {Q : Rn} (hL : WRc st L) (hl : L.length < 3618) (hv : v ≤ 127) (hq : ∀ st' : St, WRc st' (L ++ [v]) → FrWc st st' → Q none st') : MS (d + 1) 222 [vr 3, vi v] st Q := by
  refine sp_put (n := 3618) (c := L.length) rfl ⟨rfl, rfl⟩ hL.1 hl (by decide) ?_
  have e : band (v : Int) 255 = (v : Int) := by rw [band255 v (by omega)]; omega
  rw [e]
  have hc : (st 3 1).toNat = L.length := by rw [hL.1]; rfl
  refine hq _ ⟨?_, fun i hi => ?_⟩ (fun q i h1 h2 => ?_)
  · rw [pu_cnt (by decide), hL.1]
    simp
  · have hi' := hi
    rw [List.length_append, List.length_singleton] at hi'
    rw [pu_row, hc, getD_app hi]
    by_cases z : i < L.length
    · rw [if_neg (by omega), if_pos z]
      exact hL.2 i z
    · have : i = L.length := by omega
      subst this
      rw [if_pos (by simp), if_neg z]
      simp
  · by_cases z : q = 3
    · subst z
      exact pu_fld (by decide) (by omega)
    · rw [pu_oth h1 z]
theorem sp_mputN {d v : Nat} {st : St} {L : List Nat} {Q : Rn} (hL : WRm st L) (hl : L.length < 8000) (hv : v ≤ 127) (hq : ∀ st' : St, WRm st' (L ++ [v]) → FrWm st st' → Q none st') : MS (d + 1) 146 [vr 99, vi v] st Q := by
  refine sp_mput (c := L.length) hL.1 hl ?_
  rw [w8_small (by omega) (by omega)]
  have hc : (st 99 62).toNat = L.length := by rw [hL.1]; rfl
  refine hq _ ⟨?_, fun i hi => ?_⟩ (fun q i h1 h2 => ?_)
  · rw [pu_cnt (by decide), hL.1]
    simp
  · have hi' := hi
    rw [List.length_append, List.length_singleton] at hi'
    rw [pu_row, hc, getD_app hi]
    by_cases z : i < L.length
    · rw [if_neg (by omega), if_pos z]
      exact hL.2 i z
    · have : i = L.length := by omega
      subst this
      rw [if_pos (by simp), if_neg z]
      simp
  · by_cases z : q = 99
    · subst z
      exact pu_fld (by decide) (by omega)
    · rw [pu_oth h1 z]
theorem WRc_0 {st : St} : WRc (up2 st 3 1 0) [] := ⟨by rw [up2_self, upf_s]; rfl, fun i hi => by simp at hi⟩
theorem WRm_0 {st : St} : WRm (up2 st 99 62 0) [] := ⟨by rw [up2_self, upf_s]; rfl, fun i hi => by simp at hi⟩
theorem FrWc_0 {st : St} : FrWc st (up2 st 3 1 0) := fun q i h1 h2 => by
  rw [up2_at]
  by_cases z : q = 3
  · subst z
    rw [if_pos rfl, if_neg (by omega)]
  · rw [if_neg z]
theorem FrWm_0 {st : St} : FrWm st (up2 st 99 62 0) := fun q i h1 h2 => by
  rw [up2_at]
  by_cases z : q = 99
  · subst z
    rw [if_pos rfl, if_neg (by omega)]
  · rw [if_neg z]
/-! words written -/
def wdL (w : Nat) : Nat → List Nat
  | 0 => []
  | p + 1 => wdL w p ++ [97 + lt w p]
theorem wdL_s {w p : Nat} : wdL w (p + 1) = wdL w p ++ [97 + lt w p] := rfl
theorem wdL_len {w : Nat} : ∀ p, (wdL w p).length = p
  | 0 => rfl
  | p + 1 => by rw [wdL_s, List.length_append, wdL_len p]; rfl
theorem sp_putWord {d w : Nat} {st : St} {Q : Rn} (hL : WRc st []) (hw : wf w) (hq : ∀ st' : St, WRc st' (wdL w (wl w)) → FrWc st st' → Q none st') : MS (d + 3) 225 [vr 3, vi w] st Q := by
  have k0 : kl 3 = 5 := rfl
  have hwl := wf_lt hw
  have hw10 := hw.1
  have key : ∀ m p : Nat, ∀ s2 : St, p + m = wl w → WRc s2 (wdL w p) → FrWc st s2 → AW (P 225) Q (MS (d + 2)) 0 (fun _ => 0) 1 [vr 3, vi w, vi (wl w : Nat), vi p] [] s2 := by
    intro m
    induction m with
    | zero =>
      intro p s2 g1 g2 g3
      have : p = wl w := by omega
      subst this
      rw [awu 225 1]
      try simp only [awu 225 3, pe225, xs, i_load, i_loadR, i_inc, lg, lp, true_and, and_true, List.length_cons, List.length_nil, Nat.reduceAdd, Nat.reduceLeDiff, Nat.zero_le, Int.toNat_natCast, natLit, k0]
      exact ⟨fun _ => hq s2 g2 g3, fun h => absurd (Int.le_refl _) h⟩
    | succ m ih =>
      intro p s2 g1 g2 g3
      have e : Unit → wr ((p : Int) + 1) = ((p + 1 : Nat) : Int) := fun _ => by rw [wr_id (by omega) (by omega)]; omega
      have hl4 := lt_lt w p
      have e2 : Unit → wr (97 + ((lt w p : Nat) : Int)) = ((97 + lt w p : Nat) : Int) := fun _ => by rw [wr_id (by omega) (by omega)]; omega
      rw [awu 225 1]
      try simp only [awu 225 2, pe225, xs, i_load, i_loadR, i_inc, lg, lp, true_and, and_true, List.length_cons, List.length_nil, Nat.reduceAdd, Nat.reduceLeDiff, Nat.zero_le, Int.toNat_natCast, natLit, k0]
      refine ⟨fun h => by omega, fun _ => ?_⟩
      refine sp_letter (by omega) hw10 (show p < wl w by omega) ?_
      dsimp only
      try simp only [awu 225 2, pe225, xs, i_load, i_loadR, i_inc, lg, lp, true_and, and_true, List.length_cons, List.length_nil, Nat.reduceAdd, Nat.reduceLeDiff, Nat.zero_le, Int.toNat_natCast, natLit, k0, e2 ()]
      refine sp_cputN g2 (by rw [wdL_len]; omega) (by omega) (fun s3 y1 y2 => ?_)
      dsimp only
      try simp only [awu 225 2, pe225, xs, i_load, i_loadR, i_inc, lg, lp, true_and, and_true, List.length_cons, List.length_nil, Nat.reduceAdd, Nat.reduceLeDiff, Nat.zero_le, Int.toNat_natCast, natLit, k0, e ()]
      exact ih (p + 1) s3 (by omega) y1 (FrWc_t g3 y2)
  refine MS_v [vr 3, vi w, none, none] rfl rfl rfl rfl ?_
  try simp only [awu 225 0, pe225, xs, i_load, i_loadR, i_inc, lg, lp, true_and, and_true, List.length_cons, List.length_nil, Nat.reduceAdd, Nat.reduceLeDiff, Nat.zero_le, Int.toNat_natCast, natLit, k0]
  refine sp_len (by omega) ?_
  dsimp only
  try simp only [awu 225 0, pe225, xs, i_load, i_loadR, i_inc, lg, lp, true_and, and_true, List.length_cons, List.length_nil, Nat.reduceAdd, Nat.reduceLeDiff, Nat.zero_le, Int.toNat_natCast, natLit, k0]
  exact key (wl w) 0 st (by omega) hL FrWc_r
/-! numbers written -/
def nuL (v : Nat) : List Nat := (if 100 ≤ v then [48 + v / 100 % 10] else []) ++ (if 10 ≤ v then [48 + v / 10 % 10] else []) ++ [48 + v % 10]
theorem nuL_len (v : Nat) : (nuL v).length ≤ 3 := by
  unfold nuL
  split <;> split <;> simp
theorem sp_cnum {d v : Nat} {st : St} {L : List Nat} {Q : Rn} (hL : WRc st L) (hl : L.length + 3 ≤ 3618) (hv : v < 1000) (hq : ∀ st' : St, WRc st' (L ++ nuL v) → FrWc st st' → Q none st') : MS (d + 2) 224 [vr 3, vi v] st Q := by
  have k0 : kl 3 = 5 := rfl
  have a1 : Unit → wr ((v : Int).tdiv 100) = ((v / 100 : Nat) : Int) := fun _ => div_nat v 100 (by omega)
  have a2 : Unit → brem ((v / 100 : Nat) : Int) 10 = ((v / 100 % 10 : Nat) : Int) := fun _ => brem_nat (v / 100) 10 (by omega) (by decide) (by decide)
  have a3 : Unit → wr (48 + ((v / 100 % 10 : Nat) : Int)) = ((48 + v / 100 % 10 : Nat) : Int) := fun _ => by rw [wr_id (by omega) (by omega)]; omega
  have b1 : Unit → wr ((v : Int).tdiv 10) = ((v / 10 : Nat) : Int) := fun _ => div_nat v 10 (by omega)
  have b2 : Unit → brem ((v / 10 : Nat) : Int) 10 = ((v / 10 % 10 : Nat) : Int) := fun _ => brem_nat (v / 10) 10 (by omega) (by decide) (by decide)
  have b3 : Unit → wr (48 + ((v / 10 % 10 : Nat) : Int)) = ((48 + v / 10 % 10 : Nat) : Int) := fun _ => by rw [wr_id (by omega) (by omega)]; omega
  have c2 : Unit → brem ((v : Nat) : Int) 10 = ((v % 10 : Nat) : Int) := fun _ => brem_nat v 10 (by omega) (by decide) (by decide)
  have c3 : Unit → wr (48 + ((v % 10 : Nat) : Int)) = ((48 + v % 10 : Nat) : Int) := fun _ => by rw [wr_id (by omega) (by omega)]; omega
  have t3 : ∀ (s2 : St) (L1 : List Nat), WRc s2 L1 → L1.length < 3618 → FrWc st s2 → L ++ nuL v = L1 ++ [48 + v % 10] → AW (P 224) Q (MS (d + 1)) 0 (fun _ => 0) 4 [vr 3, vi v] [] s2 := by
    intro s2 L1 g1 g2 g3 g4
    rw [awu 224 4]
    try simp only [awu 224 4, pe224, xs, i_load, i_loadR, i_inc, lg, lp, true_and, and_true, List.length_cons, List.length_nil, Nat.reduceAdd, Nat.reduceLeDiff, Nat.zero_le, Int.toNat_natCast, natLit, k0, c2 (), c3 ()]
    refine ⟨by decide, sp_cputN g1 g2 (by omega) (fun s3 y1 y2 => ?_)⟩
    dsimp only
    rw [← g4] at y1
    exact hq s3 y1 (FrWc_t g3 y2)
  have t2 : ∀ (s2 : St) (L1 : List Nat), WRc s2 L1 → L1.length + 1 < 3618 → FrWc st s2 → L ++ nuL v = L1 ++ (if 10 ≤ v then [48 + v / 10 % 10] else []) ++ [48 + v % 10] → AW (P 224) Q (MS (d + 1)) 0 (fun _ => 0) 2 [vr 3, vi v] [] s2 := by
    intro s2 L1 g1 g2 g3 g4
    rw [awu 224 2]
    try simp only [awu 224 3, pe224, xs, i_load, i_loadR, i_inc, lg, lp, true_and, and_true, List.length_cons, List.length_nil, Nat.reduceAdd, Nat.reduceLeDiff, Nat.zero_le, Int.toNat_natCast, natLit, k0, b1 (), b2 (), b3 ()]
    refine ⟨fun h => ?_, fun h => ?_⟩
    · rw [if_neg (by omega), List.append_nil] at g4
      exact t3 s2 L1 g1 (by omega) g3 g4
    · rw [if_pos (by omega)] at g4
      refine ⟨by decide, by decide, sp_cputN g1 (by omega) (by omega) (fun s3 y1 y2 => ?_)⟩
      dsimp only
      exact t3 s3 _ y1 (by simp; omega) (FrWc_t g3 y2) g4
  refine MS_v [vr 3, vi v] rfl rfl rfl rfl ?_
  try simp only [awu 224 0, awu 224 1, pe224, xs, i_load, i_loadR, i_inc, lg, lp, true_and, and_true, List.length_cons, List.length_nil, Nat.reduceAdd, Nat.reduceLeDiff, Nat.zero_le, Int.toNat_natCast, natLit, k0, a1 (), a2 (), a3 ()]
  have e : L ++ nuL v = L ++ (if 100 ≤ v then [48 + v / 100 % 10] else []) ++ (if 10 ≤ v then [48 + v / 10 % 10] else []) ++ [48 + v % 10] := by
    unfold nuL
    rw [List.append_assoc, List.append_assoc, List.append_assoc]
  refine ⟨fun h => ?_, fun h => ?_⟩
  · rw [if_neg (by omega), List.append_nil] at e
    exact t2 st L hL (by omega) FrWc_r e
  · rw [if_pos (by omega)] at e
    refine ⟨by decide, by decide, sp_cputN hL (by omega) (by omega) (fun s3 y1 y2 => ?_)⟩
    dsimp only
    exact t2 s3 _ y1 (by simp; omega) y2 e
theorem sp_mnum {d v : Nat} {st : St} {L : List Nat} {Q : Rn} (hL : WRm st L) (hl : L.length + 3 ≤ 3618) (hv : v < 1000) (hq : ∀ st' : St, WRm st' (L ++ nuL v) → FrWm st st' → Q none st') : MS (d + 2) 147 [vr 99, vi v] st Q := by
  have k0 : kl 99 = 12 := rfl
  have a1 : Unit → wr ((v : Int).tdiv 100) = ((v / 100 : Nat) : Int) := fun _ => div_nat v 100 (by omega)
  have a3 : Unit → wr (48 + ((v / 100 : Nat) : Int)) = ((48 + v / 100 % 10 : Nat) : Int) := fun _ => by rw [wr_id (by omega) (by omega)]; omega
  have b1 : Unit → wr ((v : Int).tdiv 10) = ((v / 10 : Nat) : Int) := fun _ => div_nat v 10 (by omega)
  have b2 : Unit → brem ((v / 10 : Nat) : Int) 10 = ((v / 10 % 10 : Nat) : Int) := fun _ => brem_nat (v / 10) 10 (by omega) (by decide) (by decide)
  have b3 : Unit → wr (48 + ((v / 10 % 10 : Nat) : Int)) = ((48 + v / 10 % 10 : Nat) : Int) := fun _ => by rw [wr_id (by omega) (by omega)]; omega
  have c2 : Unit → brem ((v : Nat) : Int) 10 = ((v % 10 : Nat) : Int) := fun _ => brem_nat v 10 (by omega) (by decide) (by decide)
  have c3 : Unit → wr (48 + ((v % 10 : Nat) : Int)) = ((48 + v % 10 : Nat) : Int) := fun _ => by rw [wr_id (by omega) (by omega)]; omega
  have t3 : ∀ (s2 : St) (L1 : List Nat), WRm s2 L1 → L1.length < 3618 → FrWm st s2 → L ++ nuL v = L1 ++ [48 + v % 10] → AW (P 147) Q (MS (d + 1)) 0 (fun _ => 0) 4 [vr 99, vi v] [] s2 := by
    intro s2 L1 g1 g2 g3 g4
    rw [awu 147 4]
    try simp only [awu 147 4, pe147, xs, i_load, i_loadR, i_inc, lg, lp, true_and, and_true, List.length_cons, List.length_nil, Nat.reduceAdd, Nat.reduceLeDiff, Nat.zero_le, Int.toNat_natCast, natLit, k0, c2 (), c3 ()]
    refine ⟨by decide, sp_mputN g1 (by omega) (by omega) (fun s3 y1 y2 => ?_)⟩
    dsimp only
    rw [← g4] at y1
    exact hq s3 y1 (FrWm_t g3 y2)
  have t2 : ∀ (s2 : St) (L1 : List Nat), WRm s2 L1 → L1.length + 1 < 3618 → FrWm st s2 → L ++ nuL v = L1 ++ (if 10 ≤ v then [48 + v / 10 % 10] else []) ++ [48 + v % 10] → AW (P 147) Q (MS (d + 1)) 0 (fun _ => 0) 2 [vr 99, vi v] [] s2 := by
    intro s2 L1 g1 g2 g3 g4
    rw [awu 147 2]
    try simp only [awu 147 3, pe147, xs, i_load, i_loadR, i_inc, lg, lp, true_and, and_true, List.length_cons, List.length_nil, Nat.reduceAdd, Nat.reduceLeDiff, Nat.zero_le, Int.toNat_natCast, natLit, k0, b1 (), b2 (), b3 ()]
    refine ⟨fun h => ?_, fun h => ?_⟩
    · rw [if_neg (by omega), List.append_nil] at g4
      exact t3 s2 L1 g1 (by omega) g3 g4
    · rw [if_pos (by omega)] at g4
      refine ⟨by decide, by decide, sp_mputN g1 (by omega) (by omega) (fun s3 y1 y2 => ?_)⟩
      dsimp only
      exact t3 s3 _ y1 (by simp; omega) (FrWm_t g3 y2) g4
  refine MS_v [vr 99, vi v] rfl rfl rfl rfl ?_
  try simp only [awu 147 0, awu 147 1, pe147, xs, i_load, i_loadR, i_inc, lg, lp, true_and, and_true, List.length_cons, List.length_nil, Nat.reduceAdd, Nat.reduceLeDiff, Nat.zero_le, Int.toNat_natCast, natLit, k0, a1 (), a3 ()]
  have e : L ++ nuL v = L ++ (if 100 ≤ v then [48 + v / 100 % 10] else []) ++ (if 10 ≤ v then [48 + v / 10 % 10] else []) ++ [48 + v % 10] := by
    unfold nuL
    rw [List.append_assoc, List.append_assoc, List.append_assoc]
  refine ⟨fun h => ?_, fun h => ?_⟩
  · rw [if_neg (by omega), List.append_nil] at e
    exact t2 st L hL (by omega) FrWm_r e
  · rw [if_pos (by omega)] at e
    refine ⟨by decide, sp_mputN hL (by omega) (by omega) (fun s3 y1 y2 => ?_)⟩
    dsimp only
    exact t2 s3 _ y1 (by simp; omega) y2 e
