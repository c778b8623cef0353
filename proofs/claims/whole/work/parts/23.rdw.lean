/-! a word is read off the tape -/
def wdOf (f : Nat → Int) (a : Nat) : Nat → Option Nat
  | 0 => some 0
  | n + 1 => match wdOf f a n with
    | none => none
    | some w => if 0 ≤ f n - 97 ∧ f n - 97 < a then some (lw w (f n - 97).toNat) else none
def okw (a w : Nat) : Prop := wl w ≤ 10 ∧ wc w < 4 ^ wl w ∧ ∀ p, p < wl w → lt w p < a
theorem wl_lw {w l : Nat} (hl : l < 4) : wl (lw w l) = wl w + 1 := by unfold lw wl; omega
theorem wc_lw {w l : Nat} (hl : l < 4) (hc : wc w * 4 < 1048576) : wc (lw w l) = wc w * 4 + l := by unfold lw; unfold wc at *; omega
theorem okw_lt {a w : Nat} (h : okw a w) : w < 11534336 := by
  obtain ⟨h1, -, -⟩ := h
  unfold wl at h1
  omega
theorem okw_0 (a : Nat) : okw a 0 := ⟨by decide, by decide, fun p hp => absurd hp (by unfold wl; omega)⟩
theorem okw_lw {a w l : Nat} (ha : a ≤ 4) (h : okw a w) (hn : wl w ≤ 9) (hl : l < a) : okw a (lw w l) := by
  obtain ⟨h1, h2, h3⟩ := h
  have hp : 4 ^ wl w ≤ 4 ^ 9 := Nat.pow_le_pow_right (by decide) hn
  have e1 := wl_lw (w := w) (l := l) (by omega)
  have e2 := wc_lw (w := w) (l := l) (by omega) (by omega)
  refine ⟨by omega, ?_, fun p hp => ?_⟩
  · rw [e1, e2, Nat.pow_succ]
    omega
  · rw [lt_wc (by omega) hp, e1, e2]
    rw [e1] at hp
    by_cases hpe : p = wl w
    · subst hpe
      rw [show 2 * (wl w + 1 - 1 - wl w) = 0 by omega, Nat.pow_zero, Nat.div_one]
      omega
    · have h4 := h3 p (by omega)
      rw [lt_wc (by omega) (by omega)] at h4
      rw [show 2 * (wl w + 1 - 1 - p) = 2 + 2 * (wl w - 1 - p) by omega, Nat.pow_add, ← Nat.div_div_eq_div_mul]
      rw [show (wc w * 4 + l) / 2 ^ 2 = wc w by omega]
      exact h4
theorem wdOf_ok {f : Nat → Int} {a : Nat} (ha : a ≤ 4) : ∀ {n w : Nat}, n ≤ 10 → wdOf f a n = some w → okw a w ∧ wl w = n
  | 0, w, _, h => by
    cases h
    exact ⟨okw_0 a, by decide⟩
  | n + 1, w, hn, h => by
    unfold wdOf at h
    split at h
    · cases h
    · rename_i w' hw
      split at h
      · rename_i hl
        cases h
        obtain ⟨i1, i2⟩ := wdOf_ok ha (by omega) hw
        exact ⟨okw_lw ha i1 (by omega) (by omega), by rw [wl_lw (by omega), i2]⟩
      · cases h
theorem wdOf_none {f : Nat → Int} {a n : Nat} (h : wdOf f a n = none) : ∀ k, wdOf f a (n + k) = none
  | 0 => h
  | k + 1 => by
    show wdOf f a ((n + k) + 1) = none
    unfold wdOf
    rw [wdOf_none h k]
theorem wdOf_s {f : Nat → Int} {a n w : Nat} (h : wdOf f a n = some w) : wdOf f a (n + 1) = if 0 ≤ f n - 97 ∧ f n - 97 < a then some (lw w (f n - 97).toNat) else none := by
  conv => lhs; unfold wdOf
  rw [h]
theorem up2_up2 {st : St} {o i : Nat} {v w : Int} : up2 (up2 st o i v) o i w = up2 st o i w := by
  funext k j
  rw [up2_at, up2_at, up2_at, up2_at]
  by_cases hk : k = o
  · subst hk
    simp only [if_true]
    split <;> simp_all
  · simp [hk]
def wo (f : Nat → Int) (a c : Nat) : Option Nat := if c ≤ 10 then wdOf f a c else none
def woI (x : Option Nat) : Int := match x with
  | some w => (w : Int)
  | none => -1
theorem sp_asWord {d c a : Nat} {st : St} {Q : Rn} (hc : st 1 1 = c) (hn : c ≤ 800) (hb : ∀ i, i < c → 0 ≤ st 2 i ∧ st 2 i ≤ 255) (ha : a ≤ 4) (hq : Q (vi (woI (wo (st 2) a c))) st) : MS (d + 3) 227 [vr 1, vi a] st Q := by
  have k0 : kl 1 = 5 := rfl
  refine MS_v [vr 1, vi a, none, none, none] rfl rfl rfl rfl ?_
  try simp only [awu 227 0, awu 227 1, awu 227 2, pe227, xs, i_load, i_loadR, i_inc, lg, lp, true_and, and_true, List.length_cons, List.length_nil, Nat.reduceAdd, Nat.reduceLeDiff, Nat.zero_le, Int.toNat_natCast, natLit, k0, hc]
  by_cases h10 : c ≤ 10
  · refine ⟨fun _ => ?_, fun h => by omega⟩
    have hq' : Q (vi (woI (wdOf (st 2) a c))) st := by unfold wo at hq; rw [if_pos h10] at hq; exact hq
    have key : ∀ m k w : Nat, ∀ u, k ≤ c → c - k = m → wdOf (st 2) a k = some w → AW (P 227) Q (MS (d + 2)) 0 (fun _ => 0) 3 [vr 1, vi a, vi w, vi k, u] [] st := by
      intro m
      induction m with
      | zero =>
        intro k w u h1 h2 hw
        have : k = c := by omega
        subst this
        rw [awu 227 3]
        try simp only [awu 227 4, awu 227 8, pe227, xs, i_load, i_loadR, i_inc, lg, lp, true_and, and_true, List.length_cons, List.length_nil, Nat.reduceAdd, Nat.reduceLeDiff, Nat.zero_le, Int.toNat_natCast, natLit, k0, hc]
        rw [hw] at hq'
        exact ⟨fun _ => hq', fun h => by omega⟩
      | succ m ih =>
        intro k w u h1 h2 hw
        obtain ⟨ow, ol⟩ := wdOf_ok ha (by omega) hw
        have hwl := okw_lt ow
        have hbk := hb k (by omega)
        rw [awu 227 3]
        try simp only [awu 227 4, awu 227 8, pe227, xs, i_load, i_loadR, i_inc, lg, lp, true_and, and_true, List.length_cons, List.length_nil, Nat.reduceAdd, Nat.reduceLeDiff, Nat.zero_le, Int.toNat_natCast, natLit, k0, hc]
        refine ⟨fun h => by omega, fun _ => ?_⟩
        refine sp_at (n := 800) (c := c) k0 ⟨rfl, rfl⟩ hc hn ?_
        dsimp only
        rw [if_pos (by omega), Int.toNat_natCast]
        try simp only [awu 227 5, awu 227 6, awu 227 7, pe227, xs, i_load, i_loadR, i_inc, lg, lp, true_and, and_true, List.length_cons, List.length_nil, Nat.reduceAdd, Nat.reduceLeDiff, Nat.zero_le, Int.toNat_natCast, natLit, k0, hc]
        rw [wr_id (by omega) (by omega)]
        have es := wdOf_s hw
        refine ⟨fun h => ?_, fun h => ⟨fun h' => ?_, fun h' => ?_⟩⟩
        · rw [if_neg (by omega)] at es
          have := wdOf_none es (c - (k + 1))
          rw [show k + 1 + (c - (k + 1)) = c by omega] at this
          rw [this] at hq'
          exact hq'
        · rw [if_pos (by omega)] at es
          have el : st 2 k - 97 = (((st 2 k - 97).toNat : Nat) : Int) := by omega
          rw [el]
          refine sp_longer (by omega) (by omega) (by omega) ?_
          dsimp only
          try simp only [awu 227 5, awu 227 6, awu 227 7, pe227, xs, i_load, i_loadR, i_inc, lg, lp, true_and, and_true, List.length_cons, List.length_nil, Nat.reduceAdd, Nat.reduceLeDiff, Nat.zero_le, Int.toNat_natCast, natLit, k0, hc]
          rw [wr_id (by omega) (by omega)]
          exact ih (k + 1) _ _ (by omega) (by omega) es
        · rw [if_neg (by omega)] at es
          have := wdOf_none es (c - (k + 1))
          rw [show k + 1 + (c - (k + 1)) = c by omega] at this
          rw [this] at hq'
          exact hq'
    exact key c 0 0 none (Nat.zero_le _) rfl rfl
  · refine ⟨fun h => by omega, fun _ => ?_⟩
    unfold wo at hq
    rw [if_neg h10] at hq
    exact hq
theorem sp_wot {d c a : Nat} {st : St} {Q : Rn} (hc : st 1 1 = c) (hn : c ≤ 800) (hb : ∀ i, i < c → 0 ≤ st 2 i ∧ st 2 i ≤ 255) (hl : st 0 15 = a) (ha : a ≤ 4) (hq : Q (vi (woI (wo (st 2) a c))) (up2 st 1 1 0)) : MS (d + 4) 6 [vr 0] st Q := by
  have k0 : kl 0 = 11 := rfl
  have k1 : kl 1 = 5 := rfl
  refine MS_v [vr 0, none] rfl rfl rfl rfl ?_
  try simp only [awu 6 0, pe6, xs, i_load, i_loadR, i_inc, lg, lp, true_and, and_true, List.length_cons, List.length_nil, Nat.reduceAdd, Nat.reduceLeDiff, Nat.zero_le, Int.toNat_natCast, natLit, k0, k1, hl, Nat.zero_add]
  refine sp_asWord hc hn hb ha ?_
  dsimp only
  try simp only [awu 6 0, pe6, xs, i_load, i_loadR, i_inc, lg, lp, true_and, and_true, List.length_cons, List.length_nil, Nat.reduceAdd, Nat.reduceLeDiff, Nat.zero_le, Int.toNat_natCast, natLit, k0, k1, hl, Nat.zero_add]
  refine sp_cut k1 ?_
  dsimp only
  exact hq
theorem w8_small {x : Int} (h1 : 0 ≤ x) (h2 : x ≤ 127) : w8 x = x := by
  unfold w8
  exact Int.bmod_eq_of_le (by omega) (by omega)
theorem w8_big {x : Int} (h1 : 128 ≤ x) (h2 : x ≤ 255) : w8 x = x - 256 := by
  have : w8 x = w8 (x - 256) := by
    rw [← w8_mod x, ← w8_mod (x - 256)]
    congr 1
    omega
  rw [this]
  unfold w8
  exact Int.bmod_eq_of_le (by omega) (by omega)
theorem w8_let {x : Int} {a : Nat} (h1 : 0 ≤ x) (h2 : x ≤ 255) (ha : a ≤ 4) : (0 ≤ w8 x - 97 ∧ w8 x - 97 < a ↔ 0 ≤ x - 97 ∧ x - 97 < a) ∧ (0 ≤ x - 97 ∧ x - 97 < a → w8 x = x) := by
  by_cases h : x ≤ 127
  · rw [w8_small h1 h]
    exact ⟨Iff.rfl, fun _ => rfl⟩
  · rw [w8_big (by omega) h2]
    constructor
    · omega
    · omega
theorem sp_readWord {d c a : Nat} {st : St} {f : Nat → Int} {Q : Rn} (hc : st 99 1 = c) (hn : c ≤ 800) (hb : ∀ i, i < c → 0 ≤ f i ∧ f i ≤ 255 ∧ st 100 i = w8 (f i)) (hl : st 99 2 = a) (ha : a ≤ 4)
    (h1 : ∀ w, wo f a c = some w → Q (vi 1) (up2 (up2 (up2 st 99 1 0) 99 3 (wl w : Nat)) 99 4 (wc w : Nat))) (h0 : wo f a c = none → ∀ x, Q (vi 0) (up2 (up2 (up2 st 99 1 0) 99 3 c) 99 4 x)) : MS (d + 2) 47 [vr 99] st Q := by
  have k0 : kl 99 = 12 := rfl
  have k1 : kl 100 = 51 := rfl
  have l1 : len 100 = 800 := rfl
  refine MS_v [vr 99, none, none, none] rfl rfl rfl rfl ?_
  try simp only [awu 47 0, awu 47 1, awu 47 2, pe47, xs, i_load, i_loadR, i_inc, lg, lp, true_and, and_true, List.length_cons, List.length_nil, Nat.reduceAdd, Nat.reduceLeDiff, Nat.zero_le, Int.toNat_natCast, natLit, k0, hc]
  by_cases h10 : c ≤ 10
  · refine ⟨fun _ => ?_, fun h => by omega⟩
    have ew : wo f a c = wdOf f a c := by unfold wo; rw [if_pos h10]
    rw [ew] at h1 h0
    have key : ∀ m k w : Nat, ∀ u, k ≤ c → c - k = m → wdOf f a k = some w → AW (P 47) Q (MS (d + 1)) 0 (fun _ => 0) 3 [vr 99, vi c, vi k, u] [] (up2 (up2 (up2 st 99 1 0) 99 3 c) 99 4 (wc w : Nat)) := by
      intro m
      induction m with
      | zero =>
        intro k w u g1 g2 hw
        have : k = c := by omega
        subst this
        rw [awu 47 3]
        try simp only [awu 47 7, pe47, xs, i_load, i_loadR, i_inc, lg, lp, true_and, and_true, List.length_cons, List.length_nil, Nat.reduceAdd, Nat.reduceLeDiff, Nat.zero_le, Int.toNat_natCast, natLit, k0]
        have hh := h1 w hw
        rw [(wdOf_ok ha (by omega) hw).2] at hh
        exact ⟨fun _ => ⟨ok01_1, hh⟩, fun h => by omega⟩
      | succ m ih =>
        intro k w u g1 g2 hw
        obtain ⟨ow, ol⟩ := wdOf_ok ha (by omega) hw
        obtain ⟨hb1, hb2, hb3⟩ := hb k (by omega)
        have e1 : (up2 (up2 (up2 st 99 1 0) 99 3 c) 99 4 (wc w : Nat)) 100 k = w8 (f k) := by
          rw [up2_ne (by decide), up2_ne (by decide), up2_ne (by decide)]
          exact hb3
        have e2 : (up2 (up2 (up2 st 99 1 0) 99 3 c) 99 4 (wc w : Nat)) 99 2 = a := by
          simp only [up2_at, if_true, if_false]
          exact hl
        rw [awu 47 3]
        try simp only [awu 47 4, awu 47 7, pe47, xs, i_load, i_loadR, i_inc, lg, lp, true_and, and_true, List.length_cons, List.length_nil, Nat.reduceAdd, Nat.reduceLeDiff, Nat.zero_le, Int.toNat_natCast, natLit, k0, k1, l1, e1, e2]
        refine ⟨fun h => by omega, fun _ => ⟨by omega, ?_⟩⟩
        have es := wdOf_s hw
        obtain ⟨v1, v2⟩ := w8_let hb1 hb2 ha
        have hw8 : -128 ≤ w8 (f k) ∧ w8 (f k) ≤ 127 := by
          by_cases h : f k ≤ 127
          · rw [w8_small hb1 h]; omega
          · rw [w8_big (by omega) hb2]; omega
        rw [wr_id (x := w8 (f k) - 97) (by omega) (by omega), wr_id (x := (a : Int) - 1) (by omega) (by omega)]
        refine sp_isIn ?_
        dsimp only
        by_cases hin : 0 ≤ f k - 97 ∧ f k - 97 < a
        · rw [if_pos (by have := v1.mpr hin; omega)]
          rw [if_pos hin] at es
          have e4 : (up2 (up2 (up2 st 99 1 0) 99 3 c) 99 4 (wc w : Nat)) 99 4 = (wc w : Nat) := by
            simp only [up2_at, if_true]
          try simp only [awu 47 5, awu 47 6, pe47, xs, i_load, i_loadR, i_inc, lg, lp, true_and, and_true, List.length_cons, List.length_nil, Nat.reduceAdd, Nat.reduceLeDiff, Nat.zero_le, Int.toNat_natCast, natLit, k0, k1, l1, e4]
          refine ⟨fun _ => ?_, fun h => absurd (by decide) h⟩
          have hp : 4 ^ wl w ≤ 4 ^ 9 := Nat.pow_le_pow_right (by decide) (by omega)
          have hcw := ow.2.1
          have e5 : wc (lw w (f k - 97).toNat) = wc w * 4 + (f k - 97).toNat := wc_lw (by omega) (by omega)
          rw [v2 hin, wr_id (x := 4 * ((wc w : Nat) : Int)) (by omega) (by omega), wr_id (by omega) (by omega), wr_id (by omega) (by omega), up2_up2]
          have e6 : 4 * ((wc w : Nat) : Int) + (f k - 97) = ((wc (lw w (f k - 97).toNat) : Nat) : Int) := by rw [e5]; omega
          rw [e6]
          exact ih (k + 1) _ _ (by omega) (by omega) es
        · rw [if_neg (fun h => hin (v1.mp (by omega)))]
          rw [if_neg hin] at es
          have := wdOf_none es (c - (k + 1))
          rw [show k + 1 + (c - (k + 1)) = c by omega] at this
          try simp only [awu 47 5, awu 47 6, pe47, xs, i_load, i_loadR, i_inc, lg, lp, true_and, and_true, List.length_cons, List.length_nil, Nat.reduceAdd, Nat.reduceLeDiff, Nat.zero_le, Int.toNat_natCast, natLit, k0, k1, l1]
          exact ⟨fun h => absurd trivial h, fun _ => ⟨ok01_0, h0 this _⟩⟩
    exact key c 0 0 none (Nat.zero_le _) rfl rfl
  · refine ⟨fun h => by omega, fun _ => ?_⟩
    unfold wo at h0
    rw [if_neg h10] at h0
    exact ⟨ok01_0, h0 rfl _⟩
