/-! the examples, on both sides -/
def IsPl (e : Nat → Int) (c : Nat) (w : Int) (p : Nat) : Prop := p ≤ c ∧ (∀ i, i < p → e i < w) ∧ (p < c → w ≤ e p)
theorem IsPl_u {e : Nat → Int} {c p q : Nat} {w : Int} (h1 : IsPl e c w p) (h2 : IsPl e c w q) : p = q := by
  obtain ⟨a1, a2, a3⟩ := h1
  obtain ⟨b1, b2, b3⟩ := h2
  rcases Nat.lt_trichotomy p q with h | h | h
  · have := b2 p h
    have := a3 (by omega)
    omega
  · exact h
  · have := a2 q h
    have := b3 (by omega)
    omega
def insF (f : Nat → Int) (p : Nat) (v : Int) (i : Nat) : Int := if i < p then f i else if i = p then v else f (i - 1)
def remF (f : Nat → Int) (p : Nat) (i : Nat) : Int := if i < p then f i else f (i + 1)
theorem sp_shas {d c : Nat} {st : St} {k : Int} {Q : Rn} (hc : st 5 2 = c) (hn : c ≤ 40) (hq : Q (vi (if 0 ≤ k ∧ k < c then 1 else 0)) st) : MS (d + 1) 235 [vr 5, vi k] st Q := by
  have k0 : kl 5 = 7 := rfl
  refine MS_v [vr 5, vi k] rfl rfl rfl rfl ?_
  try simp only [awu 235 0, awu 235 1, awu 235 2, awu 235 3, awu 235 4, awu 235 5, pe235, xs, i_load, i_loadR, i_inc, lg, lp, true_and, and_true, List.length_cons, List.length_nil, Nat.reduceAdd, Nat.reduceLeDiff, Nat.zero_le, Int.toNat_natCast, natLit, k0, hc]
  refine ⟨fun a => ?_, fun a => ⟨fun b => ?_, fun b => ⟨fun g => by omega, fun g => ?_⟩⟩⟩
  · rw [if_neg (by omega)] at hq
    exact ⟨ok01_0, hq⟩
  · rw [if_neg (by omega)] at hq
    exact ⟨ok01_0, hq⟩
  · rw [if_pos (by omega)] at hq
    exact ⟨ok01_1, hq⟩
theorem sp_scode {d c : Nat} {st : St} {k : Int} {Q : Rn} (hc : st 5 2 = c) (hn : c ≤ 40) (hq : Q (vi (if 0 ≤ k ∧ k < c then st 6 k.toNat else -1)) st) : MS (d + 2) 236 [vr 5, vi k] st Q := by
  have k0 : kl 5 = 7 := rfl
  have k1 : kl 6 = 50 := rfl
  have l1 : len 6 = 40 := rfl
  refine MS_v [vr 5, vi k] rfl rfl rfl rfl ?_
  try simp only [awu 236 0, awu 236 1, awu 236 2, awu 236 3, pe236, xs, i_load, i_loadR, i_inc, lg, lp, true_and, and_true, List.length_cons, List.length_nil, Nat.reduceAdd, Nat.reduceLeDiff, Nat.zero_le, Int.toNat_natCast, natLit, k0, k1, l1]
  refine sp_shas hc hn ?_
  dsimp only
  by_cases h : 0 ≤ k ∧ k < c
  · rw [if_pos h] at hq ⊢
    try simp only [awu 236 0, awu 236 1, awu 236 2, awu 236 3, pe236, xs, i_load, i_loadR, i_inc, lg, lp, true_and, and_true, List.length_cons, List.length_nil, Nat.reduceAdd, Nat.reduceLeDiff, Nat.zero_le, Int.toNat_natCast, natLit, k0, k1, l1]
    exact ⟨fun a => absurd a (by decide), fun _ => ⟨by omega, hq⟩⟩
  · rw [if_neg h] at hq ⊢
    try simp only [awu 236 0, awu 236 1, awu 236 2, awu 236 3, pe236, xs, i_load, i_loadR, i_inc, lg, lp, true_and, and_true, List.length_cons, List.length_nil, Nat.reduceAdd, Nat.reduceLeDiff, Nat.zero_le, Int.toNat_natCast, natLit, k0, k1, l1]
    exact ⟨fun _ => hq, fun a => absurd trivial a⟩
theorem sp_sisIn {d c : Nat} {st : St} {k : Int} {Q : Rn} (hc : st 5 2 = c) (hn : c ≤ 40) (h01 : ∀ i, i < c → ok01 (st 7 i)) (hq : Q (vi (if 0 ≤ k ∧ k < c then st 7 k.toNat else 0)) st) : MS (d + 2) 237 [vr 5, vi k] st Q := by
  have k0 : kl 5 = 7 := rfl
  have k1 : kl 7 = 52 := rfl
  have l1 : len 7 = 40 := rfl
  refine MS_v [vr 5, vi k] rfl rfl rfl rfl ?_
  try simp only [awu 237 0, awu 237 1, awu 237 2, awu 237 3, awu 237 4, pe237, xs, i_load, i_loadR, i_inc, lg, lp, true_and, and_true, List.length_cons, List.length_nil, Nat.reduceAdd, Nat.reduceLeDiff, Nat.zero_le, Int.toNat_natCast, natLit, k0, k1, l1]
  refine sp_shas hc hn ?_
  dsimp only
  by_cases h : 0 ≤ k ∧ k < c
  · rw [if_pos h] at hq ⊢
    try simp only [awu 237 0, awu 237 1, awu 237 2, awu 237 3, awu 237 4, pe237, xs, i_load, i_loadR, i_inc, lg, lp, true_and, and_true, List.length_cons, List.length_nil, Nat.reduceAdd, Nat.reduceLeDiff, Nat.zero_le, Int.toNat_natCast, natLit, k0, k1, l1]
    refine ⟨fun a => absurd a (by decide), fun _ => ⟨by omega, ?_⟩⟩
    rcases h01 k.toNat (by omega) with e | e
    · rw [e] at hq ⊢
      exact ⟨fun _ => ⟨ok01_0, hq⟩, fun a => absurd rfl a⟩
    · rw [e] at hq ⊢
      exact ⟨fun a => absurd a (by decide), fun _ => ⟨ok01_1, hq⟩⟩
  · rw [if_neg h] at hq ⊢
    try simp only [awu 237 0, awu 237 1, awu 237 2, awu 237 3, awu 237 4, pe237, xs, i_load, i_loadR, i_inc, lg, lp, true_and, and_true, List.length_cons, List.length_nil, Nat.reduceAdd, Nat.reduceLeDiff, Nat.zero_le, Int.toNat_natCast, natLit, k0, k1, l1]
    exact ⟨fun _ => ⟨ok01_0, hq⟩, fun a => absurd trivial a⟩
def sumF (f : Nat → Int) : Nat → Int
  | 0 => 0
  | n + 1 => sumF f n + f n
theorem sumF_b {f : Nat → Int} {c : Nat} (h : ∀ i, i < c → ok01 (f i)) : ∀ n, n ≤ c → 0 ≤ sumF f n ∧ sumF f n ≤ n
  | 0, _ => by simp [sumF]
  | n + 1, hn => by
    have ih := sumF_b h n (by omega)
    have := h n (by omega)
    unfold sumF
    rcases this with e | e <;> rw [e] <;> omega
theorem sumF_congr {f g : Nat → Int} {c : Nat} (h : ∀ i, i < c → f i = g i) : ∀ n, n ≤ c → sumF f n = sumF g n
  | 0, _ => rfl
  | n + 1, hn => by
    unfold sumF
    rw [sumF_congr h n (by omega), h n (by omega)]
theorem sp_scnt {d c : Nat} {st : St} {Q : Rn} (hc : st 5 2 = c) (hn : c ≤ 40) (h01 : ∀ i, i < c → ok01 (st 7 i)) (hq : Q (vi (sumF (st 7) c)) st) : MS (d + 3) 238 [vr 5] st Q := by
  have k0 : kl 5 = 7 := rfl
  refine MS_v [vr 5, none, none] rfl rfl rfl rfl ?_
  try simp only [awu 238 0, pe238, xs, i_load, i_loadR, i_inc, lg, lp, true_and, and_true, List.length_cons, List.length_nil, Nat.reduceAdd, Nat.reduceLeDiff, Nat.zero_le, Int.toNat_natCast, natLit, k0]
  have key : ∀ m k : Nat, k ≤ c → c - k = m → AW (P 238) Q (MS (d + 2)) 0 (fun _ => 0) 1 [vr 5, vi (sumF (st 7) k), vi k] [] st := by
    intro m
    induction m with
    | zero =>
      intro k g1 g2
      have : k = c := by omega
      subst this
      rw [awu 238 1]
      try simp only [awu 238 2, awu 238 5, pe238, xs, i_load, i_loadR, i_inc, lg, lp, true_and, and_true, List.length_cons, List.length_nil, Nat.reduceAdd, Nat.reduceLeDiff, Nat.zero_le, Int.toNat_natCast, natLit, k0, hc]
      exact ⟨fun _ => hq, fun h => by omega⟩
    | succ m ih =>
      intro k g1 g2
      have hs := sumF_b h01 k (by omega)
      rw [awu 238 1]
      try simp only [awu 238 2, awu 238 5, pe238, xs, i_load, i_loadR, i_inc, lg, lp, true_and, and_true, List.length_cons, List.length_nil, Nat.reduceAdd, Nat.reduceLeDiff, Nat.zero_le, Int.toNat_natCast, natLit, k0, hc]
      refine ⟨fun h => by omega, fun _ => sp_sisIn hc hn h01 ?_⟩
      dsimp only
      rw [if_pos (by omega), Int.toNat_natCast]
      try simp only [awu 238 3, awu 238 4, pe238, xs, i_load, i_loadR, i_inc, lg, lp, true_and, and_true, List.length_cons, List.length_nil, Nat.reduceAdd, Nat.reduceLeDiff, Nat.zero_le, Int.toNat_natCast, natLit, k0, hc]
      have e1 : sumF (st 7) (k + 1) = sumF (st 7) k + st 7 k := rfl
      have ih' := ih (k + 1) (by omega) (by omega)
      refine ⟨fun h => ?_, fun h => ?_⟩
      · rw [e1, h, Int.add_zero] at ih'
        rw [wr_id (by omega) (by omega)]
        exact ih'
      · have h1 : st 7 k = 1 := by rcases h01 k (by omega) with e | e <;> omega
        rw [e1, h1] at ih'
        rw [wr_id (x := sumF (st 7) k + 1) (by omega) (by omega), wr_id (by omega) (by omega)]
        exact ih'
  exact key c 0 (Nat.zero_le _) rfl
theorem sp_spl {d c : Nat} {st : St} {w : Int} {Q : Rn} (hc : st 5 2 = c) (hn : c ≤ 40) (hq : ∀ p, IsPl (st 6) c w p → Q (vi (p : Nat)) st) : MS (d + 1) 239 [vr 5, vi w] st Q := by
  have k0 : kl 5 = 7 := rfl
  have k1 : kl 6 = 50 := rfl
  have l1 : len 6 = 40 := rfl
  refine MS_v [vr 5, vi w, none] rfl rfl rfl rfl ?_
  try simp only [awu 239 0, pe239, xs, i_load, i_loadR, i_inc, lg, lp, true_and, and_true, List.length_cons, List.length_nil, Nat.reduceAdd, Nat.reduceLeDiff, Nat.zero_le, Int.toNat_natCast, natLit, k0]
  have key : ∀ m k : Nat, k ≤ c → c - k = m → (∀ i, i < k → st 6 i < w) → AW (P 239) Q (MS d) 0 (fun _ => 0) 1 [vr 5, vi w, vi k] [] st := by
    intro m
    induction m with
    | zero =>
      intro k g1 g2 g3
      rw [awu 239 1]
      try simp only [awu 239 2, awu 239 3, awu 239 4, awu 239 5, pe239, xs, i_load, i_loadR, i_inc, lg, lp, true_and, and_true, List.length_cons, List.length_nil, Nat.reduceAdd, Nat.reduceLeDiff, Nat.zero_le, Int.toNat_natCast, natLit, k0, k1, l1, hc]
      exact ⟨fun _ => hq k ⟨g1, g3, fun h => by omega⟩, fun h => by omega⟩
    | succ m ih =>
      intro k g1 g2 g3
      rw [awu 239 1]
      try simp only [awu 239 2, awu 239 3, awu 239 4, awu 239 5, pe239, xs, i_load, i_loadR, i_inc, lg, lp, true_and, and_true, List.length_cons, List.length_nil, Nat.reduceAdd, Nat.reduceLeDiff, Nat.zero_le, Int.toNat_natCast, natLit, k0, k1, l1, hc]
      refine ⟨fun h => by omega, fun _ => ⟨fun h => by omega, fun _ => ⟨by omega, fun h => hq k ⟨g1, g3, fun _ => h⟩, fun h => ?_⟩⟩⟩
      rw [wr_id (by omega) (by omega)]
      refine ih (k + 1) (by omega) (by omega) (fun i hi => ?_)
      by_cases e : i = k
      · subst e; omega
      · exact g3 i (by omega)
  exact key c 0 (Nat.zero_le _) rfl (fun i hi => by omega)
theorem sp_sholds {d c : Nat} {st : St} {w : Int} {Q : Rn} (hc : st 5 2 = c) (hn : c ≤ 40) (hw : 0 ≤ w) (hq : ∀ p, IsPl (st 6) c w p → Q (vi (if p < c ∧ st 6 p = w then 1 else 0)) st) : MS (d + 3) 240 [vr 5, vi w] st Q := by
  have k0 : kl 5 = 7 := rfl
  refine MS_v [vr 5, vi w] rfl rfl rfl rfl ?_
  try simp only [awu 240 0, awu 240 1, awu 240 2, awu 240 3, pe240, xs, i_load, i_loadR, i_inc, lg, lp, true_and, and_true, List.length_cons, List.length_nil, Nat.reduceAdd, Nat.reduceLeDiff, Nat.zero_le, Int.toNat_natCast, natLit, k0]
  refine sp_spl hc hn (fun p hp => ?_)
  have hq := hq p hp
  dsimp only
  try simp only [awu 240 0, awu 240 1, awu 240 2, awu 240 3, pe240, xs, i_load, i_loadR, i_inc, lg, lp, true_and, and_true, List.length_cons, List.length_nil, Nat.reduceAdd, Nat.reduceLeDiff, Nat.zero_le, Int.toNat_natCast, natLit, k0]
  refine sp_scode hc hn ?_
  dsimp only
  try simp only [awu 240 0, awu 240 1, awu 240 2, awu 240 3, pe240, xs, i_load, i_loadR, i_inc, lg, lp, true_and, and_true, List.length_cons, List.length_nil, Nat.reduceAdd, Nat.reduceLeDiff, Nat.zero_le, Int.toNat_natCast, natLit, k0]
  by_cases h : p < c
  · rw [if_pos (by omega)]
    by_cases h2 : st 6 p = w
    · rw [if_pos ⟨h, h2⟩] at hq
      exact ⟨fun a => absurd h2 a, fun _ => ⟨ok01_1, hq⟩⟩
    · rw [if_neg (by omega)] at hq
      exact ⟨fun _ => ⟨ok01_0, hq⟩, fun a => absurd h2 a⟩
  · rw [if_neg (by omega)]
    rw [if_neg (by omega)] at hq
    exact ⟨fun _ => ⟨ok01_0, hq⟩, fun a => by omega⟩
theorem sp_sclear {d : Nat} {st : St} {Q : Rn} (hq : Q none (up2 st 5 2 0)) : MS (d + 1) 234 [vr 5] st Q := by
  have k0 : kl 5 = 7 := rfl
  refine MS_v [vr 5] rfl rfl rfl rfl ?_
  try simp only [awu 234 0, pe234, xs, i_load, i_loadR, i_inc, lg, lp, true_and, and_true, List.length_cons, List.length_nil, Nat.reduceAdd, Nat.reduceLeDiff, Nat.zero_le, Int.toNat_natCast, natLit, k0]
  exact hq
theorem sp_sins {d c p : Nat} {st : St} {w b : Int} {Q : Rn} (hc : st 5 2 = c) (hn : c < 40) (hp : p ≤ c) (hb : ok01 b) (h01 : ∀ i, i < c → ok01 (st 7 i))
    (hq : ∀ st' : St, st' 5 2 = (c + 1 : Nat) → (∀ i, i ≤ c → st' 6 i = insF (st 6) p w i) → (∀ i, i ≤ c → st' 7 i = insF (st 7) p b i) → (∀ j, j ≠ 5 → j ≠ 6 → j ≠ 7 → st' j = st j) → Q none st') : MS (d + 1) 241 [vr 5, vi p, vi w, vi b] st Q := by
  have k0 : kl 5 = 7 := rfl
  have k1 : kl 6 = 50 := rfl
  have l1 : len 6 = 40 := rfl
  have k2 : kl 7 = 52 := rfl
  have l2 : len 7 = 40 := rfl
  refine MS_v [vr 5, vi p, vi w, vi b, none] rfl rfl rfl rfl ?_
  try simp only [awu 241 0, awu 241 1, awu 241 2, awu 241 3, awu 241 4, pe241, xs, i_load, i_loadR, i_inc, lg, lp, true_and, and_true, List.length_cons, List.length_nil, Nat.reduceAdd, Nat.reduceLeDiff, Nat.zero_le, Int.toNat_natCast, natLit, k0, hc]
  refine ⟨fun h => by omega, fun _ => ⟨fun h => by omega, fun _ => ⟨fun _ => ?_, fun h => by omega⟩⟩⟩
  have key : ∀ m k : Nat, ∀ st' : St, p ≤ k → k ≤ c → k - p = m → st' 5 = st 5 → (∀ i, i < k → st' 6 i = st 6 i ∧ st' 7 i = st 7 i) → (∀ i, k < i → i ≤ c → st' 6 i = st 6 (i - 1) ∧ st' 7 i = st 7 (i - 1)) → (∀ j, j ≠ 5 → j ≠ 6 → j ≠ 7 → st' j = st j) → AW (P 241) Q (MS d) 0 (fun _ => 0) 5 [vr 5, vi p, vi w, vi b, vi k] [] st' := by
    intro m
    induction m with
    | zero =>
      intro k st' g1 g2 g3 g4 g5 g6 g7
      have : k = p := by omega
      subst this
      have hc' : st' 5 2 = c := by rw [g4]; exact hc
      rw [awu 241 5]
      try simp only [awu 241 7, pe241, xs, i_load, i_loadR, i_inc, lg, lp, true_and, and_true, List.length_cons, List.length_nil, Nat.reduceAdd, Nat.reduceLeDiff, Nat.zero_le, Int.toNat_natCast, natLit, k0, k1, l1, k2, l2]
      refine ⟨fun _ => ⟨by omega, by omega, hb, ?_⟩, fun h => by omega⟩
      apply hq
      · simp only [up2_at, if_true, hc']
        rw [wr_id (by simp; omega) (by simp; omega)]
        simp
      · intro i hi
        simp only [up2_at]
        unfold insF
        by_cases e : i = k
        · simp [e]
        · by_cases e2 : i < k
          · simp [e, e2, (g5 i e2).1]
          · simp [e, e2, (g6 i (by omega) hi).1]
      · intro i hi
        simp only [up2_at]
        unfold insF
        by_cases e : i = k
        · simp [e]
        · by_cases e2 : i < k
          · simp [e, e2, (g5 i e2).2]
          · simp [e, e2, (g6 i (by omega) hi).2]
      · intro j h1 h2 h3
        rw [up2_ne h1, up2_ne h3, up2_ne h2]
        exact g7 j h1 h2 h3
    | succ m ih =>
      intro k st' g1 g2 g3 g4 g5 g6 g7
      have ek : wr ((k : Int) - 1) = ((k - 1 : Nat) : Int) := by rw [wr_id (by omega) (by omega)]; omega
      have ek2 : wr ((k : Int) + -1) = ((k - 1 : Nat) : Int) := by rw [wr_id (by omega) (by omega)]; omega
      rw [awu 241 5]
      try simp only [awu 241 6, pe241, xs, i_load, i_loadR, i_inc, lg, lp, true_and, and_true, List.length_cons, List.length_nil, Nat.reduceAdd, Nat.reduceLeDiff, Nat.zero_le, Int.toNat_natCast, natLit, k0, k1, l1, k2, l2, ek, ek2]
      have hv : up2 st' 6 k (st' 6 (k - 1)) 7 (k - 1) = st 7 (k - 1) := by rw [up2_ne (by decide)]; exact (g5 _ (by omega)).2
      refine ⟨fun h => by omega, fun _ => ⟨by omega, by omega, by omega, by omega, by rw [hv]; exact h01 _ (by omega), ?_⟩⟩
      rw [hv]
      refine ih (k - 1) _ (by omega) (by omega) (by omega) ?_ ?_ ?_ ?_
      · rw [up2_ne (by decide), up2_ne (by decide)]
        exact g4
      · intro i hi
        have := g5 i (by omega)
        simp only [up2_at]
        simp [show i ≠ k by omega, this]
      · intro i h1 h2
        simp only [up2_at]
        by_cases e : i = k
        · subst e
          simp [(g5 (i - 1) (by omega)).1]
        · simp [e, g6 i (by omega) h2]
      · intro j h1 h2 h3
        rw [up2_ne h3, up2_ne h2]
        exact g7 j h1 h2 h3
  exact key (c - p) c st hp (Nat.le_refl _) rfl rfl (fun _ _ => ⟨rfl, rfl⟩) (fun i h1 h2 => by omega) (fun _ _ _ _ => rfl)
theorem sp_srem {d c p : Nat} {st : St} {Q : Rn} (hc : st 5 2 = c) (hn : c ≤ 40) (hp : p < c) (h01 : ∀ i, i < c → ok01 (st 7 i))
    (hq : ∀ st' : St, st' 5 2 = (c - 1 : Nat) → (∀ i, i < c - 1 → st' 6 i = remF (st 6) p i) → (∀ i, i < c - 1 → st' 7 i = remF (st 7) p i) → (∀ j, j ≠ 5 → j ≠ 6 → j ≠ 7 → st' j = st j) → Q none st') : MS (d + 2) 242 [vr 5, vi p] st Q := by
  have k0 : kl 5 = 7 := rfl
  have k1 : kl 6 = 50 := rfl
  have l1 : len 6 = 40 := rfl
  have k2 : kl 7 = 52 := rfl
  have l2 : len 7 = 40 := rfl
  refine MS_v [vr 5, vi p, none] rfl rfl rfl rfl ?_
  try simp only [awu 242 0, pe242, xs, i_load, i_loadR, i_inc, lg, lp, true_and, and_true, List.length_cons, List.length_nil, Nat.reduceAdd, Nat.reduceLeDiff, Nat.zero_le, Int.toNat_natCast, natLit, k0]
  refine sp_shas hc hn ?_
  dsimp only
  rw [if_pos (by omega)]
  try simp only [awu 242 1, awu 242 2, pe242, xs, i_load, i_loadR, i_inc, lg, lp, true_and, and_true, List.length_cons, List.length_nil, Nat.reduceAdd, Nat.reduceLeDiff, Nat.zero_le, Int.toNat_natCast, natLit, k0, hc]
  refine ⟨fun h1 => ?_, fun h => absurd (by decide) h⟩
  clear h1
  rw [wr_id (by omega) (by omega)]
  have key : ∀ m k : Nat, ∀ st' : St, p ≤ k → k ≤ c - 1 → c - 1 - k = m → st' 5 2 = (c - 1 : Nat) → (∀ i, i < k → st' 6 i = remF (st 6) p i ∧ st' 7 i = remF (st 7) p i) → (∀ i, k ≤ i → i < c → st' 6 i = st 6 i ∧ st' 7 i = st 7 i) → (∀ j, j ≠ 5 → j ≠ 6 → j ≠ 7 → st' j = st j) → AW (P 242) Q (MS (d + 1)) 0 (fun _ => 0) 3 [vr 5, vi p, vi k] [] st' := by
    intro m
    induction m with
    | zero =>
      intro k st' g1 g2 g3 g4 g5 g6 g7
      have : k = c - 1 := by omega
      subst this
      rw [awu 242 3]
      try simp only [awu 242 5, pe242, xs, i_load, i_loadR, i_inc, lg, lp, true_and, and_true, List.length_cons, List.length_nil, Nat.reduceAdd, Nat.reduceLeDiff, Nat.zero_le, Int.toNat_natCast, natLit, k0, g4]
      exact ⟨fun _ => hq st' g4 (fun i hi => (g5 i hi).1) (fun i hi => (g5 i hi).2) g7, fun h => by omega⟩
    | succ m ih =>
      intro k st' g1 g2 g3 g4 g5 g6 g7
      have ek : wr ((k : Int) + 1) = ((k + 1 : Nat) : Int) := by rw [wr_id (by omega) (by omega)]; omega
      rw [awu 242 3]
      try simp only [awu 242 4, awu 242 5, pe242, xs, i_load, i_loadR, i_inc, lg, lp, true_and, and_true, List.length_cons, List.length_nil, Nat.reduceAdd, Nat.reduceLeDiff, Nat.zero_le, Int.toNat_natCast, natLit, k0, k1, l1, k2, l2, ek, g4]
      clear ek
      have hv : up2 st' 6 k (st' 6 (k + 1)) 7 (k + 1) = st 7 (k + 1) := by rw [up2_ne (by decide)]; exact (g6 _ (by omega) (by omega)).2
      refine ⟨fun h => by omega, fun _ => ⟨by omega, by omega, by omega, by omega, by rw [hv]; exact h01 _ (by omega), ?_⟩⟩
      rw [hv]
      refine ih (k + 1) _ (by omega) (by omega) (by omega) ?_ ?_ ?_ ?_
      · rw [up2_ne (by decide), up2_ne (by decide)]
        exact g4
      · intro i hi
        simp only [up2_at]
        by_cases e : i = k
        · subst e
          simp [(g6 (i + 1) (by omega) (by omega)).1, remF, show ¬ i < p by omega]
        · simp [e, g5 i (by omega)]
      · intro i h1 h2
        simp only [up2_at]
        simp [show i ≠ k by omega, g6 i (by omega) h2]
      · intro j h1 h2 h3
        rw [up2_ne h3, up2_ne h2]
        exact g7 j h1 h2 h3
  refine key (c - 1 - p) p _ (Nat.le_refl _) (by omega) rfl ?_ ?_ ?_ ?_
  · rw [up2_at]
    simp
    omega
  · intro i hi
    rw [up2_ne (by decide), up2_ne (by decide)]
    simp [remF, hi]
  · intro i _ _
    rw [up2_ne (by decide), up2_ne (by decide)]
    exact ⟨rfl, rfl⟩
  · intro j h1 _ _
    rw [up2_ne h1]
