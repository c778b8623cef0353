/-! the tree of the class -/
def isTr (o : Nat) : Prop := kl o = 9 ∧ ar (o + 1) 120 ∧ ar (o + 2) 120 ∧ ar (o + 3) 120 ∧ ar (o + 4) 480
theorem isTr_8 : isTr 8 := ⟨rfl, ⟨rfl, rfl⟩, ⟨rfl, rfl⟩, ⟨rfl, rfl⟩, ⟨rfl, rfl⟩⟩
theorem isTr_31 : isTr 31 := ⟨rfl, ⟨rfl, rfl⟩, ⟨rfl, rfl⟩, ⟨rfl, rfl⟩, ⟨rfl, rfl⟩⟩
theorem sp_thas {d o n : Nat} {st : St} {k : Int} {Q : Rn} (ho : isTr o) (hc : st o 4 = n) (hn : n ≤ 120) (hq : Q (vi (if 0 ≤ k ∧ k < n then 1 else 0)) st) : MS (d + 1) 251 [vr o, vi k] st Q := by
  have k0 := ho.1
  refine MS_v [vr o, vi k] rfl rfl k0 rfl ?_
  try simp only [awu 251 0, awu 251 1, awu 251 2, awu 251 3, awu 251 4, awu 251 5, pe251, xs, i_load, i_loadR, i_inc, lg, lp, true_and, and_true, List.length_cons, List.length_nil, Nat.reduceAdd, Nat.reduceLeDiff, Nat.zero_le, Int.toNat_natCast, natLit, k0, hc]
  refine ⟨fun a => ?_, fun a => ⟨fun b => ?_, fun b => ⟨fun g => by omega, fun g => ?_⟩⟩⟩
  · rw [if_neg (by omega)] at hq
    exact ⟨ok01_0, hq⟩
  · rw [if_neg (by omega)] at hq
    exact ⟨ok01_0, hq⟩
  · rw [if_pos (by omega)] at hq
    exact ⟨ok01_1, hq⟩
theorem sp_tpl {d o n : Nat} {st : St} {f : Nat → Nat} {w : Nat} {Q : Rn} (ho : isTr o) (hc : st o 4 = n) (hn : n ≤ 120) (hf : ∀ k, k < n → st (o + 1) k = f k) (hs : Srt f n) (hq : ∀ p, IsPl (fun i => (f i : Int)) n w p → Q (vi (p : Nat)) st) : MS (d + 1) 255 [vr o, vi w] st Q := by
  obtain ⟨k0, ⟨k1, l1⟩, -⟩ := ho
  refine MS_v [vr o, vi w, none, none, none, none] rfl rfl k0 rfl ?_
  try simp only [awu 255 0, pe255, xs, i_load, i_loadR, i_inc, lg, lp, true_and, and_true, List.length_cons, List.length_nil, Nat.reduceAdd, Nat.reduceLeDiff, Nat.zero_le, Int.toNat_natCast, natLit, k0, hc]
  rw [if_pos (by omega)]
  have key : ∀ m t lo hi : Nat, ∀ u, t + m ≤ 120 → lo ≤ hi → hi ≤ n → hi - lo ≤ m → (∀ i, i < lo → f i < w) → (∀ i, hi ≤ i → i < n → w ≤ f i) → AW (P 255) Q (MS d) 0 (fun _ => 0) 1 [vr o, vi w, vi lo, vi hi, vi t, u] [] st := by
    intro m
    induction m with
    | zero =>
      intro t lo hi u g0 g1 g2 g3 g4 g5
      have : lo = hi := by omega
      subst this
      rw [awu 255 1]
      try simp only [awu 255 2, awu 255 7, pe255, xs, i_load, i_loadR, i_inc, lg, lp, true_and, and_true, List.length_cons, List.length_nil, Nat.reduceAdd, Nat.reduceLeDiff, Nat.zero_le, Int.toNat_natCast, natLit, k0]
      have fin := hq lo ⟨g2, fun i hi => by have := g4 i hi; dsimp only; omega, fun h => by have := g5 lo (Nat.le_refl _) h; dsimp only; omega⟩
      exact ⟨fun _ => fin, fun _ => ⟨fun _ => fin, fun h => by omega⟩⟩
    | succ m ih =>
      intro t lo hi u g0 g1 g2 g3 g4 g5
      by_cases he : lo = hi
      · subst he
        rw [awu 255 1]
        try simp only [awu 255 2, awu 255 7, pe255, xs, i_load, i_loadR, i_inc, lg, lp, true_and, and_true, List.length_cons, List.length_nil, Nat.reduceAdd, Nat.reduceLeDiff, Nat.zero_le, Int.toNat_natCast, natLit, k0]
        have fin := hq lo ⟨g2, fun i hi => by have := g4 i hi; dsimp only; omega, fun h => by have := g5 lo (Nat.le_refl _) h; dsimp only; omega⟩
        exact ⟨fun _ => fin, fun _ => ⟨fun _ => fin, fun h => by omega⟩⟩
      · have e1 : wr ((lo : Int) + hi) = ((lo + hi : Nat) : Int) := by rw [wr_id (by omega) (by omega)]; omega
        have e2 : bshr ((lo + hi : Nat) : Int) 1 = (((lo + hi) / 2 : Nat) : Int) := bshr_nat (lo + hi) 1 (by clear g0; omega) (by decide)
        have wt : Unit → wr ((t : Int) + 1) = ((t + 1 : Nat) : Int) := fun _ => by rw [wr_id (by omega) (by omega)]; omega
        rw [awu 255 1]
        try simp only [awu 255 2, awu 255 3, awu 255 4, awu 255 5, awu 255 6, awu 255 7, pe255, xs, i_load, i_loadR, i_inc, lg, lp, true_and, and_true, List.length_cons, List.length_nil, Nat.reduceAdd, Nat.reduceLeDiff, Nat.zero_le, Int.toNat_natCast, natLit, k0, k1, l1, e1, e2, wt ()]
        clear e1 e2 wt
        rw [hf _ (by omega)]
        refine ⟨fun h => by omega, fun _ => ⟨fun h => by omega, fun _ => ⟨by omega, fun h => ?_, fun h => ?_⟩⟩⟩
        · refine ih (t + 1) lo ((lo + hi) / 2) _ (by omega) (by omega) (by omega) (by omega) g4 (fun i h1 h2 => ?_)
          have := Srt_le hs h1 h2
          omega
        · rw [wr_id (by omega) (by omega)]
          refine ih (t + 1) ((lo + hi) / 2 + 1) hi _ (by omega) (by omega) g2 (by omega) (fun i hi' => ?_) g5
          have := Srt_le hs (show i ≤ (lo + hi) / 2 by omega) (by omega)
          omega
  exact key n 0 0 n none (by omega) (Nat.zero_le _) (Nat.le_refl _) (by omega) (fun i hi => by omega) (fun i h1 h2 => by omega)
/-- the number of a node; or none -/
def noF (f : Nat → Nat) (n w : Nat) (r : Int) : Prop := (∀ i, i < n → f i = w → r = i) ∧ ((∀ i, i < n → f i ≠ w) → r = -1)
theorem noF_d {f : Nat → Nat} {n w : Nat} {r : Int} (h : noF f n w r) : (∃ i, i < n ∧ f i = w ∧ r = i) ∨ ((∀ i, i < n → f i ≠ w) ∧ r = -1) := by
  by_cases q : ∃ i, i < n ∧ f i = w
  · obtain ⟨i, h1, h2⟩ := q
    exact Or.inl ⟨i, h1, h2, h.1 i h1 h2⟩
  · have q' : ∀ i, i < n → f i ≠ w := fun i h1 h2 => q ⟨i, h1, h2⟩
    exact Or.inr ⟨q', h.2 q'⟩
theorem noF_of {f : Nat → Nat} {n p w : Nat} (hs : Srt f n) (hp : IsPl (fun i => (f i : Int)) n w p) : noF f n w (if p < n ∧ f p = w then (p : Int) else -1) := by
  have hm := IsPl_mm hs hp
  constructor
  · intro i h1 h2
    have := hm.mp ⟨i, h1, h2⟩
    rw [if_pos this, Srt_inj hs h1 this.1 (by omega)]
  · intro h
    rw [if_neg (fun q => h p q.1 q.2)]
theorem sp_tno {d o n : Nat} {st : St} {f : Nat → Nat} {w : Nat} {Q : Rn} (ho : isTr o) (hc : st o 4 = n) (hn : n ≤ 120) (hf : ∀ k, k < n → st (o + 1) k = f k) (hs : Srt f n) (hq : ∀ r, noF f n w r → Q (vi r) st) : MS (d + 2) 256 [vr o, vi w] st Q := by
  obtain ⟨k0, ⟨k1, l1⟩, -⟩ := id ho
  refine MS_v [vr o, vi w, none] rfl rfl k0 rfl ?_
  try simp only [awu 256 0, pe256, xs, i_load, i_loadR, i_inc, lg, lp, true_and, and_true, List.length_cons, List.length_nil, Nat.reduceAdd, Nat.reduceLeDiff, Nat.zero_le, Int.toNat_natCast, natLit, k0]
  refine sp_tpl ho hc hn hf hs (fun p hp => ?_)
  have hr := hq _ (noF_of hs hp)
  dsimp only
  try simp only [awu 256 0, pe256, xs, i_load, i_loadR, i_inc, lg, lp, true_and, and_true, List.length_cons, List.length_nil, Nat.reduceAdd, Nat.reduceLeDiff, Nat.zero_le, Int.toNat_natCast, natLit, k0]
  refine sp_thas ho hc hn ?_
  dsimp only
  have hpn := hp.1
  by_cases h : p < n
  · rw [if_pos (by omega)]
    try simp only [awu 256 1, awu 256 2, awu 256 3, awu 256 4, pe256, xs, i_load, i_loadR, i_inc, lg, lp, true_and, and_true, List.length_cons, List.length_nil, Nat.reduceAdd, Nat.reduceLeDiff, Nat.zero_le, Int.toNat_natCast, natLit, k0, k1, l1]
    refine ⟨fun a => absurd a (by decide), fun _ => ⟨by omega, ?_⟩⟩
    rw [hf p h]
    by_cases h2 : f p = w
    · rw [if_pos ⟨h, h2⟩] at hr
      exact ⟨fun a => by omega, fun _ => hr⟩
    · rw [if_neg (fun q => h2 q.2)] at hr
      exact ⟨fun _ => hr, fun a => by omega⟩
  · rw [if_neg (by omega)]
    rw [if_neg (fun q => h q.1)] at hr
    try simp only [awu 256 1, awu 256 2, awu 256 3, awu 256 4, pe256, xs, i_load, i_loadR, i_inc, lg, lp, true_and, and_true, List.length_cons, List.length_nil, Nat.reduceAdd, Nat.reduceLeDiff, Nat.zero_le, Int.toNat_natCast, natLit, k0, k1, l1]
    exact ⟨fun _ => hr, fun a => absurd trivial a⟩
/-- a node is put among the others -/
def ndI (f : Nat → Nat) (n w : Nat) (f' : Nat → Nat) (n' : Nat) : Prop := Srt f' n' ∧ n ≤ n' ∧ ∀ x, Mm f' n' x ↔ Mm f n x ∨ x = w
theorem sp_tadd {d o n : Nat} {st : St} {f : Nat → Nat} {w : Nat} {Q : Rn} (ho : isTr o) (hc : st o 4 = n) (hn : n ≤ 120) (hf : ∀ k, k < n → st (o + 1) k = f k) (hs : Srt f n) (hcp : Cp 120 (fun x => Mm f n x ∨ x = w))
    (hq : ∀ (st' : St) (f' : Nat → Nat) (n' : Nat), st' o 4 = n' → n' ≤ 120 → (∀ k, k < n' → st' (o + 1) k = f' k) → ndI f n w f' n' → (∀ j i, ¬ (j = o ∧ i = 4) → j ≠ o + 1 → st' j i = st j i) → Q none st') : MS (d + 2) 254 [vr o, vi w] st Q := by
  obtain ⟨k0, ⟨k1, l1⟩, -⟩ := id ho
  refine MS_v [vr o, vi w, none, none] rfl rfl k0 rfl ?_
  try simp only [awu 254 0, pe254, xs, i_load, i_loadR, i_inc, lg, lp, true_and, and_true, List.length_cons, List.length_nil, Nat.reduceAdd, Nat.reduceLeDiff, Nat.zero_le, Int.toNat_natCast, natLit, k0, hc]
  refine sp_tpl ho hc hn hf hs (fun p hp => ?_)
  have hpn := hp.1
  have hmm := IsPl_mm hs hp
  dsimp only
  by_cases hin : Mm f n w
  · have hin' := hmm.mp hin
    have hdone : Q none st := hq st f n hc hn hf ⟨hs, Nat.le_refl _, fun x => ⟨Or.inl, fun h => h.elim id (fun e => by rw [e]; exact hin)⟩⟩ (fun _ _ _ _ => rfl)
    try simp only [awu 254 0, awu 254 1, awu 254 2, awu 254 3, pe254, xs, i_load, i_loadR, i_inc, lg, lp, true_and, and_true, List.length_cons, List.length_nil, Nat.reduceAdd, Nat.reduceLeDiff, Nat.zero_le, Int.toNat_natCast, natLit, k0, k1, l1, hc]
    refine ⟨fun _ => hdone, fun _ => ⟨fun h => by omega, fun _ => ⟨by omega, fun h => ?_, fun _ => hdone⟩⟩⟩
    rw [hf p hin'.1] at h
    exact absurd (by rw [hin'.2]) h
  · have hlt : n < 120 := by
      have h2 : ∀ i, p ≤ i → i < n → w < f i := by
        intro i a b
        have h3 := hp.2.2 (by omega)
        have h4 := Srt_le hs a b
        have h5 : f i ≠ w := fun e => hin ⟨i, b, e⟩
        dsimp only at h3
        omega
      have h1 : ∀ i, i < p → f i < w := fun i a => by have := hp.2.1 i a; dsimp only at this; omega
      have := hcp (insN f p w) (n + 1) (Srt_ins hs hpn h1 h2) (fun i hi => (Mm_ins (f := f) (v := w) hpn).mp ⟨i, hi, rfl⟩)
      omega
    have h2 : ∀ i, p ≤ i → i < n → w < f i := by
      intro i a b
      have h3 := hp.2.2 (by omega)
      have h4 := Srt_le hs a b
      have h5 : f i ≠ w := fun e => hin ⟨i, b, e⟩
      dsimp only at h3
      omega
    have h1 : ∀ i, i < p → f i < w := fun i a => by have := hp.2.1 i a; dsimp only at this; omega
    have key : ∀ m k : Nat, ∀ st' : St, p ≤ k → k ≤ n → k - p = m → (∀ i, i < k → st' (o + 1) i = f i) → (∀ i, k < i → i ≤ n → st' (o + 1) i = f (i - 1)) → (∀ j, j ≠ o + 1 → st' j = st j) → AW (P 254) Q (MS (d + 1)) 0 (fun _ => 0) 5 [vr o, vi w, vi p, vi k] [] st' := by
      intro m
      induction m with
      | zero =>
        intro k st' g1 g2 g3 g4 g5 g6
        have : k = p := by omega
        subst this
        have hc' : st' o 4 = n := by rw [g6 o (by omega)]; exact hc
        have hc2 : up2 st' (o + 1) k w o 4 = n := by rw [up2_ne (by omega)]; exact hc'
        have ew : wr ((n : Int) + 1) = ((n + 1 : Nat) : Int) := by rw [wr_id (by omega) (by omega)]; omega
        rw [awu 254 5]
        try simp only [awu 254 7, pe254, xs, i_load, i_loadR, i_inc, lg, lp, true_and, and_true, List.length_cons, List.length_nil, Nat.reduceAdd, Nat.reduceLeDiff, Nat.zero_le, Int.toNat_natCast, natLit, k0, k1, l1, hc2, ew]
        refine ⟨fun _ => ⟨by omega, ?_⟩, fun h => by omega⟩
        refine hq _ (insN f k w) (n + 1) ?_ (by omega) ?_ ⟨Srt_ins hs hpn h1 h2, by omega, fun x => Mm_ins hpn⟩ ?_
        · rw [up2_at, if_pos rfl, if_pos rfl]
        · intro i hi
          rw [up2_ne (by omega), up2_self]
          unfold insN
          by_cases e : i = k
          · subst e
            rw [upf_s, if_neg (by omega), if_pos rfl]
          · rw [upf_n e]
            by_cases e2 : i < k
            · rw [if_pos e2]
              exact g4 i e2
            · rw [if_neg e2, if_neg e]
              exact g5 i (by omega) (by omega)
        · intro j i q1 q2
          rw [up2_at]
          by_cases e : j = o
          · subst e
            rw [if_pos rfl, if_neg (fun z => q1 ⟨rfl, z⟩), up2_ne (by omega), g6 j (by omega)]
          · rw [if_neg e, up2_ne q2, g6 j q2]
      | succ m ih =>
        intro k st' g1 g2 g3 g4 g5 g6
        have ek : wr ((k : Int) - 1) = ((k - 1 : Nat) : Int) := by rw [wr_id (by omega) (by omega)]; omega
        have ek2 : wr ((k : Int) + -1) = ((k - 1 : Nat) : Int) := by rw [wr_id (by omega) (by omega)]; omega
        rw [awu 254 5]
        try simp only [awu 254 6, pe254, xs, i_load, i_loadR, i_inc, lg, lp, true_and, and_true, List.length_cons, List.length_nil, Nat.reduceAdd, Nat.reduceLeDiff, Nat.zero_le, Int.toNat_natCast, natLit, k0, k1, l1, ek, ek2]
        clear ek ek2
        refine ⟨fun h => by omega, fun _ => ⟨by omega, by omega, ?_⟩⟩
        refine ih (k - 1) _ (by omega) (by omega) (by omega) ?_ ?_ ?_
        · intro i hi
          rw [up2_self, upf_n (by omega)]
          exact g4 i (by omega)
        · intro i q1 q2
          rw [up2_self]
          by_cases e : i = k
          · subst e
            rw [upf_s]
            exact g4 _ (by omega)
          · rw [upf_n e]
            exact g5 i (by omega) q2
        · intro j hj
          rw [up2_ne hj]
          exact g6 j hj
    try simp only [awu 254 0, awu 254 1, awu 254 2, awu 254 3, awu 254 4, pe254, xs, i_load, i_loadR, i_inc, lg, lp, true_and, and_true, List.length_cons, List.length_nil, Nat.reduceAdd, Nat.reduceLeDiff, Nat.zero_le, Int.toNat_natCast, natLit, k0, k1, l1, hc]
    have kk := key (n - p) n st hpn (Nat.le_refl _) rfl hf (fun i a b => by omega) (fun _ _ => rfl)
    refine ⟨fun h => by omega, fun _ => ⟨fun _ => kk, fun _ => ⟨by omega, fun _ => kk, fun h => ?_⟩⟩⟩
    rw [hf p (by omega)] at h
    exact absurd ⟨p, by omega, by omega⟩ hin
