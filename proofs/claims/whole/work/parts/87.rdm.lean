/-! texts are read: the reference -/
def INm (st : St) (b : Nat → Int) (c : Nat) : Prop := st 99 43 = (c : Nat) ∧ c ≤ 800 ∧ (∀ i, i < c → st 100 i = w8 (b i) ∧ 0 ≤ b i ∧ b i ≤ 255)
def FrTm (st st' : St) : Prop := ∀ q i, ¬ (q = 99 ∧ (i = 41 ∨ i = 42 ∨ i = 46)) → ¬ (q = 119 ∧ i = 4) → ¬ (q = 120 ∧ 800 ≤ i) → ¬ (q = 121 ∧ 3200 ≤ i) → q ≠ 129 → q ≠ 130 → st' q i = st q i
theorem FrTm_r {st : St} : FrTm st st := fun _ _ _ _ _ _ _ _ => rfl
theorem FrTm_t {s1 s2 s3 : St} (h1 : FrTm s1 s2) (h2 : FrTm s2 s3) : FrTm s1 s3 := fun q i a b c d e f => by rw [h2 q i a b c d e f, h1 q i a b c d e f]
theorem INm_fr {st st' : St} {b : Nat → Int} {c : Nat} (h : INm st b c) (e : FrTm st st') : INm st' b c := by
  refine ⟨by rw [e 99 43 (by omega) (by omega) (by omega) (by omega) (by omega) (by omega)]; exact h.1, h.2.1, fun i hi => ?_⟩
  rw [e 100 i (by omega) (by omega) (by omega) (by omega) (by omega) (by omega)]
  exact h.2.2 i hi
theorem w8_255 {x : Int} (h1 : 0 ≤ x) (h2 : x ≤ 255) : band (w8 x) 255 = x := by
  by_cases z : x ≤ 127
  · rw [w8_small h1 z, band255i x ⟨by omega, by omega⟩]
    omega
  · rw [w8_big (by omega) h2, band255i _ ⟨by omega, by omega⟩]
    omega
theorem sp_here {d c p : Nat} {st : St} {b : Nat → Int} {Q : Rn} (hI : INm st b c) (hp : st 99 41 = (p : Nat)) (hq : Q (vi (bA b c p)) st) : MS (d + 1) 117 [vr 99] st Q := by
  have k0 : kl 99 = 12 := rfl
  have k1 : kl 100 = 51 := rfl
  have l1 : len 100 = 800 := rfl
  have e43 := hI.1
  have hc := hI.2.1
  refine MS_v [vr 99] rfl rfl rfl rfl ?_
  unfold bA at hq
  by_cases z : p < c
  · rw [if_pos z] at hq
    obtain ⟨e, b1, b2⟩ := hI.2.2 p z
    have w := w8_255 b1 b2
    try simp only [awu 117 0, awu 117 1, awu 117 3, pe117, xs, i_load, i_loadR, i_inc, lg, lp, true_and, and_true, List.length_cons, List.length_nil, Nat.reduceAdd, Nat.reduceLeDiff, Nat.zero_le, Int.toNat_natCast, natLit, k0, hp, e43, k1, l1, e, w]
    exact ⟨fun h => by omega, fun _ => ⟨by omega, hq⟩⟩
  · rw [if_neg z] at hq
    try simp only [awu 117 0, awu 117 2, awu 117 3, pe117, xs, i_load, i_loadR, i_inc, lg, lp, true_and, and_true, List.length_cons, List.length_nil, Nat.reduceAdd, Nat.reduceLeDiff, Nat.zero_le, Int.toNat_natCast, natLit, k0, hp, e43]
    exact ⟨fun _ => hq, fun h => absurd (by omega) h⟩
theorem sp_isFig {d : Nat} {x : Int} {st : St} {Q : Rn} (hq : Q (vi (if dgt x = -1 then 0 else 1)) st) : MS (d + 1) 118 [vi x] st Q := by
  refine MS_s [vi x] rfl rfl rfl rfl ?_
  unfold dgt at hq
  try simp only [awu 118 0, awu 118 1, awu 118 2, awu 118 3, awu 118 4, pe118, xs, i_load, i_loadR, i_inc, lg, lp, true_and, and_true, List.length_cons, List.length_nil, Nat.reduceAdd, Nat.reduceLeDiff, Nat.zero_le, Int.toNat_natCast, natLit, ok01_0, ok01_1]
  refine ⟨fun h => ?_, fun h => ⟨fun h2 => ?_, fun h2 => ?_⟩⟩
  · rw [if_neg (show ¬ (48 ≤ x ∧ x ≤ 57) by omega), if_pos rfl] at hq
    exact hq
  · rw [if_neg (show ¬ (48 ≤ x ∧ x ≤ 57) by omega), if_pos rfl] at hq
    exact hq
  · rw [if_pos (show 48 ≤ x ∧ x ≤ 57 by omega), if_neg (by omega)] at hq
    exact hq
theorem sp_fails {d : Nat} {x : Int} {st : St} {Q : Rn} (hq : Q (vi 0) (up2 st 99 42 x)) : MS (d + 1) 119 [vr 99, vi x] st Q := by
  have k0 : kl 99 = 12 := rfl
  refine MS_v [vr 99, vi x] rfl rfl rfl rfl ?_
  try simp only [awu 119 0, pe119, xs, i_load, i_loadR, i_inc, lg, lp, true_and, and_true, List.length_cons, List.length_nil, Nat.reduceAdd, Nat.reduceLeDiff, Nat.zero_le, Int.toNat_natCast, natLit, k0, ok01_0]
  exact hq
theorem sp_sign' {d : Nat} {x : Int} {st : St} {Q : Rn} (hq : Q (vi (mkO x)) st) : MS (d + 1) 120 [vi x] st Q := by
  refine MS_s [vi x] rfl rfl rfl rfl ?_
  unfold mkO at hq
  try simp only [awu 120 0, awu 120 1, awu 120 2, awu 120 3, awu 120 4, awu 120 5, awu 120 6, awu 120 7, pe120, xs, i_load, i_loadR, i_inc, lg, lp, true_and, and_true, List.length_cons, List.length_nil, Nat.reduceAdd, Nat.reduceLeDiff, Nat.zero_le, Int.toNat_natCast, natLit]
  refine ⟨fun h => ⟨fun h2 => ⟨fun h3 => ?_, fun h3 => ?_⟩, fun h2 => ?_⟩, fun h => ?_⟩
  · rw [if_neg h, if_neg h2, if_neg h3] at hq
    exact hq
  · rw [if_neg h, if_neg h2, if_pos (Classical.not_not.mp h3)] at hq
    exact hq
  · rw [if_neg h, if_pos (Classical.not_not.mp h2)] at hq
    exact hq
  · rw [if_pos (Classical.not_not.mp h)] at hq
    exact hq
def asn (ar : Nat → Int) (w : Nat) : Bool := !(ar w == -1)
theorem asn_d {ar : Nat → Int} {w : Nat} : asn ar w = true ↔ ar w ≠ -1 := by
  unfold asn
  simp
def TLs (st : St) (ar : Nat → Int) (dg : Nat → Nat) (W : Nat) : Prop := st 99 46 = (cn (asn ar) W : Nat) ∧ ∀ w, w < W → asn ar w = true → st 129 (cn (asn ar) w) = ar w ∧ st 130 (cn (asn ar) w) = (dg w : Nat)
theorem TLs_up {st : St} {ar : Nat → Int} {dg : Nat → Nat} {W W' : Nat} (h : TLs st ar dg W) (hW : W ≤ W') (hn : ∀ w, W ≤ w → w < W' → ar w = -1) : TLs st ar dg W' := by
  have hc : cn (asn ar) W' = cn (asn ar) W := by
    have := cn_eq (p := asn ar) (g := fun k => k) (α := Nat)
    have key : ∀ m, W + m ≤ W' → cn (asn ar) (W + m) = cn (asn ar) W := by
      intro m
      induction m with
      | zero => intro _; rfl
      | succ m ih =>
        intro hm
        rw [show W + (m + 1) = (W + m) + 1 by omega, cn_s, ih (by omega), if_neg (by rw [asn_d]; exact fun hh => hh (hn _ (by omega) (by omega)))]
        rfl
    have := key (W' - W) (by omega)
    rw [show W + (W' - W) = W' by omega] at this
    exact this
  refine ⟨by rw [hc]; exact h.1, fun w hw ha => ?_⟩
  rcases Nat.lt_or_ge w W with z | z
  · exact h.2 w z ha
  · exact absurd (hn w z hw) (asn_d.mp ha)
theorem TLs_congr {st st' : St} {ar ar' : Nat → Int} {dg dg' : Nat → Nat} {W : Nat} (h : TLs st ar dg W) (e : ∀ w, w < W → ar' w = ar w ∧ dg' w = dg w) (e46 : st' 99 46 = st 99 46) (e29 : ∀ i, i < cn (asn ar) W → st' 129 i = st 129 i ∧ st' 130 i = st 130 i) : TLs st' ar' dg' W := by
  have hc : ∀ w, w ≤ W → cn (asn ar') w = cn (asn ar) w := fun w hw => cn_congr (fun i hi => by unfold asn; rw [(e i (by omega)).1])
  refine ⟨by rw [e46, hc W (Nat.le_refl _)]; exact h.1, fun w hw ha => ?_⟩
  have ha' : asn ar w = true := by
    unfold asn at ha ⊢
    rw [(e w hw).1] at ha
    exact ha
  have hlt := cn_lt hw ha'
  rw [hc w (by omega), (e29 _ hlt).1, (e29 _ hlt).2, (e w hw).1, (e w hw).2]
  exact h.2 w hw ha'
def RDm (st : St) (n p W : Nat) (mk ar : Nat → Int) (dg : Nat → Nat) : Prop := st 99 41 = (p : Nat) ∧ (∀ s, s < n → st 120 (800 + s) = mk s) ∧ (∀ w, w < 4 * n → st 121 (3200 + w) = ar w) ∧ TLs st ar dg W
set_option maxHeartbeats 1000000 in
theorem sp_readArrow {d c p s l : Nat} {st : St} {b mk ar : Nat → Int} {dg : Nat → Nat} {Q : Rn} (hI : INm st b c) (hp : p < c) (hs : s < 40) (hl : l < 4) (hR : RDm st (s + 1) p (4 * s + l) mk ar dg)
    (h0 : ∀ st' : St, nuR b c (p + 1) = none → st' 99 42 = (p + 1 : Nat) → FrTm st st' → Q (vi 0) st')
    (h1 : ∀ (st' : St) (v q : Nat), nuR b c (p + 1) = some (v, q) → RDm st' (s + 1) q (4 * s + l + 1) mk (upf ar (4 * s + l) (v : Int)) (updN dg (4 * s + l) (p + 1)) → st' 99 42 = st 99 42 → FrTm st st' → Q (vi 1) st') : MS (d + 2) 121 [vr 99, vi s, vi l] st Q := by
  have k0 : kl 99 = 12 := rfl
  have k29 : kl 129 = 50 := rfl
  have l29 : len 129 = 160 := rfl
  have k30 : kl 130 = 50 := rfl
  have l30 : len 130 = 160 := rfl
  have hc := hI.2.1
  obtain ⟨r1, r2, r3, r4⟩ := id hR
  have w1 : Unit → wr ((p : Int) + 1) = ((p + 1 : Nat) : Int) := fun _ => by rw [wr_id (by omega) (by omega)]; omega
  have w2 : Unit → wr (((p + 1 : Nat) : Int) + 1) = ((p + 2 : Nat) : Int) := fun _ => by rw [wr_id (by omega) (by omega)]; omega
  have w3 : Unit → wr (((p + 2 : Nat) : Int) + 1) = ((p + 3 : Nat) : Int) := fun _ => by rw [wr_id (by omega) (by omega)]; omega
  have eU : nuR b c (p + 1) = if dgt (bA b c (p + 1)) = -1 then none else if dgt (bA b c (p + 1)) = 0 then some (0, p + 1 + 1) else if dgt (bA b c (p + 1 + 1)) = -1 then some ((dgt (bA b c (p + 1))).toNat, p + 1 + 1) else some (10 * (dgt (bA b c (p + 1))).toNat + (dgt (bA b c (p + 1 + 1))).toNat, p + 1 + 2) := rfl
  have d1 := dgt_b (bA b c (p + 1))
  have d2 := dgt_b (bA b c (p + 1 + 1))
  have setP : ∀ (s1 : St) (v : Int), (∀ q i, ¬ (q = 99 ∧ i = 41) → s1 q i = st q i) → FrTm st (up2 s1 99 41 v) ∧ (∀ q i, ¬ (q = 99 ∧ i = 41) → up2 s1 99 41 v q i = st q i) ∧ up2 s1 99 41 v 99 41 = v := fun s1 v h => by
    have hh : ∀ q i, ¬ (q = 99 ∧ i = 41) → up2 s1 99 41 v q i = st q i := fun q i hqi => by
      rw [up2_at]
      by_cases z : q = 99
      · subst z
        rw [if_pos rfl, if_neg (by omega)]
        exact h 99 i hqi
      · rw [if_neg z]
        exact h q i hqi
    exact ⟨fun q i a _ _ _ _ _ => hh q i (by omega), hh, by rw [up2_self, upf_s]⟩
  obtain ⟨fA, oA, eA⟩ := setP st ((p + 1 : Nat) : Int) (fun _ _ _ => rfl)
  generalize hsA : up2 st 99 41 ((p + 1 : Nat) : Int) = sA at fA oA eA
  refine MS_v [vr 99, vi s, vi l, none, none] rfl rfl rfl rfl ?_
  try simp only [awu 121 0, pe121, xs, i_load, i_loadR, i_inc, lg, lp, true_and, and_true, List.length_cons, List.length_nil, Nat.reduceAdd, Nat.reduceLeDiff, Nat.zero_le, Int.toNat_natCast, natLit, k0, r1, w1 ()]
  rw [hsA]
  simp only [eA]
  refine sp_here (INm_fr hI fA) eA ?_
  dsimp only
  try simp only [awu 121 0, pe121, xs, i_load, i_loadR, i_inc, lg, lp, true_and, and_true, List.length_cons, List.length_nil, Nat.reduceAdd, Nat.reduceLeDiff, Nat.zero_le, Int.toNat_natCast, natLit, k0]
  refine sp_isFig ?_
  dsimp only
  by_cases z : dgt (bA b c (p + 1)) = -1
  · rw [if_pos z] at eU ⊢
    try simp only [awu 121 0, awu 121 1, pe121, xs, i_load, i_loadR, i_inc, lg, lp, true_and, and_true, List.length_cons, List.length_nil, Nat.reduceAdd, Nat.reduceLeDiff, Nat.zero_le, Int.toNat_natCast, natLit, k0, eA]
    refine ⟨fun h => absurd (by trivial) h, fun _ => ?_⟩
    refine sp_fails ?_
    dsimp only
    try simp only [awu 121 1, pe121, xs, i_load, i_loadR, i_inc, lg, lp, true_and, and_true, List.length_cons, List.length_nil, Nat.reduceAdd, Nat.reduceLeDiff, Nat.zero_le, Int.toNat_natCast, natLit, k0, ok01_0]
    refine h0 _ eU (by rw [up2_self, upf_s]) (fun q i a b' c' d' e f => ?_)
    rw [up2_at]
    by_cases zq : q = 99
    · subst zq
      rw [if_pos rfl, if_neg (by omega)]
      exact fA 99 i a b' c' d' e f
    · rw [if_neg zq]
      exact fA q i a b' c' d' e f
  · rw [if_neg z] at eU ⊢
    have hx : bA b c (p + 1) - 48 = dgt (bA b c (p + 1)) ∧ bA b c (p + 1) ≤ 57 := by
      unfold dgt at z ⊢
      by_cases zz : 48 ≤ bA b c (p + 1) ∧ bA b c (p + 1) ≤ 57
      · rw [if_pos zz]
        exact ⟨rfl, zz.2⟩
      · rw [if_neg zz] at z
        exact absurd rfl z
    have w48 : Unit → wr (bA b c (p + 1) - 48) = dgt (bA b c (p + 1)) := fun _ => by rw [wr_id (by omega) (by omega)]; exact hx.1
    -- the end: it is noted
    have fin : ∀ (s2 : St) (v q : Nat), nuR b c (p + 1) = some (v, q) → s2 99 41 = (q : Nat) → (∀ q i, ¬ (q = 99 ∧ i = 41) → s2 q i = st q i) → AW (P 121) Q (MS (d + 1)) 0 (fun _ => 0) 5 [vr 99, vi s, vi l, vi (p + 1 : Nat), vi v] [] s2 := by
      intro s2 v q e x1 x2
      have e46 : s2 99 46 = (cn (asn ar) (4 * s + l) : Nat) := by rw [x2 99 46 (by omega)]; exact r4.1
      have hle := cn_le (p := asn ar) (4 * s + l)
      have wt : Unit → wr (((cn (asn ar) (4 * s + l) : Nat) : Int) + 1) = ((cn (asn ar) (4 * s + l) + 1 : Nat) : Int) := fun _ => by rw [wr_id (by omega) (by omega)]; omega
      rw [awu 121 5]
      try simp only [awu 121 5, pe121, xs, i_load, i_loadR, i_inc, lg, lp, true_and, and_true, List.length_cons, List.length_nil, Nat.reduceAdd, Nat.reduceLeDiff, Nat.zero_le, Int.toNat_natCast, natLit, k0]
      refine sp_putArrow (m := 4) (by decide) (show s < 200 by omega) hl ?_
      dsimp only
      generalize hs3 : up2 s2 121 (800 * 4 + (4 * s + l)) (v : Int) = s3
      have e46' : s3 99 46 = (cn (asn ar) (4 * s + l) : Nat) := by rw [← hs3, up2_ne (by decide)]; exact e46
      have e46a : ∀ i v, up2 s3 129 i v 99 46 = (cn (asn ar) (4 * s + l) : Nat) := fun i v => by rw [up2_ne (by decide)]; exact e46'
      have e46b : ∀ i v j w, up2 (up2 s3 129 i v) 130 j w 99 46 = (cn (asn ar) (4 * s + l) : Nat) := fun i v j w => by rw [up2_ne (by decide)]; exact e46a i v
      try simp only [awu 121 5, pe121, xs, i_load, i_loadR, i_inc, lg, lp, true_and, and_true, List.length_cons, List.length_nil, Nat.reduceAdd, Nat.reduceLeDiff, Nat.zero_le, Int.toNat_natCast, natLit, k0, k29, l29, k30, l30, e46', e46a, e46b, wt (), ok01_1]
      refine ⟨by omega, by omega, ?_⟩
      have arW : upf ar (4 * s + l) (v : Int) (4 * s + l) = v := upf_s
      have hcn : ∀ w, w ≤ 4 * s + l → cn (asn (upf ar (4 * s + l) (v : Int))) w = cn (asn ar) w := fun w hw => cn_congr (fun i hi => by unfold asn; rw [upf_n (by omega)])
      have hcs : cn (asn (upf ar (4 * s + l) (v : Int))) (4 * s + l + 1) = cn (asn ar) (4 * s + l) + 1 := by
        rw [cn_s, hcn _ (Nat.le_refl _), if_pos (by rw [asn_d, arW]; omega)]
      refine h1 _ v q e ⟨?_, fun t ht => ?_, fun w hw => ?_, ?_, fun w hw ha => ?_⟩ ?_ (fun y i a b' c' d' e' f => ?_)
      · rw [up2_self, upf_n (by decide), up2_ne (by decide), up2_ne (by decide), ← hs3, up2_ne (by decide)]
        exact x1
      · rw [up2_ne (by decide), up2_ne (by decide), up2_ne (by decide), ← hs3, up2_ne (by decide), x2 120 _ (by omega)]
        exact r2 t ht
      · rw [up2_ne (by decide), up2_ne (by decide), up2_ne (by decide), ← hs3, up2_self]
        by_cases zw : w = 4 * s + l
        · rw [zw, show 3200 + (4 * s + l) = 800 * 4 + (4 * s + l) from rfl, upf_s, upf_s]
        · rw [upf_n (by omega), upf_n zw, x2 121 _ (by omega)]
          exact r3 w hw
      · rw [up2_self, upf_s, hcs]
      · rw [up2_ne (by decide), up2_ne (by decide), up2_self, up2_ne (by decide), up2_self]
        by_cases zw : w = 4 * s + l
        · rw [zw, hcn _ (Nat.le_refl _), upf_s, upf_s, upf_s, updN_at, if_pos rfl]
          exact ⟨rfl, rfl⟩
        · have ha' : asn ar w = true := by
            rw [asn_d, upf_n zw] at ha
            exact asn_d.mpr ha
          have hlt := cn_lt (show w < 4 * s + l by omega) ha'
          rw [hcn w (by omega), upf_n (by omega), upf_n (by omega), upf_n (by omega), updN_at, if_neg zw, ← hs3, up2_ne (by decide), up2_ne (by decide), up2_ne (by decide), x2 129 _ (by omega), x2 130 _ (by omega)]
          exact r4.2 w (by omega) ha'
      · rw [up2_self, upf_n (by decide), up2_ne (by decide), up2_ne (by decide), ← hs3, up2_ne (by decide), x2 99 42 (by omega)]
      · have g : ∀ (s0 : St) (z : Int), up2 s0 99 46 z y i = s0 y i := fun s0 z => by
          rw [up2_at]
          by_cases zy : y = 99
          · subst zy
            rw [if_pos rfl, if_neg (by omega)]
          · rw [if_neg zy]
        rw [g, up2_ne f, up2_ne e', ← hs3, up2_at]
        by_cases zy : y = 121
        · subst zy
          rw [if_pos rfl, if_neg (by omega)]
          exact x2 121 i (by omega)
        · rw [if_neg zy]
          exact x2 y i (by omega)
    obtain ⟨fB, oB, eB⟩ := setP sA ((p + 2 : Nat) : Int) oA
    generalize hsB : up2 sA 99 41 ((p + 2 : Nat) : Int) = sB at fB oB eB
    try simp only [awu 121 0, awu 121 2, pe121, xs, i_load, i_loadR, i_inc, lg, lp, true_and, and_true, List.length_cons, List.length_nil, Nat.reduceAdd, Nat.reduceLeDiff, Nat.zero_le, Int.toNat_natCast, natLit, k0]
    refine ⟨fun _ => ?_, fun h => absurd (by decide) h⟩
    refine sp_here (INm_fr hI fA) eA ?_
    dsimp only
    try simp only [awu 121 2, pe121, xs, i_load, i_loadR, i_inc, lg, lp, true_and, and_true, List.length_cons, List.length_nil, Nat.reduceAdd, Nat.reduceLeDiff, Nat.zero_le, Int.toNat_natCast, natLit, k0, w48 (), eA, w2 ()]
    rw [hsB]
    by_cases z0 : dgt (bA b c (p + 1)) = 0
    · rw [if_pos z0] at eU
      rw [z0]
      exact ⟨fun _ => fin sB 0 (p + 2) eU eB oB, fun h => absurd (by trivial) h⟩
    · rw [if_neg z0] at eU
      try simp only [awu 121 3, pe121, xs, i_load, i_loadR, i_inc, lg, lp, true_and, and_true, List.length_cons, List.length_nil, Nat.reduceAdd, Nat.reduceLeDiff, Nat.zero_le, Int.toNat_natCast, natLit, k0]
      refine ⟨fun h => by omega, fun _ => ?_⟩
      refine sp_here (INm_fr hI fB) eB ?_
      dsimp only
      try simp only [awu 121 3, pe121, xs, i_load, i_loadR, i_inc, lg, lp, true_and, and_true, List.length_cons, List.length_nil, Nat.reduceAdd, Nat.reduceLeDiff, Nat.zero_le, Int.toNat_natCast, natLit, k0]
      refine sp_isFig ?_
      dsimp only
      by_cases z2 : dgt (bA b c (p + 2)) = -1
      · rw [if_pos z2]
        rw [if_pos z2] at eU
        have := fin sB _ _ eU eB oB
        rw [show (((dgt (bA b c (p + 1))).toNat : Nat) : Int) = dgt (bA b c (p + 1)) by omega] at this
        try simp only [awu 121 3, pe121, xs, i_load, i_loadR, i_inc, lg, lp, true_and, and_true, List.length_cons, List.length_nil, Nat.reduceAdd, Nat.reduceLeDiff, Nat.zero_le, Int.toNat_natCast, natLit, k0]
        exact ⟨fun _ => this, fun h => absurd (by trivial) h⟩
      · rw [if_neg z2]
        rw [if_neg z2] at eU
        have hx2 : bA b c (p + 2) - 48 = dgt (bA b c (p + 2)) ∧ bA b c (p + 2) ≤ 57 ∧ 48 ≤ bA b c (p + 2) := by
          unfold dgt at z2 ⊢
          by_cases zz : 48 ≤ bA b c (p + 2) ∧ bA b c (p + 2) ≤ 57
          · rw [if_pos zz]
            exact ⟨rfl, zz.2, zz.1⟩
          · rw [if_neg zz] at z2
            exact absurd rfl z2
        have w10 : Unit → wr (10 * dgt (bA b c (p + 1))) = 10 * dgt (bA b c (p + 1)) := fun _ => by rw [wr_id (by omega) (by omega)]
        have w11 : Unit → wr (10 * dgt (bA b c (p + 1)) + bA b c (p + 2)) = 10 * dgt (bA b c (p + 1)) + bA b c (p + 2) := fun _ => by rw [wr_id (by omega) (by omega)]
        have w12 : Unit → wr (10 * dgt (bA b c (p + 1)) + bA b c (p + 2) - 48) = ((10 * (dgt (bA b c (p + 1))).toNat + (dgt (bA b c (p + 2))).toNat : Nat) : Int) := fun _ => by rw [wr_id (by omega) (by omega)]; omega
        try simp only [awu 121 3, awu 121 4, pe121, xs, i_load, i_loadR, i_inc, lg, lp, true_and, and_true, List.length_cons, List.length_nil, Nat.reduceAdd, Nat.reduceLeDiff, Nat.zero_le, Int.toNat_natCast, natLit, k0, w10 ()]
        refine ⟨fun h => absurd h (by decide), fun _ => ?_⟩
        refine sp_here (INm_fr hI fB) eB ?_
        dsimp only
        try simp only [awu 121 4, pe121, xs, i_load, i_loadR, i_inc, lg, lp, true_and, and_true, List.length_cons, List.length_nil, Nat.reduceAdd, Nat.reduceLeDiff, Nat.zero_le, Int.toNat_natCast, natLit, k0, w11 (), w12 (), eB, w3 ()]
        obtain ⟨fC, oC, eC⟩ := setP sB ((p + 3 : Nat) : Int) oB
        exact fin _ _ (p + 3) eU eC oC
theorem rdL_skip {b : Nat → Int} {c s : Nat} {ar : Nat → Int} {dg : Nat → Nat} {p l' : Nat} (h : bA b c p = 97 + (l' : Int)) : ∀ (k m l : Nat), l + k = l' → rdL b c s (m + k) l p ar dg = rdL b c s m l' p ar dg
  | 0, m, l, e => by
    have : l = l' := by omega
    rw [this]
    rfl
  | k + 1, m, l, e => by
    rw [show m + (k + 1) = (m + k) + 1 by omega, rdL_s, if_neg (by rw [h]; omega)]
    exact rdL_skip h k m (l + 1) (by omega)
theorem rdL_end {b : Nat → Int} {c s a : Nat} {ar : Nat → Int} {dg : Nat → Nat} {p : Nat} : ∀ (m l : Nat), l + m = a → (∀ j : Nat, l ≤ j → j < a → bA b c p ≠ 97 + (j : Int)) → rdL b c s m l p ar dg = .inr (p, ar, dg)
  | 0, _, _, _ => rfl
  | m + 1, l, e, h => by
    rw [rdL_s, if_neg (h l (Nat.le_refl _) (by omega))]
    exact rdL_end m (l + 1) (by omega) (fun j h1 h2 => h j (by omega) h2)
