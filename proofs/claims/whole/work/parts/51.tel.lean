/-! states told as a machine -/
def vl (F : FS) (n k l : Nat) : Int := if fl F n (k : Int) l = -1 then -1 else (cR F (fl F n (k : Int) l).toNat : Int)
def TL (F : FS) (n : Nat) (M : MC) : Prop := M.1 = cR F n ∧ ∀ k, k < n → F.1 k = k → M.2.1 (cR F k) = F.2.1 k ∧ ∀ l, l < 4 → M.2.2 (4 * cR F k + l) = vl F n k l
theorem cR_s {F : FS} {k : Nat} : cR F (k + 1) = cR F k + (if F.1 k = k then 1 else 0) := by
  unfold cR
  rw [cn_s]
  by_cases h : F.1 k = k
  · rw [if_pos (beq_iff_eq.mpr h), if_pos h]
  · rw [if_neg (by simpa using h), if_neg h]
theorem cR_lt {F : FS} {k n : Nat} (hk : k < n) (h : F.1 k = k) : cR F k < cR F n := cn_lt hk (beq_iff_eq.mpr h)
theorem cR_inj {F : FS} {i j : Nat} (hi : F.1 i = i) (hj : F.1 j = j) (h : cR F i = cR F j) : i = j := cn_inj (p := fun k => F.1 k == k) (beq_iff_eq.mpr hi) (beq_iff_eq.mpr hj) h
theorem cR_ix {F : FS} {n t : Nat} (h : t < cR F n) : ∃ k, k < n ∧ F.1 k = k ∧ cR F k = t := by
  obtain ⟨k, h1, h2, h3⟩ := cn_ix h
  exact ⟨k, h1, beq_iff_eq.mp h2, h3⟩
theorem TL_u {F : FS} {n : Nat} {M M' : MC} (h : TL F n M) (h' : TL F n M') : M.1 = M'.1 ∧ (∀ s, s < M.1 → M.2.1 s = M'.2.1 s) ∧ ∀ i, i < 4 * M.1 → M.2.2 i = M'.2.2 i := by
  refine ⟨by rw [h.1, h'.1], fun s hs => ?_, fun i hi => ?_⟩
  · rw [h.1] at hs
    obtain ⟨k, h1, h2, h3⟩ := cR_ix hs
    rw [← h3, (h.2 k h1 h2).1, (h'.2 k h1 h2).1]
  · rw [h.1] at hi
    obtain ⟨k, h1, h2, h3⟩ := cR_ix (show i / 4 < cR F n by omega)
    have e : i = 4 * cR F k + i % 4 := by omega
    rw [e, (h.2 k h1 h2).2 _ (by omega), (h'.2 k h1 h2).2 _ (by omega)]
theorem TL_W {F : FS} {n q : Nat} {M : MC} (hF : FI n F) (hL : LA n q F) (h : TL F n M) : MW q M := by
  refine ⟨fun s hs => ?_, fun i hi => ?_, fun s l hs h1 h2 => ?_⟩
  · rw [h.1] at hs
    obtain ⟨k, h1, h2, h3⟩ := cR_ix hs
    rw [← h3, (h.2 k h1 h2).1]
    exact hF.2.1 k h1
  · rw [h.1] at hi ⊢
    obtain ⟨k, h1, h2, h3⟩ := cR_ix (show i / 4 < cR F n by omega)
    have e : i = 4 * cR F k + i % 4 := by omega
    rw [e, (h.2 k h1 h2).2 _ (by omega)]
    unfold vl
    rcases fl_b (k := (k : Int)) hF (show i % 4 < 4 by omega) with e1 | ⟨j, e1, e2, e3⟩
    · rw [e1, if_pos rfl]
      omega
    · rw [e2, if_neg (by omega), Int.toNat_natCast]
      have := cR_lt e1 e3
      omega
  · rw [h.1] at hs
    obtain ⟨k, h3, h4, h5⟩ := cR_ix hs
    rw [← h5, (h.2 k h3 h4).2 l h2]
    unfold vl
    rw [fl_q hL h3 h1 h2, if_pos rfl]
theorem sp_ftell {d o p n : Nat} {st : St} {F : FS} {Q : Rn} (ho : isFd o) (hp : isMc p 120) (hop : o + 9 < p) (hn : n ≤ 120) (hC : CR st o n F) (hF : FI n F)
    (hq : ∀ (M : MC) (st' : St), TL F n M → MCc st' p 120 M → (∀ q, q ≠ o + 9 → q ≠ p → q ≠ p + 1 → q ≠ p + 2 → st' q = st q) → Q none st') : MS (d + 3) 172 [vr o, vr p] st Q := by
  obtain ⟨k0, ⟨k1, l1⟩, ⟨k2, l2⟩, -, -, -, -, -, -, ⟨k9, l9⟩⟩ := id ho
  have p0 := hp.1
  have hcn : cR F n ≤ n := cn_le n
  have fr : ∀ s2 : St, (∀ q, q ≠ o + 9 → q ≠ p → q ≠ p + 1 → q ≠ p + 2 → s2 q = st q) → CR s2 o n F ∧ s2 o 9 = n ∧ (∀ k, k < n → s2 (o + 1) k = (F.1 k : Nat) ∧ s2 (o + 2) k = F.2.1 k) := fun s2 h => by
    have := CR_congr hC (fun q h1 h2 => h q (by omega) (by omega) (by omega) (by omega))
    exact ⟨this, this.1, fun k hk => ⟨(this.2.1 k hk).1, (this.2.1 k hk).2.1⟩⟩
  have key2 : ∀ m k : Nat, ∀ (s2 : St) (u3 u4 : V), k + m = n → (∀ q, q ≠ o + 9 → q ≠ p → q ≠ p + 1 → q ≠ p + 2 → s2 q = st q) → s2 p 2 = (cR F n : Nat) → (∀ j, j < n → F.1 j = j → s2 (p + 1) (cR F j) = F.2.1 j ∧ s2 (o + 9) j = (cR F j : Nat)) → (∀ j l, j < k → F.1 j = j → l < 4 → s2 (p + 2) (4 * cR F j + l) = vl F n j l) → AW (P 172) Q (MS (d + 2)) 0 (fun _ => 0) 6 [vr o, vr p, vi k, u3, u4] [] s2 := by
    intro m
    induction m with
    | zero =>
      intro k s2 u3 u4 g1 g2 g3 g4 g5
      have : k = n := by omega
      subst this
      obtain ⟨f1, f2, f3⟩ := fr s2 g2
      rw [awu 172 6]
      try simp only [awu 172 15, pe172, xs, i_load, i_loadR, i_inc, lg, lp, true_and, and_true, List.length_cons, List.length_nil, Nat.reduceAdd, Nat.reduceLeDiff, Nat.zero_le, Int.toNat_natCast, natLit, k0, f2]
      exact ⟨fun _ => hq (cR F k, s2 (p + 1), s2 (p + 2)) s2 ⟨rfl, fun j hj hu => ⟨(g4 j hj hu).1, fun l hl => g5 j l hj hu hl⟩⟩ ⟨g3, by dsimp only; omega, fun _ _ => rfl, fun _ _ => rfl⟩ g2, fun h => by omega⟩
    | succ m ih =>
      intro k s2 u3 u4 g1 g2 g3 g4 g5
      have hk : k < n := by omega
      obtain ⟨f1, f2, f3⟩ := fr s2 g2
      have w : Unit → wr ((k : Int) + 1) = ((k + 1 : Nat) : Int) := fun _ => by rw [wr_id (by omega) (by omega)]; omega
      rw [awu 172 6]
      try simp only [awu 172 7, pe172, xs, i_load, i_loadR, i_inc, lg, lp, true_and, and_true, List.length_cons, List.length_nil, Nat.reduceAdd, Nat.reduceLeDiff, Nat.zero_le, Int.toNat_natCast, natLit, k0, f2]
      refine ⟨fun h => by omega, fun _ => ?_⟩
      by_cases hu : F.1 k = k
      · have keyl : ∀ m l : Nat, ∀ (s3 : St) (u4 : V), l + m = 4 → (∀ q, q ≠ o + 9 → q ≠ p → q ≠ p + 1 → q ≠ p + 2 → s3 q = st q) → s3 p 2 = (cR F n : Nat) → (∀ j, j < n → F.1 j = j → s3 (p + 1) (cR F j) = F.2.1 j ∧ s3 (o + 9) j = (cR F j : Nat)) → (∀ j l, j < k → F.1 j = j → l < 4 → s3 (p + 2) (4 * cR F j + l) = vl F n j l) → (∀ i, i < l → s3 (p + 2) (4 * cR F k + i) = vl F n k i) → AW (P 172) Q (MS (d + 2)) 0 (fun _ => 0) 8 [vr o, vr p, vi k, vi l, u4] [] s3 := by
          intro m
          induction m with
          | zero =>
            intro l s3 u4 h1 h2 h3 h4 h5 h6
            have : l = 4 := by omega
            subst this
            rw [awu 172 8]
            try simp only [awu 172 14, pe172, xs, i_load, i_loadR, i_inc, lg, lp, true_and, and_true, List.length_cons, List.length_nil, Nat.reduceAdd, Nat.reduceLeDiff, Nat.zero_le, Int.toNat_natCast, natLit, k0, w ()]
            refine ⟨fun _ => ih (k + 1) s3 _ _ (by omega) h2 h3 h4 (fun j l a1 a2 a3 => ?_), fun h => absurd (by decide) h⟩
            rcases Nat.lt_or_ge j k with z | z
            · exact h5 j l z a2 a3
            · have : j = k := by omega
              subst this
              exact h6 l a3
          | succ m ihl =>
            intro l s3 u4 h1 h2 h3 h4 h5 h6
            have w2 : Unit → wr ((l : Int) + 1) = ((l + 1 : Nat) : Int) := fun _ => by rw [wr_id (by omega) (by omega)]; omega
            obtain ⟨f1, f2, f3⟩ := fr s3 h2
            have e1 := (f3 k hk).1
            rw [hu] at e1
            have e9 := (h4 k hk hu).2
            have hl4 : l < 4 := by omega
            have fin : ∀ (to v : Int), v = vl F n k l → AW (P 172) Q (MS (d + 2)) 0 (fun _ => 0) 13 [vr o, vr p, vi k, vi l, vi to] [vi v, vi l, vi (cR F k : Nat), vr p] s3 := by
              intro to v hv
              rw [awu 172 13]
              try simp only [awu 172 13, pe172, xs, i_load, i_loadR, i_inc, lg, lp, true_and, and_true, List.length_cons, List.length_nil, Nat.reduceAdd, Nat.reduceLeDiff, Nat.zero_le, Int.toNat_natCast, natLit, k0]
              refine sp_mclink hp h3 (by omega) (cR_lt hk hu) hl4 ?_
              dsimp only
              try simp only [awu 172 13, pe172, xs, i_load, i_loadR, i_inc, lg, lp, true_and, and_true, List.length_cons, List.length_nil, Nat.reduceAdd, Nat.reduceLeDiff, Nat.zero_le, Int.toNat_natCast, natLit, k0, w2 ()]
              refine ihl (l + 1) _ _ (by omega) (fun q a1 a2 a3 a4 => ?_) ?_ (fun j a1 a2 => ?_) (fun j i a1 a2 a3 => ?_) (fun i hi => ?_)
              · rw [up2_ne a4]
                exact h2 q a1 a2 a3 a4
              · rw [up2_ne (by omega)]
                exact h3
              · rw [up2_ne (by omega), up2_ne (by omega)]
                exact h4 j a1 a2
              · rw [up2_self, upf_n]
                · exact h5 j i a1 a2 a3
                · have : cR F j ≠ cR F k := fun e => by have := cR_inj a2 hu e; omega
                  omega
              · rw [up2_self]
                by_cases z : i = l
                · subst z
                  rw [upf_s]
                  exact hv
                · rw [upf_n (by omega)]
                  exact h6 i (by omega)
            rw [awu 172 8]
            try simp only [awu 172 9, awu 172 10, pe172, xs, i_load, i_loadR, i_inc, lg, lp, true_and, and_true, List.length_cons, List.length_nil, Nat.reduceAdd, Nat.reduceLeDiff, Nat.zero_le, Int.toNat_natCast, natLit, k0, k1, l1, e1]
            refine ⟨fun h => by omega, fun _ => ⟨by omega, fun h => absurd trivial h, fun _ => ?_⟩⟩
            refine sp_ffollow ho hn f1 hF hl4 ?_
            dsimp only
            try simp only [awu 172 10, pe172, xs, i_load, i_loadR, i_inc, lg, lp, true_and, and_true, List.length_cons, List.length_nil, Nat.reduceAdd, Nat.reduceLeDiff, Nat.zero_le, Int.toNat_natCast, natLit, k0, k9, l9, e9]
            refine ⟨by omega, ?_⟩
            refine sp_fname ho hn f1 ?_
            dsimp only
            rcases fl_b (k := (k : Int)) hF hl4 with e | ⟨j, e1, e2, e3⟩
            · rw [e, if_neg (by omega)]
              try simp only [awu 172 12, pe172, xs, i_load, i_loadR, i_inc, lg, lp, true_and, and_true, List.length_cons, List.length_nil, Nat.reduceAdd, Nat.reduceLeDiff, Nat.zero_le, Int.toNat_natCast, natLit, k0]
              exact ⟨fun _ => fin _ _ (by unfold vl; rw [e, if_pos rfl]), fun h => absurd trivial h⟩
            · rw [e2, if_pos ⟨by omega, by omega, by rw [Int.toNat_natCast]; exact e3⟩]
              have e9j := (h4 j e1 e3).2
              try simp only [awu 172 11, pe172, xs, i_load, i_loadR, i_inc, lg, lp, true_and, and_true, List.length_cons, List.length_nil, Nat.reduceAdd, Nat.reduceLeDiff, Nat.zero_le, Int.toNat_natCast, natLit, k0, k9, l9, e9j]
              exact ⟨fun h => absurd h (by decide), fun _ => ⟨by omega, fin _ _ (by unfold vl; rw [e2, if_neg (by omega), Int.toNat_natCast])⟩⟩
        exact keyl 4 0 s2 u4 rfl g2 g3 g4 g5 (fun i hi => by omega)
      · have e1 := (f3 k hk).1
        rw [awu 172 8]
        try simp only [awu 172 9, awu 172 14, pe172, xs, i_load, i_loadR, i_inc, lg, lp, true_and, and_true, List.length_cons, List.length_nil, Nat.reduceAdd, Nat.reduceLeDiff, Nat.zero_le, Int.toNat_natCast, natLit, k0, k1, l1, e1, w ()]
        refine ⟨fun h => by omega, fun _ => ⟨by omega, fun _ => ?_, fun h => by omega⟩⟩
        refine ih (k + 1) s2 _ _ (by omega) g2 g3 g4 (fun j l a1 a2 a3 => ?_)
        rcases Nat.lt_or_ge j k with z | z
        · exact g5 j l z a2 a3
        · have : j = k := by omega
          subst this
          exact absurd a2 hu
  have key1 : ∀ m k : Nat, ∀ (s2 : St), k + m = n → (∀ q, q ≠ o + 9 → q ≠ p → q ≠ p + 1 → q ≠ p + 2 → s2 q = st q) → s2 p 2 = (cR F k : Nat) → (∀ j, j < k → F.1 j = j → s2 (p + 1) (cR F j) = F.2.1 j ∧ s2 (o + 9) j = (cR F j : Nat)) → AW (P 172) Q (MS (d + 2)) 0 (fun _ => 0) 1 [vr o, vr p, vi k, none, none] [] s2 := by
    intro m
    induction m with
    | zero =>
      intro k s2 g1 g2 g3 g4
      have : k = n := by omega
      subst this
      obtain ⟨f1, f2, f3⟩ := fr s2 g2
      rw [awu 172 1]
      try simp only [awu 172 5, pe172, xs, i_load, i_loadR, i_inc, lg, lp, true_and, and_true, List.length_cons, List.length_nil, Nat.reduceAdd, Nat.reduceLeDiff, Nat.zero_le, Int.toNat_natCast, natLit, k0, f2]
      exact ⟨fun _ => key2 k 0 s2 none none (by omega) g2 g3 g4 (fun j l h => by omega), fun h => by omega⟩
    | succ m ih =>
      intro k s2 g1 g2 g3 g4
      have hk : k < n := by omega
      obtain ⟨f1, f2, f3⟩ := fr s2 g2
      obtain ⟨e1, e2⟩ := f3 k hk
      have w : Unit → wr ((k : Int) + 1) = ((k + 1 : Nat) : Int) := fun _ => by rw [wr_id (by omega) (by omega)]; omega
      have hck : cR F k ≤ k := cn_le k
      have ih := fun s2 => ih (k + 1) s2 (by omega)
      rw [cR_s] at ih
      have e2' : up2 s2 (o + 9) k (cR F k : Nat) (o + 2) k = F.2.1 k := by rw [up2_ne (by omega)]; exact e2
      rw [awu 172 1]
      try simp only [awu 172 2, awu 172 3, awu 172 4, pe172, xs, i_load, i_loadR, i_inc, lg, lp, true_and, and_true, List.length_cons, List.length_nil, Nat.reduceAdd, Nat.reduceLeDiff, Nat.zero_le, Int.toNat_natCast, natLit, k0, f2, k1, l1, e1, k2, l2, k9, l9, p0, g3, e2', w ()]
      refine ⟨fun h => by omega, fun _ => ⟨by omega, fun h => ?_, fun h => ⟨by omega, by omega, ?_⟩⟩⟩
      · have hu : ¬ F.1 k = k := by omega
        rw [if_neg hu] at ih
        refine ih s2 g2 g3 (fun j a1 a2 => ?_)
        rcases Nat.lt_or_ge j k with z | z
        · exact g4 j z a2
        · have : j = k := by omega
          subst this
          exact absurd a2 hu
      · have hu : F.1 k = k := by omega
        rw [if_pos hu] at ih
        have c2 : up2 s2 (o + 9) k (cR F k : Nat) p 2 = (cR F k : Nat) := by rw [up2_ne (by omega)]; exact g3
        refine sp_mcadd hp c2 (by omega) (fun s3 y1 y2 y3 y4 => ?_)
        dsimp only
        try simp only [awu 172 4, pe172, xs, i_load, i_loadR, i_inc, lg, lp, true_and, and_true, List.length_cons, List.length_nil, Nat.reduceAdd, Nat.reduceLeDiff, Nat.zero_le, Int.toNat_natCast, natLit, k0, w ()]
        refine ih s3 (fun q a1 a2 a3 a4 => ?_) y1 (fun j a1 a2 => ?_)
        · rw [← g2 q a1 a2 a3 a4]
          funext z
          rw [y4 q z (by omega) (by omega) (by omega), up2_ne a1]
        · rw [y4 (o + 9) j (by omega) (by omega) (by omega), up2_self]
          rcases Nat.lt_or_ge j k with z | z
          · rw [upf_n (by omega)]
            have : cR F j < cR F k := cR_lt z a2
            rw [y4 (p + 1) _ (by omega) (by omega) (by omega), up2_ne (by omega)]
            exact g4 j z a2
          · have : j = k := by omega
            subst this
            rw [upf_s]
            exact ⟨y2, rfl⟩
  refine MS_v [vr o, vr p, none, none, none] rfl rfl k0 rfl ?_
  try simp only [awu 172 0, pe172, xs, i_load, i_loadR, i_inc, lg, lp, true_and, and_true, List.length_cons, List.length_nil, Nat.reduceAdd, Nat.reduceLeDiff, Nat.zero_le, Int.toNat_natCast, natLit, k0]
  refine sp_mcclear hp ?_
  dsimp only
  try simp only [awu 172 0, pe172, xs, i_load, i_loadR, i_inc, lg, lp, true_and, and_true, List.length_cons, List.length_nil, Nat.reduceAdd, Nat.reduceLeDiff, Nat.zero_le, Int.toNat_natCast, natLit, k0]
  exact key1 n 0 _ (by omega) (fun q a1 a2 a3 a4 => up2_ne a2) (by rw [up2_self, upf_s]; rfl) (fun j hj => by omega)
/-! words run over the states -/
def rF (F : FS) (n w : Nat) : Nat → Int
  | 0 => 0
  | p + 1 => fl F n (rF F n w p) (lt w p)
theorem rF_s {F : FS} {n w p : Nat} : rF F n w (p + 1) = fl F n (rF F n w p) (lt w p) := rfl
theorem fl_n {F : FS} {n l : Nat} : fl F n (-1) l = -1 := by unfold fl; rw [if_neg (by omega)]
theorem rF_n {F : FS} {n w p : Nat} (h : rF F n w p = -1) : ∀ k, rF F n w (p + k) = -1
  | 0 => h
  | k + 1 => by rw [← Nat.add_assoc, rF_s, rF_n h k, fl_n]
theorem rF_b {F : FS} {n w : Nat} (hF : FI n F) (hn : 0 < n) : ∀ p, rF F n w p = -1 ∨ ∃ j, j < n ∧ rF F n w p = (j : Nat) ∧ F.1 j = j
  | 0 => Or.inr ⟨0, hn, rfl, by have := hF.1 0 hn; omega⟩
  | p + 1 => by
    rw [rF_s]
    exact fl_b hF (lt_lt w p)
def aF (F : FS) (n w : Nat) : Bool := !(rF F n w (wl w) == -1) && (F.2.1 (rF F n w (wl w)).toNat == 1)
theorem sp_facc {d o n w : Nat} {st : St} {F : FS} {Q : Rn} (ho : isFd o) (hn : n ≤ 120) (hn0 : 0 < n) (hC : CR st o n F) (hF : FI n F) (hw : wf w) (hq : Q (vi (if aF F n w then 1 else 0)) st) : MS (d + 3) 171 [vr o, vi w] st Q := by
  obtain ⟨k0, -, ⟨k2, l2⟩, -⟩ := id ho
  have hwl := wf_lt hw
  have hw10 := hw.1
  have fin : ∀ (s : Int) (u : V), s = rF F n w (wl w) → AW (P 171) Q (MS (d + 2)) 0 (fun _ => 0) 4 [vr o, vi w, vi (wl w : Nat), vi s, u] [] st := by
    intro s u hs
    unfold aF at hq
    rw [← hs] at hq
    rw [awu 171 4]
    try simp only [awu 171 4, pe171, xs, i_load, i_loadR, i_inc, lg, lp, true_and, and_true, List.length_cons, List.length_nil, Nat.reduceAdd, Nat.reduceLeDiff, Nat.zero_le, Int.toNat_natCast, natLit, k0]
    refine sp_fname ho hn hC ?_
    dsimp only
    rcases rF_b (w := w) hF hn0 (wl w) with e | ⟨j, e1, e2, e3⟩
    · rw [e] at hs
      subst hs
      rw [if_neg (by omega)]
      try simp only [awu 171 7, awu 171 8, pe171, xs, i_load, i_loadR, i_inc, lg, lp, true_and, and_true, List.length_cons, List.length_nil, Nat.reduceAdd, Nat.reduceLeDiff, Nat.zero_le, Int.toNat_natCast, natLit, k0]
      exact ⟨fun _ => ⟨ok01_0, hq⟩, fun h => absurd trivial h⟩
    · rw [e2] at hs
      subst hs
      rw [if_pos ⟨by omega, by omega, by rw [Int.toNat_natCast]; exact e3⟩]
      have em := (hC.2.1 j e1).2.1
      have hne : ((j : Int) == -1) = false := beq_eq_false_iff_ne.mpr (by omega)
      rw [hne, Int.toNat_natCast] at hq
      try simp only [awu 171 5, awu 171 6, awu 171 7, awu 171 8, pe171, xs, i_load, i_loadR, i_inc, lg, lp, true_and, and_true, List.length_cons, List.length_nil, Nat.reduceAdd, Nat.reduceLeDiff, Nat.zero_le, Int.toNat_natCast, natLit, k0, k2, l2, em]
      refine ⟨fun h => absurd h (by decide), fun _ => ⟨by omega, fun h => ?_, fun h => ?_⟩⟩
      · rw [beq_eq_false_iff_ne.mpr h] at hq
        exact ⟨ok01_0, hq⟩
      · rw [beq_iff_eq.mpr (show F.2.1 j = 1 by omega)] at hq
        exact ⟨ok01_1, hq⟩
  have key : ∀ m p : Nat, p + m = wl w → AW (P 171) Q (MS (d + 2)) 0 (fun _ => 0) 1 [vr o, vi w, vi (wl w : Nat), vi (rF F n w p), vi p] [] st := by
    intro m
    induction m with
    | zero =>
      intro p g1
      have : p = wl w := by omega
      subst this
      rw [awu 171 1]
      try simp only [awu 171 1, pe171, xs, i_load, i_loadR, i_inc, lg, lp, true_and, and_true, List.length_cons, List.length_nil, Nat.reduceAdd, Nat.reduceLeDiff, Nat.zero_le, Int.toNat_natCast, natLit, k0]
      exact ⟨fun _ => fin _ _ rfl, fun h => absurd (Int.le_refl _) h⟩
    | succ m ih =>
      intro p g1
      have e : Unit → wr ((p : Int) + 1) = ((p + 1 : Nat) : Int) := fun _ => by rw [wr_id (by omega) (by omega)]; omega
      rw [awu 171 1]
      try simp only [awu 171 2, awu 171 3, pe171, xs, i_load, i_loadR, i_inc, lg, lp, true_and, and_true, List.length_cons, List.length_nil, Nat.reduceAdd, Nat.reduceLeDiff, Nat.zero_le, Int.toNat_natCast, natLit, k0]
      refine ⟨fun h => by omega, fun _ => ⟨fun h => ?_, fun _ => ?_⟩⟩
      · refine fin _ _ ?_
        rw [← g1, rF_n h, h]
      · refine sp_letter (by omega) hw10 (show p < wl w by omega) ?_
        dsimp only
        try simp only [awu 171 3, pe171, xs, i_load, i_loadR, i_inc, lg, lp, true_and, and_true, List.length_cons, List.length_nil, Nat.reduceAdd, Nat.reduceLeDiff, Nat.zero_le, Int.toNat_natCast, natLit, k0]
        refine sp_ffollow ho hn hC hF (lt_lt w p) ?_
        dsimp only
        try simp only [awu 171 3, pe171, xs, i_load, i_loadR, i_inc, lg, lp, true_and, and_true, List.length_cons, List.length_nil, Nat.reduceAdd, Nat.reduceLeDiff, Nat.zero_le, Int.toNat_natCast, natLit, k0, e ()]
        exact ih (p + 1) (by omega)
  refine MS_v [vr o, vi w, none, none, none] rfl rfl k0 rfl ?_
  try simp only [awu 171 0, pe171, xs, i_load, i_loadR, i_inc, lg, lp, true_and, and_true, List.length_cons, List.length_nil, Nat.reduceAdd, Nat.reduceLeDiff, Nat.zero_le, Int.toNat_natCast, natLit, k0]
  refine sp_len (by omega) ?_
  dsimp only
  try simp only [awu 171 0, pe171, xs, i_load, i_loadR, i_inc, lg, lp, true_and, and_true, List.length_cons, List.length_nil, Nat.reduceAdd, Nat.reduceLeDiff, Nat.zero_le, Int.toNat_natCast, natLit, k0]
  exact key (wl w) 0 (by omega)
theorem sp_mnow {d n q w : Nat} {st : St} {F : FS} {Q : Rn} (hn : n ≤ 120) (hn0 : 0 < n) (hC : MR st n q F) (hF : FI n F) (hw : wf w) (hq : Q (vi (if aF F n w then 1 else 0)) st) : MS (d + 2) 156 [vr 99, vi (wl w : Nat), vi (wc w : Nat)] st Q := by
  have k0 : kl 99 = 12 := rfl
  have k10 : kl 110 = 50 := rfl
  have l10 : len 110 = 161 := rfl
  have k12 : kl 112 = 50 := rfl
  have l12 : len 112 = 644 := rfl
  have hw10 := hw.1
  have hc20 := wc_lt w
  have fin : ∀ (s : Int) (u u5 : V), s = rF F n w (wl w) → AW (P 156) Q (MS (d + 1)) 0 (fun _ => 0) 7 [vr 99, vi (wl w : Nat), vi (wc w : Nat), vi s, u, u5] [] st := by
    intro s u u5 hs
    unfold aF at hq
    rw [← hs] at hq
    rcases rF_b (w := w) hF hn0 (wl w) with e | ⟨j, e1, e2, e3⟩
    · rw [e] at hs
      subst hs
      rw [awu 156 7]
      try simp only [awu 156 10, awu 156 11, pe156, xs, i_load, i_loadR, i_inc, lg, lp, true_and, and_true, List.length_cons, List.length_nil, Nat.reduceAdd, Nat.reduceLeDiff, Nat.zero_le, Int.toNat_natCast, natLit, k0]
      exact ⟨fun _ => ⟨ok01_0, hq⟩, fun h => absurd trivial h⟩
    · rw [e2] at hs
      subst hs
      have em := (hC.2.2.1 j e1).2.1
      have hne : ((j : Int) == -1) = false := beq_eq_false_iff_ne.mpr (by omega)
      rw [hne, Int.toNat_natCast] at hq
      rw [awu 156 7]
      try simp only [awu 156 8, awu 156 9, awu 156 10, awu 156 11, pe156, xs, i_load, i_loadR, i_inc, lg, lp, true_and, and_true, List.length_cons, List.length_nil, Nat.reduceAdd, Nat.reduceLeDiff, Nat.zero_le, Int.toNat_natCast, natLit, k0, k10, l10, em]
      refine ⟨fun h => by omega, fun _ => ⟨by omega, fun h => ?_, fun h => ?_⟩⟩
      · rw [beq_eq_false_iff_ne.mpr h] at hq
        exact ⟨ok01_0, hq⟩
      · rw [beq_iff_eq.mpr (show F.2.1 j = 1 by omega)] at hq
        exact ⟨ok01_1, hq⟩
  have key : ∀ m p : Nat, ∀ u5 : V, p + m = wl w → AW (P 156) Q (MS (d + 1)) 0 (fun _ => 0) 1 [vr 99, vi (wl w : Nat), vi (wc w : Nat), vi (rF F n w p), vi p, u5] [] st := by
    intro m
    induction m with
    | zero =>
      intro p u5 g1
      have : p = wl w := by omega
      subst this
      rw [awu 156 1]
      try simp only [awu 156 1, pe156, xs, i_load, i_loadR, i_inc, lg, lp, true_and, and_true, List.length_cons, List.length_nil, Nat.reduceAdd, Nat.reduceLeDiff, Nat.zero_le, Int.toNat_natCast, natLit, k0]
      exact ⟨fun _ => fin _ _ _ rfl, fun h => absurd (Int.le_refl _) h⟩
    | succ m ih =>
      intro p u5 g1
      have e : Unit → wr ((p : Int) + 1) = ((p + 1 : Nat) : Int) := fun _ => by rw [wr_id (by omega) (by omega)]; omega
      have ih := fun u5 => ih (p + 1) u5 (by omega)
      rw [rF_s] at ih
      rw [awu 156 1]
      try simp only [awu 156 2, pe156, xs, i_load, i_loadR, i_inc, lg, lp, true_and, and_true, List.length_cons, List.length_nil, Nat.reduceAdd, Nat.reduceLeDiff, Nat.zero_le, Int.toNat_natCast, natLit, k0]
      refine ⟨fun h => by omega, fun _ => ⟨fun h => ?_, fun h => ?_⟩⟩
      · refine fin _ _ _ ?_
        rw [← g1, rF_n h, h]
      · rcases rF_b (w := w) hF hn0 p with e1 | ⟨j, e1, e2, e3⟩
        · exact absurd e1 h
        · rw [e2] at ih ⊢
          have hlt := lt_wc (w := w) (p := p) hw10 (by omega)
          have hl4 := lt_lt w p
          have w4 : Unit → wr (4 * (j : Int)) = ((4 * j : Nat) : Int) := fun _ => by rw [wr_id (by omega) (by omega)]; omega
          have w5 : Unit → wr (((4 * j : Nat) : Int) + ((lt w p : Nat) : Int)) = ((4 * j + lt w p : Nat) : Int) := fun _ => by rw [wr_id (by omega) (by omega)]; omega
          have em := hC.2.2.2.1 (4 * j + lt w p) (by omega)
          have hbd := hF.2.2.2 (4 * j + lt w p) (by omega)
          have hfl : fl F n (j : Int) (lt w p) = if F.2.2.2 (4 * j + lt w p) ≠ -1 then (rt F.1 (F.2.2.2 (4 * j + lt w p)).toNat : Int) else -1 := by
            unfold fl
            rw [Int.toNat_natCast]
            by_cases z : F.2.2.2 (4 * j + lt w p) ≠ -1
            · rw [if_pos ⟨by omega, by omega, e3, z⟩, if_pos z]
            · rw [if_neg (fun y => z y.2.2.2), if_neg z]
          try simp only [awu 156 3, pe156, xs, i_load, i_loadR, i_inc, lg, lp, true_and, and_true, List.length_cons, List.length_nil, Nat.reduceAdd, Nat.reduceLeDiff, Nat.zero_le, Int.toNat_natCast, natLit, k0, w4 ()]
          refine sp_letterAt (by omega) hw10 (show p < wl w by omega) ?_
          rw [← hlt]
          dsimp only
          try simp only [awu 156 3, awu 156 4, awu 156 5, pe156, xs, i_load, i_loadR, i_inc, lg, lp, true_and, and_true, List.length_cons, List.length_nil, Nat.reduceAdd, Nat.reduceLeDiff, Nat.zero_le, Int.toNat_natCast, natLit, k0, k12, l12, w5 (), em]
          refine ⟨by omega, fun h2 => ?_, fun h2 => ?_⟩
          · rw [hfl, if_pos h2] at ih
            have e5 : F.2.2.2 (4 * j + lt w p) = (((F.2.2.2 (4 * j + lt w p)).toNat : Nat) : Int) := by omega
            rw [e5]
            refine sp_mnof hn hC hF (by omega) ?_
            dsimp only
            try simp only [awu 156 6, pe156, xs, i_load, i_loadR, i_inc, lg, lp, true_and, and_true, List.length_cons, List.length_nil, Nat.reduceAdd, Nat.reduceLeDiff, Nat.zero_le, Int.toNat_natCast, natLit, k0, e ()]
            rw [← e5]
            exact ih _
          · rw [hfl, if_neg h2] at ih
            try simp only [awu 156 6, pe156, xs, i_load, i_loadR, i_inc, lg, lp, true_and, and_true, List.length_cons, List.length_nil, Nat.reduceAdd, Nat.reduceLeDiff, Nat.zero_le, Int.toNat_natCast, natLit, k0, e ()]
            exact ih _
  refine MS_v [vr 99, vi (wl w : Nat), vi (wc w : Nat), none, none, none] rfl rfl rfl rfl ?_
  try simp only [awu 156 0, pe156, xs, i_load, i_loadR, i_inc, lg, lp, true_and, and_true, List.length_cons, List.length_nil, Nat.reduceAdd, Nat.reduceLeDiff, Nat.zero_le, Int.toNat_natCast, natLit, k0]
  exact key (wl w) 0 none (by omega)
