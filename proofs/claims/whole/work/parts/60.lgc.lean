/-! the longest word: the class -/
def px (M : MC) (a k s l : Nat) (t : Nat) : Prop := usB M a (t : Int) = true ∧ ∃ s' l' : Nat, (s' < s ∨ (s' = s ∧ l' < l)) ∧ s' < M.1 ∧ l' < a ∧ hk M a k (s' : Int) = true ∧ fo M (s' : Int) l' = (t : Int)
theorem px_l {M : MC} {a k s l t : Nat} (hs : s < M.1) (hl : l < a) (hh : hk M a k (s : Int) = true) : px M a k s (l + 1) t ↔ px M a k s l t ∨ (usB M a (t : Int) = true ∧ fo M (s : Int) l = (t : Int)) := by
  constructor
  · rintro ⟨h1, s', l', h2, h3, h4, h5, h6⟩
    by_cases z : s' = s ∧ l' = l
    · obtain ⟨rfl, rfl⟩ := z
      exact Or.inr ⟨h1, h6⟩
    · exact Or.inl ⟨h1, s', l', by omega, h3, h4, h5, h6⟩
  · rintro (⟨h1, s', l', h2, h3, h4, h5, h6⟩ | ⟨h1, h2⟩)
    · exact ⟨h1, s', l', by omega, h3, h4, h5, h6⟩
    · exact ⟨h1, s, l, by omega, hs, hl, hh, h2⟩
theorem px_0 {M : MC} {a k s t : Nat} (hh : hk M a k (s : Int) = false) : px M a k (s + 1) 0 t ↔ px M a k s 0 t := by
  constructor
  · rintro ⟨h1, s', l', h2, h3, h4, h5, h6⟩
    by_cases z : s' = s
    · subst z
      rw [hh] at h5
      cases h5
    · exact ⟨h1, s', l', by omega, h3, h4, h5, h6⟩
  · rintro ⟨h1, s', l', h2, h3, h4, h5, h6⟩
    exact ⟨h1, s', l', by omega, h3, h4, h5, h6⟩
theorem px_a {M : MC} {a k s t : Nat} : px M a k (s + 1) 0 t ↔ px M a k s a t := by
  constructor
  · rintro ⟨h1, s', l', h2, h3, h4, h5, h6⟩
    exact ⟨h1, s', l', by omega, h3, h4, h5, h6⟩
  · rintro ⟨h1, s', l', h2, h3, h4, h5, h6⟩
    exact ⟨h1, s', l', by omega, h3, h4, h5, h6⟩
theorem px_e {M : MC} {a k t : Nat} : px M a k M.1 0 t ↔ hk M a (k + 1) (t : Int) = true := by
  rw [hk_d]
  constructor
  · rintro ⟨h1, s', l', h2, h3, h4, h5, h6⟩
    exact ⟨h1, s', h3, h5, l', h4, h6⟩
  · rintro ⟨h1, s', h3, h5, l', h4, h6⟩
    exact ⟨h1, s', l', Or.inl h3, h3, h4, h5, h6⟩
def GI (st s2 : St) (M : MC) (a k s l : Nat) (an : Int) : Prop := (∀ q, q ≠ 86 → s2 q = st q) ∧ (∀ t, t < 201 → ok01 (s2 86 t) ∧ (s2 86 t = 1 ↔ t < M.1 ∧ px M a k s l t)) ∧ ok01 an ∧ (an = 1 ↔ ∃ t : Nat, t < M.1 ∧ px M a k s l t)
theorem GI_c {st s2 : St} {M : MC} {a k s l s' l' : Nat} {an : Int} (h : GI st s2 M a k s l an) (e : ∀ t, px M a k s' l' t ↔ px M a k s l t) : GI st s2 M a k s' l' an := by
  refine ⟨h.1, fun t ht => ?_, h.2.2.1, ?_⟩
  · rw [e t]
    exact h.2.1 t ht
  · simp only [e]
    exact h.2.2.2
set_option maxHeartbeats 1000000 in
theorem sp_goOn {d o cap a k : Nat} {st : St} {M : MC} {Q : Rn} (ho : isMc o cap) (ho2 : o + 2 < 80) (hM : MCc st o cap M) (hN : M.1 ≤ 200) (h0 : 0 < M.1) (hW : MW a M) (ha : a ≤ 4) (hU : ∀ s, s < M.1 → st 83 s = if usB M a (s : Int) then 1 else 0) (hH : ∀ s, s < 201 → st 85 s = if (decide (s < M.1) && hk M a k (s : Int)) then 1 else 0)
    (hq : ∀ st' : St, (∀ s, s < 201 → st' 85 s = if (decide (s < M.1) && hk M a (k + 1) (s : Int)) then 1 else 0) → (∀ q, q ≠ 85 → q ≠ 86 → st' q = st q) → Q (vi (if ek M a (k + 1) 0 then 1 else 0)) st') : MS (d + 3) 204 [vr 80, vr o, vi a] st Q := by
  have k0 : kl 80 = 3 := rfl
  have k83 : kl 83 = 52 := rfl
  have l83 : len 83 = 201 := rfl
  have k85 : kl 85 = 52 := rfl
  have l85 : len 85 = 201 := rfl
  have k86 : kl 86 = 52 := rfl
  have l86 : len 86 = 201 := rfl
  have ko := ho.1
  have hMc := hM.2.1
  have fr : ∀ s2 : St, (∀ q, q ≠ 86 → s2 q = st q) → MCc s2 o cap M := fun s2 h => MCc_congr hM (fun q h1 h2 => h q (by omega))
  -- the copy
  have cp : ∀ mm i : Nat, ∀ (s2 : St) (an : Int) (u5 u6 : V), i + mm = 201 → (∀ q, q ≠ 85 → q ≠ 86 → s2 q = st q) → (∀ t, t < 201 → ok01 (s2 86 t) ∧ (s2 86 t = 1 ↔ t < M.1 ∧ px M a k M.1 0 t)) → ok01 an → (an = 1 ↔ ∃ t : Nat, t < M.1 ∧ px M a k M.1 0 t) → (∀ s, s < i → s2 85 s = s2 86 s) → AW (P 204) Q (MS (d + 2)) 0 (fun _ => 0) 15 [vr 80, vr o, vi a, vi an, vi i, u5, u6] [] s2 := by
    intro mm
    induction mm with
    | zero =>
      intro i s2 an u5 u6 g1 g2 g3 g4 g5 g6
      have : i = 201 := by omega
      subst this
      rw [awu 204 15]
      try simp only [awu 204 17, pe204, xs, i_load, i_loadR, i_inc, lg, lp, true_and, and_true, List.length_cons, List.length_nil, Nat.reduceAdd, Nat.reduceLeDiff, Nat.zero_le, Int.toNat_natCast, natLit, k0]
      refine ⟨fun _ => ⟨g4, ?_⟩, fun h => absurd (by decide) h⟩
      have ean : an = if ek M a (k + 1) 0 then 1 else 0 := by
        have hiff : ek M a (k + 1) 0 = true ↔ ∃ t : Nat, t < M.1 ∧ px M a k M.1 0 t := by
          have := hk_ek hW ha h0 (k := k + 1) (j := 0)
          rw [Nat.add_zero] at this
          rw [← this]
          constructor
          · rintro ⟨t, t1, t2, t3⟩
            exact ⟨t, t1, px_e.mpr t2⟩
          · rintro ⟨t, t1, t2⟩
            exact ⟨t, t1, px_e.mp t2, hk_us (px_e.mp t2)⟩
        rcases g4 with z | z
        · rw [if_neg (fun h => by
            have := g5.mpr (hiff.mp h)
            omega)]
          exact z
        · rw [if_pos (hiff.mpr (g5.mp z))]
          exact z
      rw [ean]
      refine hq s2 (fun s hs => ?_) g2
      rw [g6 s hs]
      obtain ⟨y1, y2⟩ := g3 s hs
      rw [px_e] at y2
      rcases y1 with z | z
      · rw [if_neg (fun h => by
          rw [Bool.and_eq_true, decide_eq_true_iff] at h
          have := y2.mpr h
          omega)]
        exact z
      · rw [if_pos (by
          rw [Bool.and_eq_true, decide_eq_true_iff]
          exact y2.mp z)]
        exact z
    | succ mm ih =>
      intro i s2 an u5 u6 g1 g2 g3 g4 g5 g6
      have wi : Unit → wr ((i : Int) + 1) = ((i + 1 : Nat) : Int) := fun _ => by rw [wr_id (by omega) (by omega)]; omega
      rw [awu 204 15]
      try simp only [awu 204 16, pe204, xs, i_load, i_loadR, i_inc, lg, lp, true_and, and_true, List.length_cons, List.length_nil, Nat.reduceAdd, Nat.reduceLeDiff, Nat.zero_le, Int.toNat_natCast, natLit, k0, k85, l85, k86, l86, wi ()]
      refine ⟨fun h => by omega, fun _ => ⟨by omega, by omega, (g3 i (by omega)).1, ?_⟩⟩
      refine ih (i + 1) _ an _ _ (by omega) (fun q q1 q2 => ?_) (fun t ht => ?_) g4 g5 (fun s hs => ?_)
      · rw [up2_ne q1]
        exact g2 q q1 q2
      · rw [up2_ne (by decide)]
        exact g3 t ht
      · rw [up2_self, up2_ne (by decide)]
        by_cases zs : s = i
        · rw [zs, upf_s]
        · rw [upf_n zs]
          exact g6 s (by omega)
  have keys : ∀ mm s : Nat, ∀ (s2 : St) (an : Int) (u5 u6 : V), s + mm = M.1 → GI st s2 M a k s 0 an → AW (P 204) Q (MS (d + 2)) 0 (fun _ => 0) 4 [vr 80, vr o, vi a, vi an, vi s, u5, u6] [] s2 := by
    intro mm
    induction mm with
    | zero =>
      intro s s2 an u5 u6 g1 g2
      have : s = M.1 := by omega
      subst this
      have f1 := (fr s2 g2.1).1
      rw [awu 204 4]
      try simp only [awu 204 14, pe204, xs, i_load, i_loadR, i_inc, lg, lp, true_and, and_true, List.length_cons, List.length_nil, Nat.reduceAdd, Nat.reduceLeDiff, Nat.zero_le, Int.toNat_natCast, natLit, k0, ko, f1]
      exact ⟨fun _ => cp 201 0 s2 an _ _ (by omega) (fun q _ q2 => g2.1 q q2) g2.2.1 g2.2.2.1 g2.2.2.2 (fun s hs => by omega), fun h => absurd (Int.le_refl _) h⟩
    | succ mm ih =>
      intro s s2 an u5 u6 g1 g2
      have f1 := (fr s2 g2.1).1
      have ws : Unit → wr ((s : Int) + 1) = ((s + 1 : Nat) : Int) := fun _ => by rw [wr_id (by omega) (by omega)]; omega
      have e85 : s2 85 s = if hk M a k (s : Int) then 1 else 0 := by
        rw [g2.1 85 (by decide), hH s (by omega), decide_eq_true (show s < M.1 by omega), Bool.true_and]
      by_cases hh : hk M a k (s : Int) = true
      · rw [if_pos hh] at e85
        have keyl : ∀ mm l : Nat, ∀ (s2 : St) (an : Int) (u6 : V), l + mm = a → GI st s2 M a k s l an → AW (P 204) Q (MS (d + 2)) 0 (fun _ => 0) 7 [vr 80, vr o, vi a, vi an, vi s, vi l, u6] [] s2 := by
          intro mm
          induction mm with
          | zero =>
            intro l s2 an u6 x1 x2
            have : l = a := by omega
            subst this
            rw [awu 204 7]
            try simp only [awu 204 13, pe204, xs, i_load, i_loadR, i_inc, lg, lp, true_and, and_true, List.length_cons, List.length_nil, Nat.reduceAdd, Nat.reduceLeDiff, Nat.zero_le, Int.toNat_natCast, natLit, k0, ws ()]
            exact ⟨fun _ => ih (s + 1) s2 an _ _ (by omega) (GI_c x2 (fun t => px_a)), fun h => absurd (Int.le_refl _) h⟩
          | succ mm ihl =>
            intro l s2 an u6 x1 x2
            have wl' : Unit → wr ((l : Int) + 1) = ((l + 1 : Nat) : Int) := fun _ => by rw [wr_id (by omega) (by omega)]; omega
            have f2 := fr s2 x2.1
            have e85' : s2 85 s = 1 := by
              rw [x2.1 85 (by decide), ← g2.1 85 (by decide)]
              exact e85
            rw [awu 204 7]
            try simp only [awu 204 8, awu 204 9, pe204, xs, i_load, i_loadR, i_inc, lg, lp, true_and, and_true, List.length_cons, List.length_nil, Nat.reduceAdd, Nat.reduceLeDiff, Nat.zero_le, Int.toNat_natCast, natLit, k0, k85, l85, e85']
            refine ⟨fun h => by omega, fun _ => ⟨by omega, fun h => absurd h (by decide), fun _ => ?_⟩⟩
            refine sp_mcfollow ho f2 hW (show l < 4 by omega) ?_
            dsimp only
            try simp only [awu 204 9, pe204, xs, i_load, i_loadR, i_inc, lg, lp, true_and, and_true, List.length_cons, List.length_nil, Nat.reduceAdd, Nat.reduceLeDiff, Nat.zero_le, Int.toNat_natCast, natLit, k0]
            refine sp_mchas ho f2.1 hMc ?_
            dsimp only
            rcases fo_r (s := (s : Int)) hW (show l < a by omega) ha with z | z
            · rw [z, if_neg (by omega)]
              try simp only [awu 204 9, awu 204 12, pe204, xs, i_load, i_loadR, i_inc, lg, lp, true_and, and_true, List.length_cons, List.length_nil, Nat.reduceAdd, Nat.reduceLeDiff, Nat.zero_le, Int.toNat_natCast, natLit, k0, wl' ()]
              refine ⟨fun _ => ihl (l + 1) s2 an _ (by omega) (GI_c x2 (fun t => ?_)), fun h => absurd (by trivial) h⟩
              rw [px_l (by omega) (by omega) hh]
              constructor
              · rintro (y | ⟨_, y⟩)
                · exact y
                · omega
              · exact Or.inl
            · obtain ⟨t, ht⟩ : ∃ t : Nat, fo M (s : Int) l = t := ⟨(fo M (s : Int) l).toNat, by omega⟩
              have e83 : s2 83 t = if usB M a (t : Int) then 1 else 0 := by rw [x2.1 83 (by decide)]; exact hU t (by omega)
              rw [ht, if_pos (by omega)]
              by_cases hus : usB M a (t : Int) = true
              · rw [if_pos hus] at e83
                try simp only [awu 204 9, awu 204 10, awu 204 11, awu 204 12, pe204, xs, i_load, i_loadR, i_inc, lg, lp, true_and, and_true, List.length_cons, List.length_nil, Nat.reduceAdd, Nat.reduceLeDiff, Nat.zero_le, Int.toNat_natCast, natLit, k0, k83, l83, k86, l86, e83, wl' (), ok01_1]
                refine ⟨fun h => absurd h (by decide), fun _ => ⟨by omega, fun h => absurd h (by decide), fun _ => ⟨by omega, ?_⟩⟩⟩
                refine ihl (l + 1) _ 1 _ (by omega) ⟨fun q q1 => ?_, fun x hx => ?_, ok01_1, ?_⟩
                · rw [up2_ne q1]
                  exact x2.1 q q1
                · rw [up2_self, px_l (by omega) (by omega) hh]
                  by_cases zx : x = t
                  · rw [zx, upf_s]
                    refine ⟨ok01_1, fun _ => ⟨by omega, Or.inr ⟨hus, ht⟩⟩, fun _ => rfl⟩
                  · rw [upf_n zx]
                    refine ⟨(x2.2.1 x hx).1, ?_⟩
                    rw [(x2.2.1 x hx).2]
                    constructor
                    · rintro ⟨y1, y2⟩
                      exact ⟨y1, Or.inl y2⟩
                    · rintro ⟨y1, y2 | ⟨_, y2⟩⟩
                      · exact ⟨y1, y2⟩
                      · omega
                · refine ⟨fun _ => ⟨t, by omega, (px_l (by omega) (by omega) hh).mpr (Or.inr ⟨hus, ht⟩)⟩, fun _ => rfl⟩
              · rw [if_neg hus] at e83
                try simp only [awu 204 9, awu 204 10, awu 204 12, pe204, xs, i_load, i_loadR, i_inc, lg, lp, true_and, and_true, List.length_cons, List.length_nil, Nat.reduceAdd, Nat.reduceLeDiff, Nat.zero_le, Int.toNat_natCast, natLit, k0, k83, l83, e83, wl' ()]
                refine ⟨fun h => absurd h (by decide), fun _ => ⟨by omega, fun _ => ?_, fun h => absurd (by trivial) h⟩⟩
                refine ihl (l + 1) s2 an _ (by omega) (GI_c x2 (fun x => ?_))
                rw [px_l (by omega) (by omega) hh]
                constructor
                · rintro (y | ⟨y1, y2⟩)
                  · exact y
                  · have : x = t := by omega
                    subst this
                    exact absurd y1 hus
                · exact Or.inl
        rw [awu 204 4]
        try simp only [awu 204 5, awu 204 6, pe204, xs, i_load, i_loadR, i_inc, lg, lp, true_and, and_true, List.length_cons, List.length_nil, Nat.reduceAdd, Nat.reduceLeDiff, Nat.zero_le, Int.toNat_natCast, natLit, k0, ko, f1]
        exact ⟨fun h => by omega, fun _ => ⟨fun h => by omega, fun _ => keyl a 0 s2 an _ (by omega) g2⟩⟩
      · rw [if_neg hh] at e85
        have nx := fun u5 u6 => ih (s + 1) s2 an u5 u6 (by omega) (GI_c g2 (fun t => px_0 (by simpa using hh)))
        rw [awu 204 4]
        try simp only [awu 204 5, awu 204 6, awu 204 7, awu 204 8, awu 204 13, pe204, xs, i_load, i_loadR, i_inc, lg, lp, true_and, and_true, List.length_cons, List.length_nil, Nat.reduceAdd, Nat.reduceLeDiff, Nat.zero_le, Int.toNat_natCast, natLit, k0, ko, f1, k85, l85, e85, ws ()]
        exact ⟨fun h => by omega, fun _ => ⟨fun h => by omega, fun _ => ⟨fun _ => nx _ _, fun _ => ⟨by omega, fun _ => nx _ _, fun h => absurd (by trivial) h⟩⟩⟩⟩
  have fill : ∀ mm i : Nat, ∀ (s2 : St), i + mm = 201 → (∀ q, q ≠ 86 → s2 q = st q) → (∀ s, s < i → s2 86 s = 0) → AW (P 204) Q (MS (d + 2)) 0 (fun _ => 0) 1 [vr 80, vr o, vi a, vi i, none, none, none] [] s2 := by
    intro mm
    induction mm with
    | zero =>
      intro i s2 g1 g2 g3
      have : i = 201 := by omega
      subst this
      rw [awu 204 1]
      try simp only [awu 204 3, pe204, xs, i_load, i_loadR, i_inc, lg, lp, true_and, and_true, List.length_cons, List.length_nil, Nat.reduceAdd, Nat.reduceLeDiff, Nat.zero_le, Int.toNat_natCast, natLit, k0]
      have no : ∀ t, ¬ px M a k 0 0 t := by
        rintro t ⟨_, s', l', h, _⟩
        omega
      refine ⟨fun _ => keys M.1 0 s2 0 none none (by omega) ⟨g2, fun t ht => ⟨?_, ?_⟩, ok01_0, ?_⟩, fun h => absurd (by decide) h⟩
      · rw [g3 t ht]
        exact ok01_0
      · rw [g3 t ht]
        exact ⟨fun h => absurd h (by decide), fun h => absurd h.2 (no t)⟩
      · exact ⟨fun h => absurd h (by decide), fun ⟨t, _, h⟩ => absurd h (no t)⟩
    | succ mm ih =>
      intro i s2 g1 g2 g3
      have wk : Unit → wr ((i : Int) + 1) = ((i + 1 : Nat) : Int) := fun _ => by rw [wr_id (by omega) (by omega)]; omega
      rw [awu 204 1]
      try simp only [awu 204 2, pe204, xs, i_load, i_loadR, i_inc, lg, lp, true_and, and_true, List.length_cons, List.length_nil, Nat.reduceAdd, Nat.reduceLeDiff, Nat.zero_le, Int.toNat_natCast, natLit, k0, k86, l86, wk (), ok01_0]
      refine ⟨fun h => by omega, fun _ => ⟨by omega, ih (i + 1) _ (by omega) (fun q q1 => ?_) (fun s hs => ?_)⟩⟩
      · rw [up2_ne q1]
        exact g2 q q1
      · rw [up2_self]
        by_cases zs : s = i
        · rw [zs, upf_s]
        · rw [upf_n zs]
          exact g3 s (by omega)
  refine MS_v [vr 80, vr o, vi a, none, none, none, none] rfl rfl rfl rfl ?_
  try simp only [awu 204 0, pe204, xs, i_load, i_loadR, i_inc, lg, lp, true_and, and_true, List.length_cons, List.length_nil, Nat.reduceAdd, Nat.reduceLeDiff, Nat.zero_le, Int.toNat_natCast, natLit, k0]
  exact fill 201 0 st (by omega) (fun _ _ => rfl) (fun s hs => by omega)
theorem cn_ex {p : Nat → Bool} : ∀ {n : Nat}, cn p n ≠ 0 → ∃ k, k < n ∧ p k = true
  | 0, h => absurd rfl h
  | n + 1, h => by
    rw [cn_s] at h
    by_cases z : p n = true
    · exact ⟨n, by omega, z⟩
    · rw [if_neg z, Nat.add_zero] at h
      obtain ⟨k, k1, k2⟩ := cn_ex h
      exact ⟨k, by omega, k2⟩
theorem sp_longest {d o cap a : Nat} {st : St} {M : MC} {Q : Rn} (ho : isMc o cap) (ho2 : o + 2 < 80) (hM : MCc st o cap M) (hN : M.1 ≤ 200) (h0 : 0 < M.1) (hW : MW a M) (ha : a ≤ 4)
    (hq : ∀ (st' : St), (∀ q, q < 82 ∨ 86 < q → st' q = st q) → Q (vi (lgA M a)) st') : MS (d + 5) 203 [vr 80, vr o, vi a] st Q := by
  have k0 : kl 80 = 3 := rfl
  have k85 : kl 85 = 52 := rfl
  have l85 : len 85 = 201 := rfl
  refine MS_v [vr 80, vr o, vi a, none, none] rfl rfl rfl rfl ?_
  try simp only [awu 203 0, pe203, xs, i_load, i_loadR, i_inc, lg, lp, true_and, and_true, List.length_cons, List.length_nil, Nat.reduceAdd, Nat.reduceLeDiff, Nat.zero_le, Int.toNat_natCast, natLit, k0]
  refine sp_useful ho ho2 hM hN h0 hW ha (fun s1 u1 f1 => ?_)
  dsimp only
  have hle := cn_le (p := fun s => usB M a (s : Int)) M.1
  by_cases hc : cn (fun s => usB M a (s : Int)) M.1 = 0
  · have : lgA M a = -2 := by
      unfold lgA
      rw [if_pos hc]
    rw [this] at hq
    rw [hc]
    try simp only [awu 203 0, awu 203 1, pe203, xs, i_load, i_loadR, i_inc, lg, lp, true_and, and_true, List.length_cons, List.length_nil, Nat.reduceAdd, Nat.reduceLeDiff, Nat.zero_le, Int.toNat_natCast, natLit, k0]
    exact ⟨fun h => absurd (by trivial) h, fun _ => hq s1 (fun q hq => f1 q (by omega) (by omega) (by omega))⟩
  · have us0 : usB M a 0 = true := by
      obtain ⟨s, s1, s2⟩ := cn_ex hc
      exact ek_0 (k := 0) s2
    have loop : ∀ mm i : Nat, ∀ (s2 : St), i + mm = cn (fun s => usB M a (s : Int)) M.1 → ek M a i 0 = true → (∀ q, q ≠ 85 → q ≠ 86 → s2 q = s1 q) → (∀ s, s < 201 → s2 85 s = if (decide (s < M.1) && hk M a i (s : Int)) then 1 else 0) → AW (P 203) Q (MS (d + 4)) 0 (fun _ => 0) 9 [vr 80, vr o, vi a, vi (cn (fun s => usB M a (s : Int)) M.1 : Nat), vi i] [] s2 := by
      intro mm
      induction mm with
      | zero =>
        intro i s2 g1 g2 g3 g4
        have : i = cn (fun s => usB M a (s : Int)) M.1 := by omega
        subst this
        rw [awu 203 9]
        try simp only [awu 203 14, pe203, xs, i_load, i_loadR, i_inc, lg, lp, true_and, and_true, List.length_cons, List.length_nil, Nat.reduceAdd, Nat.reduceLeDiff, Nat.zero_le, Int.toNat_natCast, natLit, k0]
        refine ⟨fun _ => ?_, fun h => absurd (Int.le_refl _) h⟩
        rw [lgA_n hc (Nat.le_refl _) g2] at hq
        exact hq s2 (fun q hq => by rw [g3 q (by omega) (by omega), f1 q (by omega) (by omega) (by omega)])
      | succ mm ih =>
        intro i s2 g1 g2 g3 g4
        have wi : Unit → wr ((i : Int) + 1) = ((i + 1 : Nat) : Int) := fun _ => by rw [wr_id (by omega) (by omega)]; omega
        rw [awu 203 9]
        try simp only [awu 203 10, awu 203 11, pe203, xs, i_load, i_loadR, i_inc, lg, lp, true_and, and_true, List.length_cons, List.length_nil, Nat.reduceAdd, Nat.reduceLeDiff, Nat.zero_le, Int.toNat_natCast, natLit, k0]
        refine ⟨fun h => by omega, fun _ => ⟨fun h => by omega, fun _ => ?_⟩⟩
        refine sp_goOn (k := i) ho ho2 (MCc_congr hM (fun q h1 h2 => by rw [g3 q (by omega) (by omega), f1 q (by omega) (by omega) (by omega)])) hN h0 hW ha (fun s hs => by rw [g3 83 (by decide) (by decide)]; exact u1 s hs) g4 (fun s3 y1 y2 => ?_)
        dsimp only
        have fr3 : ∀ q, q ≠ 85 → q ≠ 86 → s3 q = s1 q := fun q q1 q2 => by rw [y2 q q1 q2, g3 q q1 q2]
        by_cases he : ek M a (i + 1) 0 = true
        · rw [if_pos he]
          try simp only [awu 203 11, awu 203 13, pe203, xs, i_load, i_loadR, i_inc, lg, lp, true_and, and_true, List.length_cons, List.length_nil, Nat.reduceAdd, Nat.reduceLeDiff, Nat.zero_le, Int.toNat_natCast, natLit, k0, wi ()]
          exact ⟨fun _ => ih (i + 1) s3 (by omega) he fr3 y1, fun h => absurd (by decide) h⟩
        · rw [if_neg he]
          try simp only [awu 203 11, awu 203 12, pe203, xs, i_load, i_loadR, i_inc, lg, lp, true_and, and_true, List.length_cons, List.length_nil, Nat.reduceAdd, Nat.reduceLeDiff, Nat.zero_le, Int.toNat_natCast, natLit, k0]
          refine ⟨fun h => absurd (by trivial) h, fun _ => ?_⟩
          rw [lgA_s hW ha h0 hc g2 (by simpa using he)] at hq
          exact hq s3 (fun q hq => by rw [fr3 q (by omega) (by omega), f1 q (by omega) (by omega) (by omega)])
    have fill : ∀ mm i : Nat, ∀ (s2 : St), i + mm = 201 → (∀ q, q ≠ 85 → s2 q = s1 q) → (∀ s, s < i → s2 85 s = if s = 0 then 1 else 0) → AW (P 203) Q (MS (d + 4)) 0 (fun _ => 0) 3 [vr 80, vr o, vi a, vi (cn (fun s => usB M a (s : Int)) M.1 : Nat), vi i] [] s2 := by
      intro mm
      induction mm with
      | zero =>
        intro i s2 g1 g2 g3
        have : i = 201 := by omega
        subst this
        rw [awu 203 3]
        try simp only [awu 203 8, pe203, xs, i_load, i_loadR, i_inc, lg, lp, true_and, and_true, List.length_cons, List.length_nil, Nat.reduceAdd, Nat.reduceLeDiff, Nat.zero_le, Int.toNat_natCast, natLit, k0]
        refine ⟨fun _ => loop (cn (fun s => usB M a (s : Int)) M.1) 0 s2 (by omega) us0 (fun q q1 _ => g2 q q1) (fun s hs => ?_), fun h => absurd (by decide) h⟩
        rw [g3 s hs]
        by_cases zs : s = 0
        · subst zs
          rw [if_pos rfl, if_pos]
          rw [Bool.and_eq_true, decide_eq_true_iff]
          refine ⟨h0, ?_⟩
          show (usB M a 0 && decide ((0 : Int) = 0)) = true
          rw [us0]
          rfl
        · rw [if_neg zs, if_neg]
          rw [Bool.and_eq_true]
          rintro ⟨_, h⟩
          have : (usB M a (s : Int) && decide ((s : Int) = 0)) = true := h
          rw [Bool.and_eq_true, decide_eq_true_iff] at this
          omega
      | succ mm ih =>
        intro i s2 g1 g2 g3
        have wk : Unit → wr ((i : Int) + 1) = ((i + 1 : Nat) : Int) := fun _ => by rw [wr_id (by omega) (by omega)]; omega
        have nx : ∀ v : Int, v = (if i = 0 then 1 else 0) → ok01 v → AW (P 203) Q (MS (d + 4)) 0 (fun _ => 0) 7 [vr 80, vr o, vi a, vi (cn (fun s => usB M a (s : Int)) M.1 : Nat), vi i] [vi v, vi i, vr 85] s2 := by
          intro v hv hv1
          rw [awu 203 7]
          try simp only [awu 203 7, pe203, xs, i_load, i_loadR, i_inc, lg, lp, true_and, and_true, List.length_cons, List.length_nil, Nat.reduceAdd, Nat.reduceLeDiff, Nat.zero_le, Int.toNat_natCast, natLit, k0, k85, l85, wk ()]
          refine ⟨by omega, hv1, ih (i + 1) _ (by omega) (fun q q1 => ?_) (fun s hs => ?_)⟩
          · rw [up2_ne q1]
            exact g2 q q1
          · rw [up2_self]
            by_cases zs : s = i
            · rw [zs, upf_s]
              exact hv
            · rw [upf_n zs]
              exact g3 s (by omega)
        rw [awu 203 3]
        try simp only [awu 203 4, awu 203 5, awu 203 6, pe203, xs, i_load, i_loadR, i_inc, lg, lp, true_and, and_true, List.length_cons, List.length_nil, Nat.reduceAdd, Nat.reduceLeDiff, Nat.zero_le, Int.toNat_natCast, natLit, k0]
        refine ⟨fun h => by omega, fun _ => ⟨fun h => nx 0 (by rw [if_neg (by omega)]) ok01_0, fun h => nx 1 (by rw [if_pos (by omega)]) ok01_1⟩⟩
    try simp only [awu 203 0, awu 203 2, pe203, xs, i_load, i_loadR, i_inc, lg, lp, true_and, and_true, List.length_cons, List.length_nil, Nat.reduceAdd, Nat.reduceLeDiff, Nat.zero_le, Int.toNat_natCast, natLit, k0]
    exact ⟨fun _ => fill 201 0 s1 (by omega) (fun _ _ => rfl) (fun s hs => by omega), fun h => absurd (by omega) h⟩
