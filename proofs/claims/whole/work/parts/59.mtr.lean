/-! what can be come to, what is useful: the class -/
def RI (st s2 : St) (M : MC) (a k l m : Nat) (R : Nat → Bool) : Prop := (∀ q, q ≠ 82 → q ≠ 84 → s2 q = st q) ∧ (∀ s, s < 201 → s2 82 s = if R s then 1 else 0) ∧ m = cn R M.1 ∧ (∀ i, i < m → ∃ s : Nat, s < M.1 ∧ s2 84 i = (s : Nat) ∧ Rc M a s ∧ R s = true) ∧ (∀ s : Nat, s < M.1 → R s = true → ∃ i, i < m ∧ s2 84 i = (s : Nat)) ∧ R 0 = true ∧ (∀ i j, (i < k ∨ (i = k ∧ j < l)) → i < m → j < a → ∀ t : Nat, fo M (s2 84 i) j = t → R t = true)
theorem sp_reach {d o cap a : Nat} {st : St} {M : MC} {Q : Rn} (ho : isMc o cap) (ho2 : o + 2 < 80) (hM : MCc st o cap M) (hN : M.1 ≤ 200) (h0 : 0 < M.1) (hW : MW a M) (ha : a ≤ 4)
    (hq : ∀ (st' : St) (m : Nat), m ≤ M.1 → (∀ i, i < m → ∃ s : Nat, s < M.1 ∧ st' 84 i = (s : Nat) ∧ Rc M a s) → (∀ s : Nat, s < M.1 → Rc M a s → ∃ i, i < m ∧ st' 84 i = (s : Nat)) → (∀ q, q ≠ 82 → q ≠ 84 → st' q = st q) → Q (vi (m : Nat)) st') : MS (d + 3) 202 [vr 80, vr o, vi a] st Q := by
  have k0 : kl 80 = 3 := rfl
  have k82 : kl 82 = 52 := rfl
  have l82 : len 82 = 201 := rfl
  have k84 : kl 84 = 50 := rfl
  have l84 : len 84 = 201 := rfl
  have fr : ∀ s2 : St, (∀ q, q ≠ 82 → q ≠ 84 → s2 q = st q) → MCc s2 o cap M := fun s2 h => MCc_congr hM (fun q h1 h2 => h q (by omega) (by omega))
  have key : ∀ mm k : Nat, ∀ (s2 : St) (R : Nat → Bool) (m : Nat) (u5 u6 : V), k + mm = M.1 → k ≤ m → RI st s2 M a k 0 m R → AW (P 202) Q (MS (d + 2)) 0 (fun _ => 0) 4 [vr 80, vr o, vi a, vi m, vi k, u5, u6] [] s2 := by
    intro mm
    induction mm with
    | zero =>
      intro k s2 R m u5 u6 g1 g2 hR
      obtain ⟨r1, r2, r3, r4, r5, r6, r7⟩ := hR
      have hm : m ≤ M.1 := by rw [r3]; exact cn_le _
      have : k = m := by omega
      subst this
      rw [awu 202 4]
      try simp only [awu 202 14, pe202, xs, i_load, i_loadR, i_inc, lg, lp, true_and, and_true, List.length_cons, List.length_nil, Nat.reduceAdd, Nat.reduceLeDiff, Nat.zero_le, Int.toNat_natCast, natLit, k0]
      refine ⟨fun _ => hq s2 k hm (fun i hi => ?_) (fun s hs hr => ?_) r1, fun h => absurd (Int.le_refl _) h⟩
      · obtain ⟨s, e1, e2, e3, _⟩ := r4 i hi
        exact ⟨s, e1, e2, e3⟩
      · have := Rc_of (R := fun s => s = -1 ∨ ∃ t : Nat, s = t ∧ t < M.1 ∧ R t = true) (Or.inr ⟨0, rfl, h0, r6⟩) (fun s l hs hl => by
          rcases hs with z | ⟨t, e, ht, hRt⟩
          · rw [z, fo_n]
            exact Or.inl rfl
          · subst e
            obtain ⟨i, hi, he⟩ := r5 t ht hRt
            rcases fo_r (s := (t : Int)) hW hl ha with z | z
            · exact Or.inl z
            · obtain ⟨t', ht'⟩ : ∃ t' : Nat, fo M (t : Int) l = t' := ⟨(fo M (t : Int) l).toNat, by omega⟩
              refine Or.inr ⟨t', ht', by omega, r7 i l (Or.inl hi) hi hl t' ?_⟩
              rw [he]
              exact ht') hr
        rcases this with z | ⟨t, e, ht, hRt⟩
        · omega
        · have : s = t := by omega
          subst this
          exact r5 s hs hRt
    | succ mm ih =>
      intro k s2 R m u5 u6 g1 g2 hR
      by_cases hkm : k = m
      · subst hkm
        obtain ⟨r1, r2, r3, r4, r5, r6, r7⟩ := hR
        rw [awu 202 4]
        try simp only [awu 202 14, pe202, xs, i_load, i_loadR, i_inc, lg, lp, true_and, and_true, List.length_cons, List.length_nil, Nat.reduceAdd, Nat.reduceLeDiff, Nat.zero_le, Int.toNat_natCast, natLit, k0]
        refine ⟨fun _ => hq s2 k (by omega) (fun i hi => ?_) (fun s hs hr => ?_) r1, fun h => absurd (Int.le_refl _) h⟩
        · obtain ⟨s, e1, e2, e3, _⟩ := r4 i hi
          exact ⟨s, e1, e2, e3⟩
        · have := Rc_of (R := fun s => s = -1 ∨ ∃ t : Nat, s = t ∧ t < M.1 ∧ R t = true) (Or.inr ⟨0, rfl, h0, r6⟩) (fun s l hs hl => by
            rcases hs with z | ⟨t, e, ht, hRt⟩
            · rw [z, fo_n]
              exact Or.inl rfl
            · subst e
              obtain ⟨i, hi, he⟩ := r5 t ht hRt
              rcases fo_r (s := (t : Int)) hW hl ha with z | z
              · exact Or.inl z
              · obtain ⟨t', ht'⟩ : ∃ t' : Nat, fo M (t : Int) l = t' := ⟨(fo M (t : Int) l).toNat, by omega⟩
                refine Or.inr ⟨t', ht', by omega, r7 i l (Or.inl hi) hi hl t' ?_⟩
                rw [he]
                exact ht') hr
          rcases this with z | ⟨t, e, ht, hRt⟩
          · omega
          · have : s = t := by omega
            subst this
            exact r5 s hs hRt
      · have wk : Unit → wr ((k : Int) + 1) = ((k + 1 : Nat) : Int) := fun _ => by rw [wr_id (by omega) (by omega)]; omega
        have keyl : ∀ mm l : Nat, ∀ (s2 : St) (R : Nat → Bool) (m : Nat) (u6 : V), l + mm = a → k < m → RI st s2 M a k l m R → AW (P 202) Q (MS (d + 2)) 0 (fun _ => 0) 7 [vr 80, vr o, vi a, vi m, vi k, vi l, u6] [] s2 := by
          intro mm
          induction mm with
          | zero =>
            intro l s2 R m u6 g1 g2 hR
            have : l = a := by omega
            subst this
            rw [awu 202 7]
            try simp only [awu 202 13, pe202, xs, i_load, i_loadR, i_inc, lg, lp, true_and, and_true, List.length_cons, List.length_nil, Nat.reduceAdd, Nat.reduceLeDiff, Nat.zero_le, Int.toNat_natCast, natLit, k0, wk ()]
            refine ⟨fun _ => ih (k + 1) s2 R m _ _ (by omega) (by omega) ⟨hR.1, hR.2.1, hR.2.2.1, hR.2.2.2.1, hR.2.2.2.2.1, hR.2.2.2.2.2.1, fun i j hij hi hj t ht => ?_⟩, fun h => absurd (Int.le_refl _) h⟩
            exact hR.2.2.2.2.2.2 i j (by omega) hi hj t ht
          | succ mm ihl =>
            intro l s2 R m u6 g1 g2 hR
            obtain ⟨r1, r2, r3, r4, r5, r6, r7⟩ := hR
            have hm : m ≤ M.1 := by rw [r3]; exact cn_le _
            have wl' : Unit → wr ((l : Int) + 1) = ((l + 1 : Nat) : Int) := fun _ => by rw [wr_id (by omega) (by omega)]; omega
            have wm : Unit → wr ((m : Int) + 1) = ((m + 1 : Nat) : Int) := fun _ => by rw [wr_id (by omega) (by omega)]; omega
            have f1 := fr s2 r1
            have f2 := f1.1
            obtain ⟨s, hs, es, hsr, hsR⟩ := r4 k g2
            have hmc := hM.2.1
            rw [awu 202 7]
            try simp only [awu 202 8, pe202, xs, i_load, i_loadR, i_inc, lg, lp, true_and, and_true, List.length_cons, List.length_nil, Nat.reduceAdd, Nat.reduceLeDiff, Nat.zero_le, Int.toNat_natCast, natLit, k0, k84, l84, es]
            refine ⟨fun h => by omega, fun _ => ⟨by omega, ?_⟩⟩
            refine sp_mcfollow ho f1 hW (show l < 4 by omega) ?_
            dsimp only
            try simp only [awu 202 8, pe202, xs, i_load, i_loadR, i_inc, lg, lp, true_and, and_true, List.length_cons, List.length_nil, Nat.reduceAdd, Nat.reduceLeDiff, Nat.zero_le, Int.toNat_natCast, natLit, k0]
            refine sp_mchas ho f2 hmc ?_
            dsimp only
            rcases fo_r (s := (s : Int)) hW (show l < a by omega) ha with z | z
            · rw [z, if_neg (by omega)]
              try simp only [awu 202 8, awu 202 12, pe202, xs, i_load, i_loadR, i_inc, lg, lp, true_and, and_true, List.length_cons, List.length_nil, Nat.reduceAdd, Nat.reduceLeDiff, Nat.zero_le, Int.toNat_natCast, natLit, k0, wl' ()]
              refine ⟨fun _ => ihl (l + 1) s2 R m _ (by omega) g2 ⟨r1, r2, r3, r4, r5, r6, fun i j hij hi hj t ht => ?_⟩, fun h => absurd (by trivial) h⟩
              by_cases zz : i = k ∧ j = l
              · obtain ⟨rfl, rfl⟩ := zz
                rw [es, z] at ht
                omega
              · exact r7 i j (by omega) hi hj t ht
            · obtain ⟨t, ht⟩ : ∃ t : Nat, fo M (s : Int) l = t := ⟨(fo M (s : Int) l).toNat, by omega⟩
              have htN : t < M.1 := by omega
              rw [ht, if_pos (by omega)]
              have e82 := r2 t (by omega)
              by_cases hRt : R t = true
              · rw [if_pos hRt] at e82
                try simp only [awu 202 8, awu 202 9, awu 202 12, pe202, xs, i_load, i_loadR, i_inc, lg, lp, true_and, and_true, List.length_cons, List.length_nil, Nat.reduceAdd, Nat.reduceLeDiff, Nat.zero_le, Int.toNat_natCast, natLit, k0, k82, l82, e82, wl' ()]
                refine ⟨fun h => absurd h (by decide), fun _ => ⟨by omega, fun _ => ?_, fun h => absurd (by decide) h⟩⟩
                refine ihl (l + 1) s2 R m _ (by omega) g2 ⟨r1, r2, r3, r4, r5, r6, fun i j hij hi hj t' ht' => ?_⟩
                by_cases zz : i = k ∧ j = l
                · obtain ⟨rfl, rfl⟩ := zz
                  rw [es, ht] at ht'
                  have : t = t' := by omega
                  subst this
                  exact hRt
                · exact r7 i j (by omega) hi hj t' ht'
              · rw [if_neg hRt] at e82
                have hcn := cn_updB htN (show R t = false by simpa using hRt)
                have hcn2 := cn_le (p := updB R t true) M.1
                try simp only [awu 202 8, awu 202 9, awu 202 10, awu 202 11, awu 202 12, pe202, xs, i_load, i_loadR, i_inc, lg, lp, true_and, and_true, List.length_cons, List.length_nil, Nat.reduceAdd, Nat.reduceLeDiff, Nat.zero_le, Int.toNat_natCast, natLit, k0, k82, l82, k84, l84, e82, wl' (), wm (), ok01_1]
                refine ⟨fun h => absurd h (by decide), fun _ => ⟨by omega, fun h => absurd (by trivial) h, fun _ => ⟨fun h => by omega, fun _ => ⟨by omega, by omega, ?_⟩⟩⟩⟩
                refine ihl (l + 1) _ (updB R t true) (m + 1) _ (by omega) (by omega) ⟨fun q q1 q2 => ?_, fun x hx => ?_, by omega, fun i hi => ?_, fun x hx hxR => ?_, ?_, fun i j hij hi hj t' ht' => ?_⟩
                · rw [up2_ne q2, up2_ne q1]
                  exact r1 q q1 q2
                · rw [up2_ne (by decide), up2_self]
                  by_cases zx : x = t
                  · rw [zx, upf_s, updB_s]
                    rfl
                  · rw [upf_n zx, updB_n zx]
                    exact r2 x hx
                · rw [up2_self]
                  by_cases zi : i = m
                  · rw [zi, upf_s]
                    exact ⟨t, htN, rfl, by rw [← ht]; exact Rc_s hsr (by omega), updB_s⟩
                  · rw [upf_n zi, up2_ne (by decide)]
                    obtain ⟨x, x1, x2, x3, x4⟩ := r4 i (by omega)
                    exact ⟨x, x1, x2, x3, updB_t x4⟩
                · by_cases zx : x = t
                  · refine ⟨m, by omega, ?_⟩
                    rw [up2_self, upf_s, zx]
                  · rw [updB_n zx] at hxR
                    obtain ⟨i, hi, he⟩ := r5 x hx hxR
                    refine ⟨i, by omega, ?_⟩
                    rw [up2_self, upf_n (by omega), up2_ne (by decide)]
                    exact he
                · exact updB_t r6
                · rw [up2_self] at ht'
                  by_cases zi : i = m
                  · omega
                  · rw [upf_n zi, up2_ne (by decide)] at ht'
                    by_cases zt : t' = t
                    · rw [zt, updB_s]
                    · rw [updB_n zt]
                      by_cases zz : i = k ∧ j = l
                      · obtain ⟨rfl, rfl⟩ := zz
                        rw [es, ht] at ht'
                        omega
                      · exact r7 i j (by omega) (by omega) hj t' ht'
        obtain ⟨r1, r2, r3, r4, r5, r6, r7⟩ := id hR
        rw [awu 202 4]
        try simp only [awu 202 5, awu 202 6, pe202, xs, i_load, i_loadR, i_inc, lg, lp, true_and, and_true, List.length_cons, List.length_nil, Nat.reduceAdd, Nat.reduceLeDiff, Nat.zero_le, Int.toNat_natCast, natLit, k0]
        refine ⟨fun h => by omega, fun _ => ⟨fun h => by omega, fun _ => keyl a 0 s2 R m _ (by omega) (by omega) hR⟩⟩
  have fill : ∀ mm k : Nat, ∀ (s2 : St), k + mm = 201 → (∀ q, q ≠ 82 → s2 q = st q) → (∀ s, s < k → s2 82 s = 0) → AW (P 202) Q (MS (d + 2)) 0 (fun _ => 0) 1 [vr 80, vr o, vi a, vi k, none, none, none] [] s2 := by
    intro mm
    induction mm with
    | zero =>
      intro k s2 g1 g2 g3
      have : k = 201 := by omega
      subst this
      rw [awu 202 1]
      try simp only [awu 202 3, pe202, xs, i_load, i_loadR, i_inc, lg, lp, true_and, and_true, List.length_cons, List.length_nil, Nat.reduceAdd, Nat.reduceLeDiff, Nat.zero_le, Int.toNat_natCast, natLit, k0, k82, l82, k84, l84, ok01_1, Int.toNat_zero]
      refine ⟨fun _ => ⟨by omega, by omega, ?_⟩, fun h => absurd (by decide) h⟩
      have hc1 : cn (fun s => s == 0) M.1 = 1 := by
        have : ∀ n, 0 < n → cn (fun s => s == 0) n = 1 := by
          intro n
          induction n with
          | zero => intro h; omega
          | succ n ih =>
            intro _
            rw [cn_s]
            rcases Nat.eq_zero_or_pos n with z | z
            · subst z
              rfl
            · rw [ih z, if_neg (by simp; omega)]
        exact this _ h0
      refine key M.1 0 _ (fun s => s == 0) 1 none none (by omega) (by omega) ⟨fun q q1 q2 => ?_, fun x hx => ?_, hc1.symm, fun i hi => ?_, fun x hx hxR => ?_, rfl, fun i j hij hi hj t ht => by omega⟩
      · rw [up2_ne q2, up2_ne q1]
        exact g2 q q1
      · rw [up2_ne (by decide), up2_self]
        by_cases zx : x = 0
        · rw [zx, upf_s]
          rfl
        · rw [upf_n zx, g3 x (by omega), if_neg (by simpa using zx)]
      · have : i = 0 := by omega
        subst this
        refine ⟨0, h0, ?_, Rc_0, rfl⟩
        rw [up2_self, upf_s]
        rfl
      · have : x = 0 := by simpa using hxR
        subst this
        refine ⟨0, by decide, ?_⟩
        rw [up2_self, upf_s]
        rfl
    | succ mm ih =>
      intro k s2 g1 g2 g3
      have wk : Unit → wr ((k : Int) + 1) = ((k + 1 : Nat) : Int) := fun _ => by rw [wr_id (by omega) (by omega)]; omega
      rw [awu 202 1]
      try simp only [awu 202 2, pe202, xs, i_load, i_loadR, i_inc, lg, lp, true_and, and_true, List.length_cons, List.length_nil, Nat.reduceAdd, Nat.reduceLeDiff, Nat.zero_le, Int.toNat_natCast, natLit, k0, k82, l82, wk (), ok01_0]
      refine ⟨fun h => by omega, fun _ => ⟨by omega, ih (k + 1) _ (by omega) (fun q q1 => ?_) (fun s hs => ?_)⟩⟩
      · rw [up2_ne q1]
        exact g2 q q1
      · rw [up2_self]
        by_cases zs : s = k
        · rw [zs, upf_s]
        · rw [upf_n zs]
          exact g3 s (by omega)
  refine MS_v [vr 80, vr o, vi a, none, none, none, none] rfl rfl rfl rfl ?_
  try simp only [awu 202 0, pe202, xs, i_load, i_loadR, i_inc, lg, lp, true_and, and_true, List.length_cons, List.length_nil, Nat.reduceAdd, Nat.reduceLeDiff, Nat.zero_le, Int.toNat_natCast, natLit, k0]
  exact fill 201 0 st (by omega) (fun _ _ => rfl) (fun s hs => by omega)
def ld (M : MC) (a : Nat) (U : Nat → Bool) (s : Int) : Bool := inM M s || orL (fun l => decide (0 ≤ fo M s l) && U (fo M s l).toNat) a
theorem ld_d {M : MC} {a : Nat} {U : Nat → Bool} {s : Int} : ld M a U s = true ↔ inM M s = true ∨ ∃ l, l < a ∧ 0 ≤ fo M s l ∧ U (fo M s l).toNat = true := by
  unfold ld
  rw [Bool.or_eq_true, orL_d]
  simp only [Bool.and_eq_true, decide_eq_true_iff]
theorem sp_leads {d o cap a : Nat} {s : Int} {st : St} {M : MC} {U : Nat → Bool} {Q : Rn} (ho : isMc o cap) (hM : MCc st o cap M) (hN : M.1 ≤ 200) (hW : MW a M) (ha : a ≤ 4) (hU : ∀ s, s < 201 → st 83 s = if U s then 1 else 0)
    (hq : Q (vi (if ld M a U s then 1 else 0)) st) : MS (d + 3) 201 [vr 80, vr o, vi a, vi s] st Q := by
  have k0 : kl 80 = 3 := rfl
  have k83 : kl 83 = 52 := rfl
  have l83 : len 83 = 201 := rfl
  refine MS_v [vr 80, vr o, vi a, vi s, none, none] rfl rfl rfl rfl ?_
  try simp only [awu 201 0, pe201, xs, i_load, i_loadR, i_inc, lg, lp, true_and, and_true, List.length_cons, List.length_nil, Nat.reduceAdd, Nat.reduceLeDiff, Nat.zero_le, Int.toNat_natCast, natLit, k0]
  refine sp_mcin ho hM ?_
  dsimp only
  by_cases hi : inM M s = true
  · rw [if_pos hi]
    rw [if_pos (ld_d.mpr (Or.inl hi))] at hq
    try simp only [awu 201 0, awu 201 1, pe201, xs, i_load, i_loadR, i_inc, lg, lp, true_and, and_true, List.length_cons, List.length_nil, Nat.reduceAdd, Nat.reduceLeDiff, Nat.zero_le, Int.toNat_natCast, natLit, k0, ok01_1]
    exact ⟨fun h => absurd h (by decide), fun _ => hq⟩
  · rw [if_neg hi]
    have key : ∀ mm l : Nat, ∀ u5 : V, l + mm = a → (∀ j, j < l → ¬ (0 ≤ fo M s j ∧ U (fo M s j).toNat = true)) → AW (P 201) Q (MS (d + 2)) 0 (fun _ => 0) 3 [vr 80, vr o, vi a, vi s, vi l, u5] [] st := by
      intro mm
      induction mm with
      | zero =>
        intro l u5 g1 g2
        have : l = a := by omega
        subst this
        rw [if_neg (fun h => by
          rcases ld_d.mp h with z | ⟨l, z1, z2⟩
          · exact hi z
          · exact g2 l z1 z2)] at hq
        rw [awu 201 3]
        try simp only [awu 201 8, pe201, xs, i_load, i_loadR, i_inc, lg, lp, true_and, and_true, List.length_cons, List.length_nil, Nat.reduceAdd, Nat.reduceLeDiff, Nat.zero_le, Int.toNat_natCast, natLit, k0, ok01_0]
        exact ⟨fun _ => hq, fun h => absurd (Int.le_refl _) h⟩
      | succ mm ih =>
        intro l u5 g1 g2
        have wl' : Unit → wr ((l : Int) + 1) = ((l + 1 : Nat) : Int) := fun _ => by rw [wr_id (by omega) (by omega)]; omega
        have hno : ¬ (0 ≤ fo M s l ∧ U (fo M s l).toNat = true) → AW (P 201) Q (MS (d + 2)) 0 (fun _ => 0) 3 [vr 80, vr o, vi a, vi s, vi (l + 1 : Nat), vi (fo M s l)] [] st := fun hn => ih (l + 1) _ (by omega) (fun j hj => by
          by_cases z : j = l
          · subst z
            exact hn
          · exact g2 j (by omega))
        rw [awu 201 3]
        try simp only [awu 201 4, pe201, xs, i_load, i_loadR, i_inc, lg, lp, true_and, and_true, List.length_cons, List.length_nil, Nat.reduceAdd, Nat.reduceLeDiff, Nat.zero_le, Int.toNat_natCast, natLit, k0]
        refine ⟨fun h => by omega, fun _ => ?_⟩
        refine sp_mcfollow ho hM hW (show l < 4 by omega) ?_
        dsimp only
        try simp only [awu 201 4, pe201, xs, i_load, i_loadR, i_inc, lg, lp, true_and, and_true, List.length_cons, List.length_nil, Nat.reduceAdd, Nat.reduceLeDiff, Nat.zero_le, Int.toNat_natCast, natLit, k0]
        refine sp_mchas ho hM.1 hM.2.1 ?_
        dsimp only
        rcases fo_r (s := s) hW (show l < a by omega) ha with z | z
        · have hno := hno (by omega)
          rw [z] at hno ⊢
          rw [if_neg (by omega)]
          try simp only [awu 201 4, awu 201 7, pe201, xs, i_load, i_loadR, i_inc, lg, lp, true_and, and_true, List.length_cons, List.length_nil, Nat.reduceAdd, Nat.reduceLeDiff, Nat.zero_le, Int.toNat_natCast, natLit, k0, wl' ()]
          exact ⟨fun _ => hno, fun h => absurd (by trivial) h⟩
        · obtain ⟨t, ht⟩ : ∃ t : Nat, fo M s l = t := ⟨(fo M s l).toNat, by omega⟩
          have e83 := hU t (by omega)
          by_cases hUt : U t = true
          · rw [if_pos (ld_d.mpr (Or.inr ⟨l, by omega, by omega, by rw [ht, Int.toNat_natCast]; exact hUt⟩))] at hq
            rw [ht, if_pos (by omega)]
            rw [if_pos hUt] at e83
            try simp only [awu 201 4, awu 201 5, awu 201 6, pe201, xs, i_load, i_loadR, i_inc, lg, lp, true_and, and_true, List.length_cons, List.length_nil, Nat.reduceAdd, Nat.reduceLeDiff, Nat.zero_le, Int.toNat_natCast, natLit, k0, k83, l83, e83, ok01_1]
            exact ⟨fun h => absurd h (by decide), fun _ => ⟨by omega, fun h => absurd h (by decide), fun _ => hq⟩⟩
          · have hno := hno (by rw [ht, Int.toNat_natCast]; exact fun h => hUt h.2)
            rw [ht] at hno ⊢
            rw [if_pos (by omega)]
            rw [if_neg hUt] at e83
            try simp only [awu 201 4, awu 201 5, awu 201 7, pe201, xs, i_load, i_loadR, i_inc, lg, lp, true_and, and_true, List.length_cons, List.length_nil, Nat.reduceAdd, Nat.reduceLeDiff, Nat.zero_le, Int.toNat_natCast, natLit, k0, k83, l83, e83, wl' ()]
            exact ⟨fun h => absurd h (by decide), fun _ => ⟨by omega, fun _ => hno, fun h => absurd (by trivial) h⟩⟩
    try simp only [awu 201 0, awu 201 2, pe201, xs, i_load, i_loadR, i_inc, lg, lp, true_and, and_true, List.length_cons, List.length_nil, Nat.reduceAdd, Nat.reduceLeDiff, Nat.zero_le, Int.toNat_natCast, natLit, k0]
    exact ⟨fun _ => key a 0 none (by omega) (fun j hj => by omega), fun h => absurd (by trivial) h⟩
set_option maxHeartbeats 1000000 in
theorem sp_useful {d o cap a : Nat} {st : St} {M : MC} {Q : Rn} (ho : isMc o cap) (ho2 : o + 2 < 80) (hM : MCc st o cap M) (hN : M.1 ≤ 200) (h0 : 0 < M.1) (hW : MW a M) (ha : a ≤ 4)
    (hq : ∀ (st' : St), (∀ s, s < M.1 → st' 83 s = if usB M a (s : Int) then 1 else 0) → (∀ q, q ≠ 82 → q ≠ 83 → q ≠ 84 → st' q = st q) → Q (vi (cn (fun s => usB M a (s : Int)) M.1 : Nat)) st') : MS (d + 4) 200 [vr 80, vr o, vi a] st Q := by
  have k0 : kl 80 = 3 := rfl
  have k83 : kl 83 = 52 := rfl
  have l83 : len 83 = 201 := rfl
  have k84 : kl 84 = 50 := rfl
  have l84 : len 84 = 201 := rfl
  refine MS_v [vr 80, vr o, vi a, none, none, none, none, none] rfl rfl rfl rfl ?_
  try simp only [awu 200 0, pe200, xs, i_load, i_loadR, i_inc, lg, lp, true_and, and_true, List.length_cons, List.length_nil, Nat.reduceAdd, Nat.reduceLeDiff, Nat.zero_le, Int.toNat_natCast, natLit, k0]
  refine sp_reach ho ho2 hM hN h0 hW ha (fun s1 m hm hr1 hr2 hf1 => ?_)
  dsimp only
  have fr : ∀ s2 : St, (∀ q, q ≠ 83 → s2 q = s1 q) → MCc s2 o cap M := fun s2 h => MCc_congr hM (fun q h1 h2 => by rw [h q (by omega), hf1 q (by omega) (by omega)])
  -- the end
  have fin : ∀ (s2 : St) (U : Nat → Bool) (t : Nat) (u7 : V), (∀ q, q ≠ 83 → s2 q = s1 q) → (∀ s, s < 201 → s2 83 s = if U s then 1 else 0) → (∀ s, U s = true → s < M.1 ∧ usB M a (s : Int) = true) → (∀ i, i < m → ∀ s : Nat, s1 84 i = s → ld M a U (s : Int) = true → U s = true) → Q (vi (cn U M.1 : Nat)) s2 := by
    intro s2 U t u7 g1 g2 g3 g4
    have hU : ∀ s : Nat, s < M.1 → U s = usB M a (s : Int) := by
      intro s hs
      cases e : usB M a (s : Int) with
      | false =>
        cases e2 : U s with
        | false => rfl
        | true =>
          have := (g3 s e2).2
          rw [e] at this
          cases this
      | true =>
        obtain ⟨x1, x2⟩ := usB_d.mp e
        have : Rc M a (s : Int) → ∃ t : Nat, (s : Int) = t ∧ t < M.1 ∧ U t = true := Ck_of (M := M) (a := a) (R := fun s => Rc M a s → ∃ t : Nat, s = t ∧ t < M.1 ∧ U t = true) (fun s hs hr => by
          have hb : 0 ≤ s ∧ s < M.1 := by
            unfold inM at hs
            rw [Bool.and_eq_true, decide_eq_true_iff] at hs
            exact hs.1
          obtain ⟨n, rfl⟩ : ∃ n : Nat, s = n := ⟨s.toNat, by omega⟩
          obtain ⟨i, hi, he⟩ := hr2 n (by omega) hr
          exact ⟨n, rfl, by omega, g4 i hi n he (ld_d.mpr (Or.inl hs))⟩) (fun s l hl hR hr => by
          obtain ⟨t, t1, t2, t3⟩ := hR (Rc_s hr hl)
          rcases Rc_b hW ha h0 hr with z | z
          · rw [z, fo_n] at t1
            omega
          · obtain ⟨n, rfl⟩ : ∃ n : Nat, s = n := ⟨s.toNat, by omega⟩
            obtain ⟨i, hi, he⟩ := hr2 n (by omega) hr
            exact ⟨n, rfl, by omega, g4 i hi n he (ld_d.mpr (Or.inr ⟨l, hl, by omega, by rw [t1, Int.toNat_natCast]; exact t3⟩))⟩) x2
        obtain ⟨t, t1, _, t3⟩ := this x1
        have : s = t := by omega
        subst this
        exact t3
    rw [cn_congr (p := U) (q := fun s => usB M a (s : Int)) (fun i hi => hU i hi)]
    refine hq s2 (fun s hs => ?_) (fun q q1 q2 q3 => ?_)
    · rw [g2 s (by omega), hU s hs]
    · rw [g1 q q2, hf1 q q1 q3]
  have turn : ∀ mm t : Nat, ∀ (s2 : St) (U : Nat → Bool) (mo : Int) (u7 : V), t + mm = 202 → (∀ q, q ≠ 83 → s2 q = s1 q) → (∀ s, s < 201 → s2 83 s = if U s then 1 else 0) → (∀ s, U s = true → s < M.1 ∧ usB M a (s : Int) = true) → ((mo = 0 ∧ ∀ i, i < m → ∀ s : Nat, s1 84 i = s → ld M a U (s : Int) = true → U s = true) ∨ (mo = 1 ∧ t ≤ cn U M.1)) → AW (P 200) Q (MS (d + 3)) 0 (fun _ => 0) 4 [vr 80, vr o, vi a, vi m, vi (cn U M.1 : Nat), vi mo, vi t, u7] [] s2 := by
    intro mm
    induction mm with
    | zero =>
      intro t s2 U mo u7 g1 g2 g3 g4 g5
      have := cn_le (p := U) M.1
      rcases g5 with ⟨rfl, g5⟩ | ⟨rfl, g5⟩
      · rw [awu 200 4]
        try simp only [awu 200 13, pe200, xs, i_load, i_loadR, i_inc, lg, lp, true_and, and_true, List.length_cons, List.length_nil, Nat.reduceAdd, Nat.reduceLeDiff, Nat.zero_le, Int.toNat_natCast, natLit, k0]
        exact ⟨fun _ => fin s2 U t u7 g2 g3 g4 g5, fun h => absurd (by omega) h⟩
      · omega
    | succ mm ih =>
      intro t s2 U mo u7 g1 g2 g3 g4 g5
      rcases g5 with ⟨rfl, g5⟩ | ⟨rfl, g5⟩
      · rw [awu 200 4]
        try simp only [awu 200 5, awu 200 13, pe200, xs, i_load, i_loadR, i_inc, lg, lp, true_and, and_true, List.length_cons, List.length_nil, Nat.reduceAdd, Nat.reduceLeDiff, Nat.zero_le, Int.toNat_natCast, natLit, k0]
        exact ⟨fun h => by omega, fun _ => ⟨fun _ => fin s2 U t u7 g2 g3 g4 g5, fun h => absurd (by trivial) h⟩⟩
      · have wt : Unit → wr ((t : Int) + 1) = ((t + 1 : Nat) : Int) := fun _ => by rw [wr_id (by omega) (by omega)]; omega
        have wm : Unit → wr ((m : Int) - 1) = ((m : Int) - 1) := fun _ => by rw [wr_id (by omega) (by omega)]
        have inner : ∀ j : Nat, ∀ (s2 : St) (U : Nat → Bool) (mo : Int), j ≤ m → (∀ q, q ≠ 83 → s2 q = s1 q) → (∀ s, s < 201 → s2 83 s = if U s then 1 else 0) → (∀ s, U s = true → s < M.1 ∧ usB M a (s : Int) = true) → t ≤ cn U M.1 → ((mo = 0 ∧ ∀ i, j ≤ i → i < m → ∀ s : Nat, s1 84 i = s → ld M a U (s : Int) = true → U s = true) ∨ (mo = 1 ∧ t + 1 ≤ cn U M.1)) → AW (P 200) Q (MS (d + 3)) 0 (fun _ => 0) 7 [vr 80, vr o, vi a, vi m, vi (cn U M.1 : Nat), vi mo, vi t, vi ((j : Int) - 1)] [] s2 := by
          intro j
          induction j with
          | zero =>
            intro s2 U mo x1 x2 x3 x4 x5 x6
            rw [awu 200 7]
            try simp only [awu 200 12, pe200, xs, i_load, i_loadR, i_inc, lg, lp, true_and, and_true, List.length_cons, List.length_nil, Nat.reduceAdd, Nat.reduceLeDiff, Nat.zero_le, Int.toNat_natCast, natLit, k0, wt ()]
            refine ⟨fun _ => ih (t + 1) s2 U mo _ (by omega) x2 x3 x4 ?_, fun h => absurd (by decide) h⟩
            rcases x6 with ⟨y1, y2⟩ | y
            · exact Or.inl ⟨y1, fun i hi => y2 i (by omega) hi⟩
            · exact Or.inr y
          | succ j ihj =>
            intro s2 U mo x1 x2 x3 x4 x5 x6
            obtain ⟨s, hs, es, hsr⟩ := hr1 j (by omega)
            have es2 : s2 84 j = (s : Nat) := by rw [x2 84 (by decide)]; exact es
            have e83 := x3 s (by omega)
            have wj : Unit → wr ((j : Int) + -1) = ((j : Int) - 1) := fun _ => by rw [wr_id (by omega) (by omega)]; omega
            have ej : ((j + 1 : Nat) : Int) - 1 = (j : Nat) := by omega
            have hle := cn_le (p := U) M.1
            have wc : Unit → wr (((cn U M.1 : Nat) : Int) + 1) = ((cn U M.1 + 1 : Nat) : Int) := fun _ => by rw [wr_id (by omega) (by omega)]; omega
            rw [ej]
            by_cases hUs : U s = true
            · rw [if_pos hUs] at e83
              rw [awu 200 7]
              try simp only [awu 200 8, awu 200 11, pe200, xs, i_load, i_loadR, i_inc, lg, lp, true_and, and_true, List.length_cons, List.length_nil, Nat.reduceAdd, Nat.reduceLeDiff, Nat.zero_le, Int.toNat_natCast, natLit, k0, k83, l83, k84, l84, es2, e83, wj ()]
              refine ⟨fun h => by omega, fun _ => ⟨by omega, by omega, fun _ => ?_, fun h => absurd (by decide) h⟩⟩
              refine ihj s2 U mo (by omega) x2 x3 x4 x5 ?_
              rcases x6 with ⟨y1, y2⟩ | y
              · refine Or.inl ⟨y1, fun i i1 i2 s' e' hl => ?_⟩
                by_cases z : i = j
                · subst z
                  have : s = s' := by rw [es] at e'; omega
                  subst this
                  exact hUs
                · exact y2 i (by omega) i2 s' e' hl
              · exact Or.inr y
            · rw [if_neg hUs] at e83
              rw [awu 200 7]
              try simp only [awu 200 8, awu 200 9, pe200, xs, i_load, i_loadR, i_inc, lg, lp, true_and, and_true, List.length_cons, List.length_nil, Nat.reduceAdd, Nat.reduceLeDiff, Nat.zero_le, Int.toNat_natCast, natLit, k0, k83, l83, k84, l84, es2, e83]
              refine ⟨fun h => by omega, fun _ => ⟨by omega, by omega, fun h => absurd (by trivial) h, fun _ => ⟨by omega, ?_⟩⟩⟩
              refine sp_leads ho (fr s2 x2) hN hW ha x3 ?_
              dsimp only
              by_cases hld : ld M a U (s : Int) = true
              · rw [if_pos hld]
                have hus : usB M a (s : Int) = true := by
                  rw [usB_d]
                  refine ⟨hsr, ?_⟩
                  rcases ld_d.mp hld with z | ⟨l, z1, z2, z3⟩
                  · exact Ck_in z
                  · have := (usB_d.mp (x4 _ z3).2).2
                    rw [show (((fo M (s : Int) l).toNat : Nat) : Int) = fo M (s : Int) l by omega] at this
                    exact Ck_s z1 this
                have hcn := cn_updB hs (show U s = false by simpa using hUs)
                try simp only [awu 200 9, awu 200 10, awu 200 11, pe200, xs, i_load, i_loadR, i_inc, lg, lp, true_and, and_true, List.length_cons, List.length_nil, Nat.reduceAdd, Nat.reduceLeDiff, Nat.zero_le, Int.toNat_natCast, natLit, k0, k83, l83, k84, l84, es2, wj (), wc (), ok01_1]
                refine ⟨fun h => absurd h (by decide), fun _ => ⟨by omega, by omega, ?_⟩⟩
                rw [hcn]
                refine ihj _ (updB U s true) 1 (by omega) (fun q q1 => ?_) (fun x hx => ?_) (fun x hx => ?_) (by omega) (Or.inr ⟨rfl, by omega⟩)
                · rw [up2_ne q1]
                  exact x2 q q1
                · rw [up2_self]
                  by_cases zx : x = s
                  · rw [zx, upf_s, updB_s]
                    rfl
                  · rw [upf_n zx, updB_n zx]
                    exact x3 x hx
                · by_cases zx : x = s
                  · rw [zx]
                    exact ⟨hs, hus⟩
                  · rw [updB_n zx] at hx
                    exact x4 x hx
              · rw [if_neg hld]
                try simp only [awu 200 9, awu 200 11, pe200, xs, i_load, i_loadR, i_inc, lg, lp, true_and, and_true, List.length_cons, List.length_nil, Nat.reduceAdd, Nat.reduceLeDiff, Nat.zero_le, Int.toNat_natCast, natLit, k0, wj ()]
                refine ⟨fun _ => ?_, fun h => absurd (by trivial) h⟩
                refine ihj s2 U mo (by omega) x2 x3 x4 x5 ?_
                rcases x6 with ⟨y1, y2⟩ | y
                · refine Or.inl ⟨y1, fun i i1 i2 s' e' hl => ?_⟩
                  by_cases z : i = j
                  · subst z
                    have : s = s' := by rw [es] at e'; omega
                    subst this
                    exact absurd hl hld
                  · exact y2 i (by omega) i2 s' e' hl
                · exact Or.inr y
        rw [awu 200 4]
        try simp only [awu 200 5, awu 200 6, pe200, xs, i_load, i_loadR, i_inc, lg, lp, true_and, and_true, List.length_cons, List.length_nil, Nat.reduceAdd, Nat.reduceLeDiff, Nat.zero_le, Int.toNat_natCast, natLit, k0, wm ()]
        refine ⟨fun h => by omega, fun _ => ⟨fun h => absurd h (by decide), fun _ => ?_⟩⟩
        exact inner m s2 U 0 (Nat.le_refl _) g2 g3 g4 g5 (Or.inl ⟨rfl, fun i i1 i2 => by omega⟩)
  have fill : ∀ mm k : Nat, ∀ (s2 : St), k + mm = 201 → (∀ q, q ≠ 83 → s2 q = s1 q) → (∀ s, s < k → s2 83 s = 0) → AW (P 200) Q (MS (d + 3)) 0 (fun _ => 0) 1 [vr 80, vr o, vi a, vi m, vi 0, vi k, none, none] [] s2 := by
    intro mm
    induction mm with
    | zero =>
      intro k s2 g1 g2 g3
      have : k = 201 := by omega
      subst this
      have hc0 : cn (fun _ => false) M.1 = 0 := cn_0 (fun _ _ => rfl)
      have := turn 202 0 s2 (fun _ => false) 1 none (by omega) g2 (fun s hs => g3 s hs) (fun s hs => by cases hs) (Or.inr ⟨rfl, by omega⟩)
      rw [hc0] at this
      rw [awu 200 1]
      try simp only [awu 200 3, pe200, xs, i_load, i_loadR, i_inc, lg, lp, true_and, and_true, List.length_cons, List.length_nil, Nat.reduceAdd, Nat.reduceLeDiff, Nat.zero_le, Int.toNat_natCast, natLit, k0]
      exact ⟨fun _ => this, fun h => absurd (by decide) h⟩
    | succ mm ih =>
      intro k s2 g1 g2 g3
      have wk : Unit → wr ((k : Int) + 1) = ((k + 1 : Nat) : Int) := fun _ => by rw [wr_id (by omega) (by omega)]; omega
      rw [awu 200 1]
      try simp only [awu 200 2, pe200, xs, i_load, i_loadR, i_inc, lg, lp, true_and, and_true, List.length_cons, List.length_nil, Nat.reduceAdd, Nat.reduceLeDiff, Nat.zero_le, Int.toNat_natCast, natLit, k0, k83, l83, wk (), ok01_0]
      refine ⟨fun h => by omega, fun _ => ⟨by omega, ih (k + 1) _ (by omega) (fun q q1 => ?_) (fun s hs => ?_)⟩⟩
      · rw [up2_ne q1]
        exact g2 q q1
      · rw [up2_self]
        by_cases zs : s = k
        · rw [zs, upf_s]
        · rw [upf_n zs]
          exact g3 s (by omega)
  try simp only [awu 200 0, pe200, xs, i_load, i_loadR, i_inc, lg, lp, true_and, and_true, List.length_cons, List.length_nil, Nat.reduceAdd, Nat.reduceLeDiff, Nat.zero_le, Int.toNat_natCast, natLit, k0]
  exact fill 201 0 s1 (by omega) (fun _ _ => rfl) (fun s hs => by omega)
