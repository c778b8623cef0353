/-! the least machine is told: the class -/
theorem TT_of {M : MC} {a n : Nat} {k : Nat → Nat} {T : MC} (ha : a ≤ 4) (hS : SH M a n) (hK : KD M a n k) (h1 : T.1 = cn (isF (fun _ => true) k) n) (h2 : ∀ t, t < n → isF (fun _ => true) k t = true → (T.2.1 (k t) = if inM M (zz M a n t) then 1 else 2) ∧ ∀ l, l < 4 → T.2.2 (4 * k t + l) = if l < a then (k (dl M a n t l) : Int) else -1) : TT M a T := by
  have fx : ∀ j, j < T.1 → ∃ s, s < n ∧ isF (fun _ => true) k s = true ∧ k s = j ∧ ∀ t, t < s → k t < j := fun j hj => FN_ix hK.1 (by omega)
  have hf : ∀ j, j < T.1 → (fun j => (fs (fun s => isF (fun _ => true) k s && k s == j) n).getD 0) j < n ∧ isF (fun _ => true) k ((fun j => (fs (fun s => isF (fun _ => true) k s && k s == j) n).getD 0) j) = true ∧ k ((fun j => (fs (fun s => isF (fun _ => true) k s && k s == j) n).getD 0) j) = j ∧ ∀ t, t < (fun j => (fs (fun s => isF (fun _ => true) k s && k s == j) n).getD 0) j → k t < j := by
    intro j hj
    obtain ⟨s, s1, s2, s3, s4⟩ := fx j hj
    have : fs (fun s => isF (fun _ => true) k s && k s == j) n = some s := by
      rw [fs_some]
      refine ⟨s1, by rw [s2, s3]; simp, fun t ht => ?_⟩
      have := s4 t ht
      rw [beq_eq_false_iff_ne.mpr (by omega), Bool.and_false]
    dsimp only
    rw [this]
    exact ⟨s1, s2, s3, s4⟩
  generalize (fun j => (fs (fun s => isF (fun _ => true) k s && k s == j) n).getD 0) = f at hf
  have hpos : 0 < T.1 := by
    rw [h1]
    exact cn_pos (b := 0) hS.1.1 (isF_d.mpr ⟨rfl, fun t ht => by omega⟩)
  have f0 : f 0 = 0 := by
    obtain ⟨_, _, _, a4⟩ := hf 0 hpos
    rcases Nat.eq_zero_or_pos (f 0) with z | z
    · exact z
    · have := a4 0 z
      omega
  have fm : ∀ i j, i < T.1 → j < T.1 → i < j → f i < f j := by
    intro i j hi hj hij
    obtain ⟨a1, a2, a3, a4⟩ := hf i hi
    obtain ⟨b1, b2, b3, b4⟩ := hf j hj
    rcases Nat.lt_or_ge (f i) (f j) with z | z
    · exact z
    · by_cases e : f i = f j
      · rw [e] at a3
        omega
      · have := a4 (f j) (by omega)
        omega
  have ka : ∀ j l, j < T.1 → l < a → T.2.2 (4 * j + l) = (k (dl M a n (f j) l) : Nat) := by
    intro j l hj hl
    obtain ⟨a1, a2, a3, a4⟩ := hf j hj
    have := (h2 (f j) a1 a2).2 l (by omega)
    rw [a3, if_pos hl] at this
    exact this
  refine ⟨fun j => zz M a n (f j), hpos, by show zz M a n (f 0) = 0; rw [f0]; exact hS.2.1, fun j hj => ?_, fun j l hj hl => ?_, fun i j hi hj e => ?_, fun j hj0 hj => ?_, fun j l hj hl hl4 => ?_⟩
  · obtain ⟨a1, a2, a3, a4⟩ := hf j hj
    have := (h2 (f j) a1 a2).1
    rw [a3] at this
    exact this
  · obtain ⟨a1, a2, a3, a4⟩ := hf j hj
    obtain ⟨d1, d2⟩ := hS.2.2.2.2.1 (f j) l a1 hl
    have hlt := FN_lt hK.1 d1 d1
    refine ⟨k (dl M a n (f j) l), by omega, ka j l hj hl, ?_⟩
    obtain ⟨b1, b2, b3, b4⟩ := hf (k (dl M a n (f j) l)) (by omega)
    show Nq M a (zz M a n (f (k (dl M a n (f j) l)))) (fo M (zz M a n (f j)) l)
    rw [← d2]
    exact (hK.2 _ _ b1 d1).mp b3
  · obtain ⟨a1, a2, a3, a4⟩ := hf i hi
    obtain ⟨b1, b2, b3, b4⟩ := hf j hj
    have := (hK.2 _ _ a1 b1).mpr e
    omega
  · obtain ⟨a1, a2, a3, a4⟩ := hf j hj
    have hpos2 : 0 < f j := by
      rcases Nat.eq_zero_or_pos (f j) with z | z
      · have := fm 0 j hpos hj hj0
        omega
      · exact z
    obtain ⟨p, l, p1, p2, p3, p4⟩ := hS.2.2.2.2.2.1 (f j) hpos2 a1
    have hkp : k p < j := a4 p p1
    obtain ⟨b1, b2, b3, b4⟩ := hf (k p) (by omega)
    have hfp : f (k p) = p := by
      obtain ⟨t, t1, t2, t3⟩ := isF_ex (C := fun _ => true) (k := k) p rfl
      have e1 : t = f (k p) := isF_u t2 b2 (by rw [t3, b3])
      rcases Nat.lt_or_ge (f (k p)) p with z | z
      · have hq := (hK.2 _ _ b1 (show p < n by omega)).mp b3
        obtain ⟨d1, d2⟩ := hS.2.2.2.2.1 (f (k p)) l b1 p2
        obtain ⟨d3, d4⟩ := hS.2.2.2.2.1 p l (by omega) p2
        have e2 : k (dl M a n (f (k p)) l) = k (dl M a n p l) := (hK.2 _ _ d1 d3).mpr (by rw [d2, d4]; exact Nq_s p2 hq)
        rw [p3, a3] at e2
        have := p4 (f (k p)) l (Or.inl z) p2
        have := a4 _ this
        omega
      · omega
    refine ⟨k p, l, hkp, p2, ?_, fun k' l' hlt hl' => ?_⟩
    · rw [ka (k p) l (by omega) p2, hfp, p3, a3]
    · have hk' : k' < T.1 := by unfold lx at hlt; omega
      rw [ka k' l' hk' hl']
      have : lx (f k') l' p l := by
        rcases hlt with z | ⟨z1, z2⟩
        · have := fm k' (k p) hk' (by omega) z
          rw [hfp] at this
          exact Or.inl this
        · rw [z1, hfp]
          exact Or.inr ⟨rfl, z2⟩
      have := a4 _ (p4 (f k') l' this hl')
      omega
  · obtain ⟨a1, a2, a3, a4⟩ := hf j hj
    have := (h2 (f j) a1 a2).2 l hl4
    rw [a3, if_neg (by omega)] at this
    exact this
set_option maxHeartbeats 1000000 in
theorem sp_tellShr {d n a : Nat} {st : St} {M : MC} {k : Nat → Nat} {Q : Rn} (ha : a ≤ 4) (hS : SH M a n) (hRW : MW a (btM M M a 0 n)) (hK : KD M a n k) (hR : MCc st 88 201 (btM M M a 0 n)) (hk : ∀ s, s < n → st 97 s = (k s : Nat))
    (hq : ∀ (st' : St) (T : MC), TT M a T → T.1 = cn (isF (fun _ => true) k) n → MCc st' 63 201 T → (∀ q, q ≠ 63 → q ≠ 64 → q ≠ 65 → st' q = st q) → Q none st') : MS (d + 3) 219 [vr 87, vr 63, vi a] st Q := by
  have k0 : kl 87 = 4 := rfl
  have k63 : kl 63 = 2 := rfl
  have k88 : kl 88 = 2 := rfl
  have k89 : kl 89 = 50 := rfl
  have l89 : len 89 = 201 := rfl
  have k97 : kl 97 = 50 := rfl
  have l97 : len 97 = 201 := rfl
  have hn2 := hS.1.2
  have fr : ∀ s2 : St, (∀ q, q ≠ 63 → q ≠ 64 → q ≠ 65 → s2 q = st q) → MCc s2 88 201 (btM M M a 0 n) ∧ ∀ s, s < n → s2 97 s = (k s : Nat) := fun s2 h => ⟨MCc_congr hR (fun q h1 h2 => h q (by omega) (by omega) (by omega)), fun s hs => by rw [h 97 (by decide) (by decide) (by decide)]; exact hk s hs⟩
  have kF : ∀ s, s < n → (k s = cn (isF (fun _ => true) k) s ↔ isF (fun _ => true) k s = true) := by
    intro s hs
    constructor
    · intro e
      obtain ⟨t, t1, t2, t3⟩ := isF_ex (C := fun _ => true) (k := k) s rfl
      have := hK.1 t (by omega) t2
      rcases Nat.lt_or_ge t s with z | z
      · have := cn_lt z t2
        omega
      · have : t = s := by omega
        rw [← this]
        exact t2
    · exact hK.1 s hs
  have key : ∀ mm s : Nat, ∀ (s2 : St) (u4 : V), s + mm = n → (∀ q, q ≠ 63 → q ≠ 64 → q ≠ 65 → s2 q = st q) → s2 63 2 = (cn (isF (fun _ => true) k) s : Nat) → (∀ t, t < s → isF (fun _ => true) k t = true → (s2 64 (k t) = if inM M (zz M a n t) then 1 else 2) ∧ ∀ l, l < 4 → s2 65 (4 * k t + l) = if l < a then (k (dl M a n t l) : Int) else -1) → AW (P 219) Q (MS (d + 2)) 0 (fun _ => 0) 1 [vr 87, vr 63, vi a, vi s, u4] [] s2 := by
    intro mm
    induction mm with
    | zero =>
      intro s s2 u4 g1 g2 g3 g4
      have : s = n := by omega
      subst this
      have f1 : s2 88 2 = (s : Nat) := (fr s2 g2).1.1
      have hle := cn_le (p := isF (fun _ => true) k) s
      rw [awu 219 1]
      try simp only [awu 219 8, pe219, xs, i_load, i_loadR, i_inc, lg, lp, true_and, and_true, List.length_cons, List.length_nil, Nat.reduceAdd, Nat.reduceLeDiff, Nat.zero_le, Int.toNat_natCast, natLit, k0, k88, f1]
      exact ⟨fun _ => hq s2 (cn (isF (fun _ => true) k) s, s2 64, s2 65) (TT_of ha hS hK rfl g4) rfl ⟨g3, by show cn (isF (fun _ => true) k) s ≤ 201; omega, fun _ _ => rfl, fun _ _ => rfl⟩ g2, fun h => absurd (Int.le_refl _) h⟩
    | succ mm ih =>
      intro s s2 u4 g1 g2 g3 g4
      obtain ⟨fM, fk⟩ := fr s2 g2
      have f1 : s2 88 2 = (n : Nat) := fM.1
      have e97 := fk s (by omega)
      have ws : Unit → wr ((s : Int) + 1) = ((s + 1 : Nat) : Int) := fun _ => by rw [wr_id (by omega) (by omega)]; omega
      have hle := cn_le (p := isF (fun _ => true) k) s
      by_cases hF : isF (fun _ => true) k s = true
      · have hks := (kF s (by omega)).mpr hF
        have e89 : s2 89 s = if inM M (zz M a n s) then 1 else 2 := by
          rw [← hS.2.2.2.2.2.2.1 s (by omega)]
          exact fM.2.2.1 s (by show s < n; omega)
        generalize hmk : (if inM M (zz M a n s) then (1 : Int) else 2) = mk at *
        have lets : ∀ mm l : Nat, ∀ s3 : St, l + mm = a → (∀ q, q ≠ 63 → q ≠ 64 → q ≠ 65 → s3 q = st q) → s3 63 2 = (cn (isF (fun _ => true) k) s + 1 : Nat) → (∀ t, t < s → isF (fun _ => true) k t = true → (s3 64 (k t) = if inM M (zz M a n t) then 1 else 2) ∧ ∀ l, l < 4 → s3 65 (4 * k t + l) = if l < a then (k (dl M a n t l) : Int) else -1) → s3 64 (k s) = mk → (∀ j, j < 4 → s3 65 (4 * k s + j) = if j < l then (k (dl M a n s j) : Int) else -1) → AW (P 219) Q (MS (d + 2)) 0 (fun _ => 0) 5 [vr 87, vr 63, vi a, vi s, vi l] [] s3 := by
          intro mm
          induction mm with
          | zero =>
            intro l s3 x1 x2 x3 x4 x5 x6
            have : l = a := by omega
            subst this
            rw [awu 219 5]
            try simp only [awu 219 7, pe219, xs, i_load, i_loadR, i_inc, lg, lp, true_and, and_true, List.length_cons, List.length_nil, Nat.reduceAdd, Nat.reduceLeDiff, Nat.zero_le, Int.toNat_natCast, natLit, k0, ws ()]
            refine ⟨fun _ => ih (s + 1) s3 _ (by omega) x2 (by rw [cn_s, if_pos hF]; exact x3) (fun t ht hFt => ?_), fun h => absurd (Int.le_refl _) h⟩
            by_cases z : t = s
            · rw [z, hmk]
              exact ⟨x5, x6⟩
            · exact x4 t (by omega) hFt
          | succ mm ihl =>
            intro l s3 x1 x2 x3 x4 x5 x6
            obtain ⟨fM, fk⟩ := fr s3 x2
            have f1 : s3 88 2 = (n : Nat) := fM.1
            have e97 := fk s (by omega)
            have wl' : Unit → wr ((l : Int) + 1) = ((l + 1 : Nat) : Int) := fun _ => by rw [wr_id (by omega) (by omega)]; omega
            have hd := hS.2.2.2.2.1 s l (by omega) (by omega)
            have hfo : fo (btM M M a 0 n) (s : Int) l = (dl M a n s l : Nat) := by
              unfold fo
              rw [if_pos ⟨by omega, by show (s : Int) < ((n : Nat) : Int); omega⟩, Int.toNat_natCast]
              exact hS.2.2.2.2.2.2.2 s l (by omega) (by omega)
            rw [awu 219 5]
            try simp only [awu 219 6, pe219, xs, i_load, i_loadR, i_inc, lg, lp, true_and, and_true, List.length_cons, List.length_nil, Nat.reduceAdd, Nat.reduceLeDiff, Nat.zero_le, Int.toNat_natCast, natLit, k0, k97, l97, e97]
            refine ⟨fun h => by omega, fun _ => ⟨by omega, ?_⟩⟩
            refine sp_mcfollow isMc_88 fM hRW (show l < 4 by omega) ?_
            dsimp only
            rw [hfo]
            try simp only [awu 219 6, pe219, xs, i_load, i_loadR, i_inc, lg, lp, true_and, and_true, List.length_cons, List.length_nil, Nat.reduceAdd, Nat.reduceLeDiff, Nat.zero_le, Int.toNat_natCast, natLit, k0]
            refine sp_kindOf (t := dl M a n s l) (k := k) f1 hn2 hd.1 (fk _ hd.1) ?_
            dsimp only
            try simp only [awu 219 6, pe219, xs, i_load, i_loadR, i_inc, lg, lp, true_and, and_true, List.length_cons, List.length_nil, Nat.reduceAdd, Nat.reduceLeDiff, Nat.zero_le, Int.toNat_natCast, natLit, k0]
            refine sp_mclink (v := ((k (dl M a n s l) : Nat) : Int)) isMc_63 x3 (by omega) (show k s < cn (isF (fun _ => true) k) s + 1 by omega) (show l < 4 by omega) ?_
            dsimp only
            try simp only [awu 219 6, pe219, xs, i_load, i_loadR, i_inc, lg, lp, true_and, and_true, List.length_cons, List.length_nil, Nat.reduceAdd, Nat.reduceLeDiff, Nat.zero_le, Int.toNat_natCast, natLit, k0, wl' ()]
            refine ihl (l + 1) _ (by omega) (fun q q1 q2 q3 => by rw [up2_ne q3]; exact x2 q q1 q2 q3) (by rw [up2_ne (by decide)]; exact x3) (fun t ht hFt => ?_) (by rw [up2_ne (by decide)]; exact x5) (fun j hj => ?_)
            · rw [up2_ne (by decide)]
              refine ⟨(x4 t ht hFt).1, fun j hj => ?_⟩
              have : k t ≠ k s := fun e => (isF_d.mp hF).2 t ht rfl e
              rw [up2_self, upf_n (by omega)]
              exact (x4 t ht hFt).2 j hj
            · rw [up2_self]
              by_cases z : j = l
              · rw [z, upf_s, if_pos (by omega)]
              · rw [upf_n (by omega), x6 j hj]
                by_cases zz : j < l
                · rw [if_pos zz, if_pos (by omega)]
                · rw [if_neg zz, if_neg (by omega)]
        rw [awu 219 1]
        try simp only [awu 219 2, awu 219 3, awu 219 4, pe219, xs, i_load, i_loadR, i_inc, lg, lp, true_and, and_true, List.length_cons, List.length_nil, Nat.reduceAdd, Nat.reduceLeDiff, Nat.zero_le, Int.toNat_natCast, natLit, k0, k63, k88, f1, g3, k97, l97, e97, k89, l89, e89]
        refine ⟨fun h => by omega, fun _ => ⟨fun h => by omega, fun _ => ⟨by omega, fun h => absurd (by omega) h, fun _ => ⟨by omega, ?_⟩⟩⟩⟩
        refine sp_mcadd isMc_63 g3 (by omega) (fun s3 w1 w2 w3 w4 => ?_)
        dsimp only
        try simp only [awu 219 4, pe219, xs, i_load, i_loadR, i_inc, lg, lp, true_and, and_true, List.length_cons, List.length_nil, Nat.reduceAdd, Nat.reduceLeDiff, Nat.zero_le, Int.toNat_natCast, natLit, k0]
        refine lets a 0 s3 (by omega) (fun q q1 q2 q3 => ?_) w1 (fun t ht hFt => ?_) (by rw [hks]; exact w2) (fun j hj => ?_)
        · funext i
          rw [w4 q i (by omega) (by omega) (by omega), g2 q q1 q2 q3]
        · have hlt : k t < cn (isF (fun _ => true) k) s := FN_lt hK.1 (show t < n by omega) ht
          obtain ⟨y1, y2⟩ := g4 t ht hFt
          refine ⟨by rw [w4 64 (k t) (by omega) (by omega) (by omega)]; exact y1, fun j hj => ?_⟩
          rw [w4 65 _ (by omega) (by omega) (by omega)]
          exact y2 j hj
        · rw [hks, if_neg (by omega)]
          exact w3 j hj
      · have hks : k s ≠ cn (isF (fun _ => true) k) s := fun e => hF ((kF s (by omega)).mp e)
        rw [awu 219 1]
        try simp only [awu 219 2, awu 219 3, awu 219 7, pe219, xs, i_load, i_loadR, i_inc, lg, lp, true_and, and_true, List.length_cons, List.length_nil, Nat.reduceAdd, Nat.reduceLeDiff, Nat.zero_le, Int.toNat_natCast, natLit, k0, k63, k88, f1, g3, k97, l97, e97, ws ()]
        refine ⟨fun h => by omega, fun _ => ⟨fun h => by omega, fun _ => ⟨by omega, fun _ => ih (s + 1) s2 _ (by omega) g2 (by rw [cn_s, if_neg hF]; exact g3) (fun t ht hFt => ?_), fun h => absurd (by omega) h⟩⟩⟩
        by_cases z : t = s
        · rw [z] at hFt
          exact absurd hFt hF
        · exact g4 t (by omega) hFt
  refine MS_v [vr 87, vr 63, vi a, none, none] rfl rfl rfl rfl ?_
  try simp only [awu 219 0, pe219, xs, i_load, i_loadR, i_inc, lg, lp, true_and, and_true, List.length_cons, List.length_nil, Nat.reduceAdd, Nat.reduceLeDiff, Nat.zero_le, Int.toNat_natCast, natLit, k0]
  refine sp_mcclear isMc_63 ?_
  dsimp only
  try simp only [awu 219 0, pe219, xs, i_load, i_loadR, i_inc, lg, lp, true_and, and_true, List.length_cons, List.length_nil, Nat.reduceAdd, Nat.reduceLeDiff, Nat.zero_le, Int.toNat_natCast, natLit, k0]
  exact key n 0 _ none (by omega) (fun q q1 _ _ => up2_ne q1) (by rw [up2_self, upf_s]; rfl) (fun t ht => by omega)
