/-! the k-th word that is taken -/
def Pk (f : Nat → Nat) (a r l : Nat) : Prop := l < a ∧ sN f l ≤ r ∧ r < sN f (l + 1)
theorem Pk_u {f : Nat → Nat} {a r l l' : Nat} (h : Pk f a r l) (h' : Pk f a r l') : l = l' := by
  obtain ⟨-, h1, h2⟩ := h
  obtain ⟨-, g1, g2⟩ := h'
  rcases Nat.lt_trichotomy l l' with z | z | z
  · have := sN_mono (f := f) l' (show l + 1 ≤ l' by omega)
    omega
  · exact z
  · have := sN_mono (f := f) l (show l' + 1 ≤ l by omega)
    omega
def Tw (M : MC) (a : Nat) : Nat → Int → Nat → List Nat → Prop
  | 0, _, _, w => w = []
  | n + 1, s, r, w => ∃ l w', w = l :: w' ∧ Pk (fun l => cw M a n (fo M s l)) a r l ∧ Tw M a n (fo M s l) (r - sN (fun l => cw M a n (fo M s l)) l) w'
theorem Tw_u {M : MC} {a : Nat} : ∀ {n : Nat} {s : Int} {r : Nat} {w w' : List Nat}, Tw M a n s r w → Tw M a n s r w' → w = w'
  | 0, _, _, _, _, h, h' => by
    have h : _ = [] := h
    have h' : _ = [] := h'
    rw [h, h']
  | n + 1, s, r, w, w', h, h' => by
    obtain ⟨l, v, e, h1, h2⟩ := h
    obtain ⟨l', v', e', h1', h2'⟩ := h'
    have := Pk_u h1 h1'
    subst this
    rw [e, e', Tw_u h2 h2']
theorem Tw_len {M : MC} {a : Nat} : ∀ {n : Nat} {s : Int} {r : Nat} {w : List Nat}, Tw M a n s r w → w.length = n
  | 0, _, _, _, h => by
    have h : _ = [] := h
    rw [h]; rfl
  | n + 1, s, r, w, h => by
    obtain ⟨l, v, e, h1, h2⟩ := h
    rw [e, List.length_cons, Tw_len h2]
theorem lt_lw {w l p : Nat} (h : wf w) (hn : wl w ≤ 9) (hl : l < 4) (hp : p ≤ wl w) : lt (lw w l) p = if p = wl w then l else lt w p := by
  have hp4 : 4 ^ wl w ≤ 4 ^ 9 := Nat.pow_le_pow_right (by decide) hn
  have h2 := h.2
  have e1 := wl_lw (w := w) (l := l) (by omega)
  have e2 := wc_lw (w := w) (l := l) (by omega) (by omega)
  rw [lt_wc (by omega) (by omega), e1, e2]
  by_cases hpe : p = wl w
  · rw [if_pos hpe]
    subst hpe
    rw [show 2 * (wl w + 1 - 1 - wl w) = 0 by omega, Nat.pow_zero, Nat.div_one]
    omega
  · rw [if_neg hpe, lt_wc (by omega) (by omega)]
    rw [show 2 * (wl w + 1 - 1 - p) = 2 + 2 * (wl w - 1 - p) by omega, Nat.pow_add, ← Nat.div_div_eq_div_mul]
    rw [show (wc w * 4 + l) / 2 ^ 2 = wc w by omega]
theorem wdL_lw {w l : Nat} (h : wf w) (hn : wl w ≤ 9) (hl : l < 4) : wdL (lw w l) (wl w + 1) = wdL w (wl w) ++ [97 + l] := by
  rw [wdL_s, lt_lw h hn hl (Nat.le_refl _), if_pos rfl]
  congr 1
  have : ∀ p, p ≤ wl w → wdL (lw w l) p = wdL w p := by
    intro p
    induction p with
    | zero => intro _; rfl
    | succ p ih =>
      intro hp
      rw [wdL_s, wdL_s, ih (by omega), lt_lw h hn hl (by omega), if_neg (by omega)]
  exact this _ (Nat.le_refl _)
theorem sN_cw {M : MC} {a n : Nat} {s : Int} (ha : a ≤ 4) (hn : n ≤ 10) (l : Nat) (hl : l ≤ 4) : sN (fun l => cw M a n (fo M s l)) l ≤ 4194304 := by
  have := sN_le (f := fun l => cw M a n (fo M s l)) (b := 1048576) (n := l) (fun i _ => cw_m ha hn _)
  have : l * 1048576 ≤ 4 * 1048576 := Nat.mul_le_mul_right _ hl
  omega
set_option maxHeartbeats 1000000 in
theorem sp_wordOf {d o cap a n k : Nat} {st : St} {M : MC} {Q : Rn} (ho : isMc o cap) (hM : MCc st o cap M) (hN : M.1 ≤ 200) (h0 : 0 < M.1) (hW : MW a M) (ha : a ≤ 4) (hn : n ≤ 10) (hY : WY st M a 10) (hk : k < cw M a n 0)
    (hq : ∀ (w : Nat) (ls : List Nat), Tw M a n 0 k ls → wf w → wl w = n → wdL w n = ls.map (fun l => 97 + l) → Q (vi (w : Nat)) st) : MS (d + 3) 199 [vr 80, vr o, vi a, vi n, vi k] st Q := by
  have k0 : kl 80 = 3 := rfl
  have key : ∀ j : Nat, ∀ (code : Nat) (s : Int) (r : Nat) (pre : List Nat) (u9 : V), wl code + j = n → wf code → (s = -1 ∨ (0 ≤ s ∧ s < M.1)) → r < cw M a j s → wdL code (wl code) = pre.map (fun l => 97 + l) → (∀ ls, Tw M a j s r ls → Tw M a n 0 k (pre ++ ls)) → AW (P 199) Q (MS (d + 2)) 0 (fun _ => 0) 1 [vr 80, vr o, vi a, vi n, vi k, vi code, vi s, vi r, vi ((j : Int) - 1), u9] [] st := by
    intro j
    induction j with
    | zero =>
      intro code s r pre u9 g1 g2 g3 g4 g5 g6
      rw [awu 199 1]
      try simp only [awu 199 7, pe199, xs, i_load, i_loadR, i_inc, lg, lp, true_and, and_true, List.length_cons, List.length_nil, Nat.reduceAdd, Nat.reduceLeDiff, Nat.zero_le, Int.toNat_natCast, natLit, k0]
      refine ⟨fun _ => hq code pre ?_ g2 (by omega) ?_, fun h => absurd (by decide) h⟩
      · have := g6 [] rfl
        rw [List.append_nil] at this
        exact this
      · rw [show n = wl code by omega]
        exact g5
    | succ j ih =>
      intro code s r pre u9 g1 g2 g3 g4 g5 g6
      have hcl := wf_lt g2
      have ej : ((j + 1 : Nat) : Int) - 1 = (j : Nat) := by omega
      have wj : Unit → wr ((j : Int) + -1) = ((j : Int) - 1) := fun _ => by rw [wr_id (by omega) (by omega)]; omega
      have wa : Unit → wr ((a : Int) - 1) = ((a : Int) - 1) := fun _ => by rw [wr_id (by omega) (by omega)]
      rw [cw_s] at g4
      rw [ej]
      have inner : ∀ mm l : Nat, ∀ (r' : Nat), l + mm = a → 0 < mm → r' + sN (fun l => cw M a j (fo M s l)) l = r → AW (P 199) Q (MS (d + 2)) 0 (fun _ => 0) 3 [vr 80, vr o, vi a, vi n, vi k, vi code, vi s, vi r', vi j, vi l] [] st := by
        intro mm
        induction mm with
        | zero => intro l r' x1 x2; omega
        | succ mm ihl =>
          intro l r' x1 x2 x3
          have hb := cw_m (M := M) ha (show j ≤ 10 by omega) (fo M s l)
          have hsb := sN_cw (M := M) (s := s) ha (show j ≤ 10 by omega) a ha
          have wl' : Unit → wr ((l : Int) + 1) = ((l + 1 : Nat) : Int) := fun _ => by rw [wr_id (by omega) (by omega)]; omega
          have hfr := fo_r (s := s) hW (show l < a by omega) ha
          have done : r' < cw M a j (fo M s l) → AW (P 199) Q (MS (d + 2)) 0 (fun _ => 0) 6 [vr 80, vr o, vi a, vi n, vi k, vi code, vi s, vi r', vi j, vi l] [] st := by
            intro hr
            have hpk : Pk (fun l => cw M a j (fo M s l)) a r l := ⟨by omega, by omega, by rw [sN_s]; omega⟩
            rw [awu 199 6]
            try simp only [awu 199 6, pe199, xs, i_load, i_loadR, i_inc, lg, lp, true_and, and_true, List.length_cons, List.length_nil, Nat.reduceAdd, Nat.reduceLeDiff, Nat.zero_le, Int.toNat_natCast, natLit, k0]
            refine sp_longer (by omega) (by omega) (show l < 4 by omega) ?_
            dsimp only
            try simp only [awu 199 6, pe199, xs, i_load, i_loadR, i_inc, lg, lp, true_and, and_true, List.length_cons, List.length_nil, Nat.reduceAdd, Nat.reduceLeDiff, Nat.zero_le, Int.toNat_natCast, natLit, k0]
            refine sp_mcfollow ho hM hW (show l < 4 by omega) ?_
            dsimp only
            try simp only [awu 199 6, pe199, xs, i_load, i_loadR, i_inc, lg, lp, true_and, and_true, List.length_cons, List.length_nil, Nat.reduceAdd, Nat.reduceLeDiff, Nat.zero_le, Int.toNat_natCast, natLit, k0, wj ()]
            have hlw := lw_bg g2 (show wl code ≤ 9 by omega) (show l < 4 by omega)
            refine ih (lw code l) (fo M s l) r' (pre ++ [l]) _ (by rw [hlw.2.1]; omega) hlw.1 hfr hr ?_ (fun ls hls => ?_)
            · rw [hlw.2.1, wdL_lw g2 (by omega) (by omega), g5, List.map_append]
              rfl
            · rw [List.append_assoc]
              refine g6 _ ⟨l, ls, rfl, hpk, ?_⟩
              rw [show r - sN (fun l => cw M a j (fo M s l)) l = r' by omega]
              exact hls
          rw [awu 199 3]
          try simp only [awu 199 4, pe199, xs, i_load, i_loadR, i_inc, lg, lp, true_and, and_true, List.length_cons, List.length_nil, Nat.reduceAdd, Nat.reduceLeDiff, Nat.zero_le, Int.toNat_natCast, natLit, k0, wa ()]
          refine ⟨fun h => ?_, fun h => ?_⟩
          · have : a = l + 1 := by omega
            rw [this] at g4
            rw [sN_s] at g4
            subst this
            exact done (by omega)
          · refine sp_mcfollow ho hM hW (show l < 4 by omega) ?_
            dsimp only
            try simp only [awu 199 4, pe199, xs, i_load, i_loadR, i_inc, lg, lp, true_and, and_true, List.length_cons, List.length_nil, Nat.reduceAdd, Nat.reduceLeDiff, Nat.zero_le, Int.toNat_natCast, natLit, k0]
            refine sp_waysOf hY (by omega) (by omega) (by omega) hfr ?_
            dsimp only
            try simp only [awu 199 4, awu 199 5, pe199, xs, i_load, i_loadR, i_inc, lg, lp, true_and, and_true, List.length_cons, List.length_nil, Nat.reduceAdd, Nat.reduceLeDiff, Nat.zero_le, Int.toNat_natCast, natLit, k0]
            refine ⟨fun h => done (by omega), fun h => ?_⟩
            refine sp_mcfollow ho hM hW (show l < 4 by omega) ?_
            dsimp only
            try simp only [awu 199 5, pe199, xs, i_load, i_loadR, i_inc, lg, lp, true_and, and_true, List.length_cons, List.length_nil, Nat.reduceAdd, Nat.reduceLeDiff, Nat.zero_le, Int.toNat_natCast, natLit, k0]
            refine sp_waysOf hY (by omega) (by omega) (by omega) hfr ?_
            dsimp only
            have wv : Unit → wr ((r' : Int) - ((cw M a j (fo M s l) : Nat) : Int)) = ((r' - cw M a j (fo M s l) : Nat) : Int) := fun _ => by rw [wr_id (by omega) (by omega)]; omega
            try simp only [awu 199 5, pe199, xs, i_load, i_loadR, i_inc, lg, lp, true_and, and_true, List.length_cons, List.length_nil, Nat.reduceAdd, Nat.reduceLeDiff, Nat.zero_le, Int.toNat_natCast, natLit, k0, wv (), wl' ()]
            refine ihl (l + 1) (r' - cw M a j (fo M s l)) (by omega) (by omega) ?_
            rw [sN_s]
            omega
      have ha0 : 0 < a := by
        rcases Nat.eq_zero_or_pos a with z | z
        · subst z
          have : sN (fun l => cw M 0 j (fo M s l)) 0 = 0 := rfl
          omega
        · exact z
      rw [awu 199 1]
      try simp only [awu 199 2, pe199, xs, i_load, i_loadR, i_inc, lg, lp, true_and, and_true, List.length_cons, List.length_nil, Nat.reduceAdd, Nat.reduceLeDiff, Nat.zero_le, Int.toNat_natCast, natLit, k0]
      exact ⟨fun h => by omega, fun _ => inner a 0 r (by omega) ha0 rfl⟩
  have wn : Unit → wr ((n : Int) - 1) = ((n : Int) - 1) := fun _ => by rw [wr_id (by omega) (by omega)]
  refine MS_v [vr 80, vr o, vi a, vi n, vi k, none, none, none, none, none] rfl rfl rfl rfl ?_
  try simp only [awu 199 0, pe199, xs, i_load, i_loadR, i_inc, lg, lp, true_and, and_true, List.length_cons, List.length_nil, Nat.reduceAdd, Nat.reduceLeDiff, Nat.zero_le, Int.toNat_natCast, natLit, k0, wn ()]
  exact key n 0 0 k [] none (by rw [show wl 0 = 0 from rfl]; omega) ⟨by decide, by decide⟩ (by omega) hk rfl (fun ls h => h)
theorem sp_wordTaken {d o cap a k : Nat} {st : St} {M : MC} {Q : Rn} (ho : isMc o cap) (ho2 : o + 2 < 80) (hM : MCc st o cap M) (hN : M.1 ≤ 200) (h0 : 0 < M.1) (hW : MW a M) (ha : a ≤ 4) (hk : k < 2 ^ 31)
    (h1 : ∀ (st' : St) (n w : Nat) (ls : List Nat), Pk (fun n => cw M a n 0) 11 k n → Tw M a n 0 (k - sN (fun n => cw M a n 0) n) ls → wf w → wl w = n → wdL w n = ls.map (fun l => 97 + l) → (∀ q, q ≠ 81 → st' q = st q) → Q (vi (w : Nat)) st')
    (h2 : ∀ (st' : St), sN (fun n => cw M a n 0) 11 ≤ k → (∀ q, q ≠ 81 → st' q = st q) → Q (vi (-1)) st') : MS (d + 4) 198 [vr 80, vr o, vi a, vi k] st Q := by
  have k0 : kl 80 = 3 := rfl
  refine MS_v [vr 80, vr o, vi a, vi k, none, none] rfl rfl rfl rfl ?_
  try simp only [awu 198 0, pe198, xs, i_load, i_loadR, i_inc, lg, lp, true_and, and_true, List.length_cons, List.length_nil, Nat.reduceAdd, Nat.reduceLeDiff, Nat.zero_le, Int.toNat_natCast, natLit, k0]
  refine sp_count (K := 10) ho hM hW ha (by decide) ho2 (fun s1 y1 y2 => ?_)
  dsimp only
  have hM1 : MCc s1 o cap M := MCc_congr hM (fun q _ _ => y2 q (by omega))
  have key : ∀ mm n : Nat, ∀ r : Nat, n + mm = 11 → r + sN (fun n => cw M a n 0) n = k → AW (P 198) Q (MS (d + 3)) 0 (fun _ => 0) 1 [vr 80, vr o, vi a, vi k, vi r, vi n] [] s1 := by
    intro mm
    induction mm with
    | zero =>
      intro n r g1 g2
      have : n = 11 := by omega
      subst this
      rw [awu 198 1]
      try simp only [awu 198 5, pe198, xs, i_load, i_loadR, i_inc, lg, lp, true_and, and_true, List.length_cons, List.length_nil, Nat.reduceAdd, Nat.reduceLeDiff, Nat.zero_le, Int.toNat_natCast, natLit, k0]
      exact ⟨fun _ => h2 s1 (by omega) y2, fun h => absurd (by decide) h⟩
    | succ mm ih =>
      intro n r g1 g2
      have wn : Unit → wr ((n : Int) + 1) = ((n + 1 : Nat) : Int) := fun _ => by rw [wr_id (by omega) (by omega)]; omega
      rw [awu 198 1]
      try simp only [awu 198 2, pe198, xs, i_load, i_loadR, i_inc, lg, lp, true_and, and_true, List.length_cons, List.length_nil, Nat.reduceAdd, Nat.reduceLeDiff, Nat.zero_le, Int.toNat_natCast, natLit, k0]
      refine ⟨fun h => by omega, fun _ => ?_⟩
      refine sp_waysOf (k := n) (s := 0) y1 (by omega) (by omega) (by omega) (by omega) ?_
      dsimp only
      try simp only [awu 198 2, awu 198 3, awu 198 4, pe198, xs, i_load, i_loadR, i_inc, lg, lp, true_and, and_true, List.length_cons, List.length_nil, Nat.reduceAdd, Nat.reduceLeDiff, Nat.zero_le, Int.toNat_natCast, natLit, k0]
      refine ⟨fun h => ?_, fun h => ?_⟩
      · refine sp_waysOf (k := n) (s := 0) y1 (by omega) (by omega) (by omega) (by omega) ?_
        dsimp only
        have wv : Unit → wr ((r : Int) - ((cw M a n 0 : Nat) : Int)) = ((r - cw M a n 0 : Nat) : Int) := fun _ => by rw [wr_id (by omega) (by omega)]; omega
        try simp only [awu 198 4, pe198, xs, i_load, i_loadR, i_inc, lg, lp, true_and, and_true, List.length_cons, List.length_nil, Nat.reduceAdd, Nat.reduceLeDiff, Nat.zero_le, Int.toNat_natCast, natLit, k0, wv (), wn ()]
        refine ih (n + 1) _ (by omega) ?_
        rw [sN_s]
        omega
      · refine sp_wordOf ho hM1 hN h0 hW ha (by omega) y1 (show r < cw M a n 0 by omega) (fun w ls x1 x2 x3 x4 => ?_)
        dsimp only
        try simp only [awu 198 3, pe198, xs, i_load, i_loadR, i_inc, lg, lp, true_and, and_true, List.length_cons, List.length_nil, Nat.reduceAdd, Nat.reduceLeDiff, Nat.zero_le, Int.toNat_natCast, natLit, k0]
        refine h1 s1 n w ls ⟨by omega, by omega, by rw [sN_s]; omega⟩ ?_ x2 x3 x4 y2
        rw [show k - sN (fun n => cw M a n 0) n = r by omega]
        exact x1
  try simp only [awu 198 0, pe198, xs, i_load, i_loadR, i_inc, lg, lp, true_and, and_true, List.length_cons, List.length_nil, Nat.reduceAdd, Nat.reduceLeDiff, Nat.zero_le, Int.toNat_natCast, natLit, k0]
  exact key 11 0 k (by omega) rfl
/-! the reference -/
def WYm (st : St) (M : MC) (a K : Nat) : Prop := ∀ k s, k ≤ K → s ≤ M.1 → st 141 (201 * k + s) = (cw M a k (gx M s) : Nat)
set_option maxHeartbeats 1000000 in
theorem sp_layTaken {d m a : Nat} {st : St} {M : MC} {Q : Rn} (hM : MCm st m M) (hm : m ≤ 4) (hW : MW a M) (ha : a ≤ 4) (hl : st 99 2 = a)
    (hq : ∀ st' : St, WYm st' M a 10 → (∀ q, q ≠ 141 → st' q = st q) → Q none st') : MS (d + 3) 140 [vr 99, vi m] st Q := by
  have k0 : kl 99 = 12 := rfl
  have k19 : kl 119 = 50 := rfl
  have l19 : len 119 = 5 := rfl
  have k41 : kl 141 = 50 := rfl
  have l41 : len 141 = 2211 := rfl
  have e19 := hM.1
  have hN := hM.2.1
  have fr : ∀ s2 : St, (∀ q, q ≠ 141 → s2 q = st q) → MCm s2 m M ∧ s2 99 2 = a := fun s2 h => ⟨MCm_congr hM (by rw [h 119 (by decide)]) (fun i _ _ => by rw [h 120 (by decide)]) (fun i _ _ => by rw [h 121 (by decide)]), by rw [h 99 (by decide)]; exact hl⟩
  have key2 : ∀ mm k : Nat, ∀ (s2 : St) (u4 u5 u6 : V), k + mm = 11 → 0 < k → (∀ q, q ≠ 141 → s2 q = st q) → WYm s2 M a (k - 1) → AW (P 140) Q (MS (d + 2)) 0 (fun _ => 0) 8 [vr 99, vi m, vi (M.1 : Nat), vi k, u4, u5, u6] [] s2 := by
    intro mm
    induction mm with
    | zero =>
      intro k s2 u4 u5 u6 g1 g1' g2 g3
      have : k = 11 := by omega
      subst this
      rw [awu 140 8]
      try simp only [awu 140 16, pe140, xs, i_load, i_loadR, i_inc, lg, lp, true_and, and_true, List.length_cons, List.length_nil, Nat.reduceAdd, Nat.reduceLeDiff, Nat.zero_le, Int.toNat_natCast, natLit, k0]
      exact ⟨fun _ => hq s2 g3 g2, fun h => absurd (by decide) h⟩
    | succ mm ih =>
      intro k s2 u4 u5 u6 g1 g1' g2 g3
      have w : Unit → wr ((k : Int) + 1) = ((k + 1 : Nat) : Int) := fun _ => by rw [wr_id (by omega) (by omega)]; omega
      have wk : Unit → wr ((k : Int) - 1) = ((k - 1 : Nat) : Int) := fun _ => by rw [wr_id (by omega) (by omega)]; omega
      have w1 : Unit → wr (201 * (k : Int)) = ((201 * k : Nat) : Int) := fun _ => by rw [wr_id (by omega) (by omega)]; omega
      have w1' : Unit → wr (201 * ((k - 1 : Nat) : Int)) = ((201 * (k - 1) : Nat) : Int) := fun _ => by rw [wr_id (by omega) (by omega)]; omega
      have keys : ∀ mm s : Nat, ∀ (s3 : St) (u5 u6 : V), s + mm = M.1 + 1 → (∀ q, q ≠ 141 → s3 q = st q) → WYm s3 M a (k - 1) → (∀ t, t < s → s3 141 (201 * k + t) = (cw M a k (gx M t) : Nat)) → AW (P 140) Q (MS (d + 2)) 0 (fun _ => 0) 10 [vr 99, vi m, vi (M.1 : Nat), vi k, vi s, u5, u6] [] s3 := by
        intro mm
        induction mm with
        | zero =>
          intro s s3 u5 u6 h1 h2 h3 h4
          rw [awu 140 10]
          try simp only [awu 140 15, pe140, xs, i_load, i_loadR, i_inc, lg, lp, true_and, and_true, List.length_cons, List.length_nil, Nat.reduceAdd, Nat.reduceLeDiff, Nat.zero_le, Int.toNat_natCast, natLit, k0, w ()]
          refine ⟨fun _ => ih (k + 1) s3 _ _ _ (by omega) (by omega) h2 (fun k' s a1 a2 => ?_), fun h => absurd (by omega) h⟩
          rcases Nat.lt_or_ge k' k with z | z
          · exact h3 k' s (by omega) a2
          · have : k' = k := by omega
            subst this
            exact h4 s (by omega)
        | succ mm ihs =>
          intro s s3 u5 u6 h1 h2 h3 h4
          obtain ⟨f1, f2⟩ := fr s3 h2
          have ws : Unit → wr ((s : Int) + 1) = ((s + 1 : Nat) : Int) := fun _ => by rw [wr_id (by omega) (by omega)]; omega
          have w2 : Unit → wr (((201 * k : Nat) : Int) + (s : Int)) = ((201 * k + s : Nat) : Int) := fun _ => by rw [wr_id (by omega) (by omega)]; omega
          have keyl : ∀ mm l : Nat, l + mm = a → AW (P 140) Q (MS (d + 2)) 0 (fun _ => 0) 12 [vr 99, vi m, vi (M.1 : Nat), vi k, vi s, vi (sN (fun l => cw M a (k - 1) (fo M (gx M s) l)) l : Nat), vi l] [] s3 := by
            intro mm
            induction mm with
            | zero =>
              intro l e1
              have : l = a := by omega
              subst this
              rw [awu 140 12]
              try simp only [awu 140 14, pe140, xs, i_load, i_loadR, i_inc, lg, lp, true_and, and_true, List.length_cons, List.length_nil, Nat.reduceAdd, Nat.reduceLeDiff, Nat.zero_le, Int.toNat_natCast, natLit, k0, f2, k41, l41, w1 (), w2 (), ws ()]
              refine ⟨fun _ => ⟨by omega, ?_⟩, fun h => absurd (Int.le_refl _) h⟩
              refine ihs (s + 1) _ _ _ (by omega) (fun q hq => ?_) (fun k' t a1 a2 => ?_) (fun t ht => ?_)
              · rw [up2_ne hq]
                exact h2 q hq
              · rw [up2_self, upf_n (by omega)]
                exact h3 k' t a1 a2
              · rw [up2_self]
                by_cases z : t = s
                · subst z
                  rw [upf_s]
                  have : cw M l k (gx M t) = sN (fun i => cw M l (k - 1) (fo M (gx M t) i)) l := by
                    conv => lhs; rw [show k = (k - 1) + 1 by omega]
                    rw [cw_s]
                  rw [this]
                · rw [upf_n (by omega)]
                  exact h4 t (by omega)
            | succ mm ihl =>
              intro l e1
              have wl' : Unit → wr ((l : Int) + 1) = ((l + 1 : Nat) : Int) := fun _ => by rw [wr_id (by omega) (by omega)]; omega
              have hb1 := sN_cw (M := M) (s := gx M s) ha (show k - 1 ≤ 10 by omega) l (by omega)
              have hb2 := cw_m (M := M) ha (show k - 1 ≤ 10 by omega) (fo M (gx M s) l)
              have ihl := ihl (l + 1) (by omega)
              rw [sN_s] at ihl
              have hsb := sq_b (s := s) hW (show l < a by omega) ha
              have hsx := sq_x (s := s) hW (show l < a by omega) ha
              have e41 := h3 (k - 1) (sq M s l) (Nat.le_refl _) hsb
              rw [hsx] at e41
              generalize sN (fun l => cw M a (k - 1) (fo M (gx M s) l)) l = v at *
              have wv : Unit → wr ((v : Int) + ((cw M a (k - 1) (fo M (gx M s) l) : Nat) : Int)) = ((v + cw M a (k - 1) (fo M (gx M s) l) : Nat) : Int) := fun _ => by rw [wr_id (by omega) (by omega)]; omega
              have w3 : Unit → wr (((201 * (k - 1) : Nat) : Int) + ((sq M s l : Nat) : Int)) = ((201 * (k - 1) + sq M s l : Nat) : Int) := fun _ => by rw [wr_id (by omega) (by omega)]; omega
              rw [awu 140 12]
              try simp only [awu 140 13, pe140, xs, i_load, i_loadR, i_inc, lg, lp, true_and, and_true, List.length_cons, List.length_nil, Nat.reduceAdd, Nat.reduceLeDiff, Nat.zero_le, Int.toNat_natCast, natLit, k0, f2, wk (), w1' ()]
              refine ⟨fun h => by omega, fun _ => ?_⟩
              refine sp_stepOf f1 hm hW ha (show s ≤ M.1 by omega) (show l < a by omega) ?_
              dsimp only
              try simp only [awu 140 13, pe140, xs, i_load, i_loadR, i_inc, lg, lp, true_and, and_true, List.length_cons, List.length_nil, Nat.reduceAdd, Nat.reduceLeDiff, Nat.zero_le, Int.toNat_natCast, natLit, k0, k41, l41, w3 (), e41, wv (), wl' ()]
              exact ⟨by omega, ihl⟩
          rw [awu 140 10]
          try simp only [awu 140 11, pe140, xs, i_load, i_loadR, i_inc, lg, lp, true_and, and_true, List.length_cons, List.length_nil, Nat.reduceAdd, Nat.reduceLeDiff, Nat.zero_le, Int.toNat_natCast, natLit, k0]
          exact ⟨fun h => by omega, fun _ => keyl a 0 (by omega)⟩
      rw [awu 140 8]
      try simp only [awu 140 9, pe140, xs, i_load, i_loadR, i_inc, lg, lp, true_and, and_true, List.length_cons, List.length_nil, Nat.reduceAdd, Nat.reduceLeDiff, Nat.zero_le, Int.toNat_natCast, natLit, k0]
      exact ⟨fun h => by omega, fun _ => keys (M.1 + 1) 0 s2 _ _ (by omega) g2 g3 (fun t ht => by omega)⟩
  have fill : ∀ mm i : Nat, ∀ (s2 : St), i + mm = M.1 + 1 → (∀ q, q ≠ 141 → s2 q = st q) → (∀ s, s < i → s2 141 s = (cw M a 0 (gx M s) : Nat)) → AW (P 140) Q (MS (d + 2)) 0 (fun _ => 0) 1 [vr 99, vi m, vi (M.1 : Nat), vi i, none, none, none] [] s2 := by
    intro mm
    induction mm with
    | zero =>
      intro i s2 g1 g2 g3
      rw [awu 140 1]
      try simp only [awu 140 7, pe140, xs, i_load, i_loadR, i_inc, lg, lp, true_and, and_true, List.length_cons, List.length_nil, Nat.reduceAdd, Nat.reduceLeDiff, Nat.zero_le, Int.toNat_natCast, natLit, k0]
      refine ⟨fun _ => key2 10 1 s2 none none none (by omega) (by omega) g2 (fun k s a1 a2 => ?_), fun h => absurd (by omega) h⟩
      have : k = 0 := by omega
      subst this
      rw [show 201 * 0 + s = s by omega]
      exact g3 s (by omega)
    | succ mm ih =>
      intro i s2 g1 g2 g3
      have wk : Unit → wr ((i : Int) + 1) = ((i + 1 : Nat) : Int) := fun _ => by rw [wr_id (by omega) (by omega)]; omega
      have nx : ∀ v : Int, v = ((if inM M (gx M i) then 1 else 0 : Nat) : Int) → AW (P 140) Q (MS (d + 2)) 0 (fun _ => 0) 6 [vr 99, vi m, vi (M.1 : Nat), vi i, none, none, none] [vi v, vi i, vr 141] s2 := by
        intro v hv
        rw [awu 140 6]
        try simp only [awu 140 6, pe140, xs, i_load, i_loadR, i_inc, lg, lp, true_and, and_true, List.length_cons, List.length_nil, Nat.reduceAdd, Nat.reduceLeDiff, Nat.zero_le, Int.toNat_natCast, natLit, k0, k41, l41, wk ()]
        refine ⟨by omega, ih (i + 1) _ (by omega) (fun q q1 => ?_) (fun s hs => ?_)⟩
        · rw [up2_ne q1]
          exact g2 q q1
        · rw [up2_self]
          by_cases zs : s = i
          · rw [zs, upf_s]
            exact hv
          · rw [upf_n zs]
            exact g3 s (by omega)
      rw [awu 140 1]
      rcases Nat.lt_or_ge i M.1 with z | z
      · try simp only [awu 140 2, awu 140 3, pe140, xs, i_load, i_loadR, i_inc, lg, lp, true_and, and_true, List.length_cons, List.length_nil, Nat.reduceAdd, Nat.reduceLeDiff, Nat.zero_le, Int.toNat_natCast, natLit, k0]
        refine ⟨fun h => by omega, fun _ => ⟨fun h => by omega, fun _ => ?_⟩⟩
        refine sp_markOf (fr s2 g2).1 hm z ?_
        dsimp only
        rw [gx_s z, inM_s z] at nx
        try simp only [awu 140 3, awu 140 4, awu 140 5, pe140, xs, i_load, i_loadR, i_inc, lg, lp, true_and, and_true, List.length_cons, List.length_nil, Nat.reduceAdd, Nat.reduceLeDiff, Nat.zero_le, Int.toNat_natCast, natLit, k0]
        refine ⟨fun h => nx 0 (by rw [if_neg (by simpa using h)]; rfl), fun h => nx 1 (by rw [if_pos (by simpa using h)]; rfl)⟩
      · have : i = M.1 := by omega
        subst this
        rw [gx_N, inM_n] at nx
        try simp only [awu 140 2, awu 140 5, pe140, xs, i_load, i_loadR, i_inc, lg, lp, true_and, and_true, List.length_cons, List.length_nil, Nat.reduceAdd, Nat.reduceLeDiff, Nat.zero_le, Int.toNat_natCast, natLit, k0]
        exact ⟨fun h => by omega, fun _ => ⟨fun _ => nx 0 rfl, fun h => absurd (Int.le_refl _) h⟩⟩
  refine MS_v [vr 99, vi m, none, none, none, none, none] rfl rfl rfl rfl ?_
  try simp only [awu 140 0, pe140, xs, i_load, i_loadR, i_inc, lg, lp, true_and, and_true, List.length_cons, List.length_nil, Nat.reduceAdd, Nat.reduceLeDiff, Nat.zero_le, Int.toNat_natCast, natLit, k0, k19, l19, e19]
  exact ⟨by omega, fill (M.1 + 1) 0 st (by omega) (fun _ _ => rfl) (fun s hs => by omega)⟩
set_option maxHeartbeats 1000000 in
theorem sp_mtaken {d m a k : Nat} {st : St} {M : MC} {Q : Rn} {u3 u4 u5 u6 u7 : V} (hM : MCm st m M) (hm : m ≤ 4) (hW : MW a M) (ha : a ≤ 4) (h0 : 0 < M.1) (hl : st 99 2 = a) (hk : k < 2 ^ 31)
    (h1 : ∀ (st' : St) (n : Nat) (ls : List Nat), Pk (fun n => cw M a n 0) 11 k n → Tw M a n 0 (k - sN (fun n => cw M a n 0) n) ls → WRm st' (ls.map (fun l => 97 + l)) → (∀ q i, q ≠ 141 → q ≠ 144 → ¬ (q = 99 ∧ i = 62) → st' q i = st q i) → Q (vi (n : Nat)) st')
    (h2 : ∀ (st' : St), sN (fun n => cw M a n 0) 11 ≤ k → (∀ q, q ≠ 141 → st' q = st q) → Q (vi (-2)) st') : AW (P 141) Q (MS (d + 3)) 0 (fun _ => 0) 3 [vr 99, vi m, vi k, u3, u4, u5, u6, u7] [] st := by
  have k0 : kl 99 = 12 := rfl
  have k41 : kl 141 = 50 := rfl
  have l41 : len 141 = 2211 := rfl
  have hN := hM.2.1
  rw [awu 141 3]
  try simp only [awu 141 3, pe141, xs, i_load, i_loadR, i_inc, lg, lp, true_and, and_true, List.length_cons, List.length_nil, Nat.reduceAdd, Nat.reduceLeDiff, Nat.zero_le, Int.toNat_natCast, natLit, k0]
  refine sp_layTaken hM hm hW ha hl (fun s1 y1 y2 => ?_)
  dsimp only
  have g0 : gx M 0 = 0 := gx_s h0
  have fr : ∀ s2 : St, (∀ q i, q ≠ 144 → ¬ (q = 99 ∧ i = 62) → s2 q i = s1 q i) → MCm s2 m M ∧ s2 99 2 = a ∧ WYm s2 M a 10 := fun s2 h => ⟨MCm_congr hM (by rw [h 119 m (by decide) (by omega), y2 119 (by decide)]) (fun i _ _ => by rw [h 120 i (by decide) (by omega), y2 120 (by decide)]) (fun i _ _ => by rw [h 121 i (by decide) (by omega), y2 121 (by decide)]), by rw [h 99 2 (by decide) (by omega), y2 99 (by decide)]; exact hl, fun k s a1 a2 => by rw [h 141 _ (by decide) (by omega)]; exact y1 k s a1 a2⟩
  -- the letters
  have word : ∀ (n : Nat) (r0 : Nat), Pk (fun n => cw M a n 0) 11 k n → r0 + sN (fun n => cw M a n 0) n = k → ∀ j : Nat, ∀ (s2 : St) (s : Nat) (r : Nat) (pre : List Nat) (u7 : V), pre.length + j = n → s ≤ M.1 → r < cw M a j (gx M s) → WRm s2 (pre.map (fun l => 97 + l)) → (∀ q i, q ≠ 144 → ¬ (q = 99 ∧ i = 62) → s2 q i = s1 q i) → (∀ ls, Tw M a j (gx M s) r ls → Tw M a n 0 r0 (pre ++ ls)) → AW (P 141) Q (MS (d + 3)) 0 (fun _ => 0) 10 [vr 99, vi m, vi k, vi r, vi n, vi s, vi ((j : Int) - 1), u7] [] s2 := by
    intro n r0 hn hr0 j
    induction j with
    | zero =>
      intro s2 s r pre u7 g1 g2 g3 g4 g5 g6
      have e62 := g4.1
      rw [List.length_map, show pre.length = n by omega] at e62
      rw [awu 141 10]
      try simp only [awu 141 15, pe141, xs, i_load, i_loadR, i_inc, lg, lp, true_and, and_true, List.length_cons, List.length_nil, Nat.reduceAdd, Nat.reduceLeDiff, Nat.zero_le, Int.toNat_natCast, natLit, k0, e62]
      refine ⟨fun _ => h1 s2 n pre hn ?_ g4 (fun q i q1 q2 q3 => by rw [g5 q i q2 q3, y2 q q1]), fun h => absurd (by decide) h⟩
      have := g6 [] rfl
      rw [List.append_nil] at this
      rw [show k - sN (fun n => cw M a n 0) n = r0 by omega]
      exact this
    | succ j ih =>
      intro s2 s r pre u7 g1 g2 g3 g4 g5 g6
      obtain ⟨f1, f2, f3⟩ := fr s2 g5
      have hn10 := hn.1
      have ej : ((j + 1 : Nat) : Int) - 1 = (j : Nat) := by omega
      have wj : Unit → wr ((j : Int) + -1) = ((j : Int) - 1) := fun _ => by rw [wr_id (by omega) (by omega)]; omega
      have w1 : Unit → wr (201 * (j : Int)) = ((201 * j : Nat) : Int) := fun _ => by rw [wr_id (by omega) (by omega)]; omega
      rw [cw_s] at g3
      rw [ej]
      have hsb4 := sN_cw (M := M) (s := gx M s) ha (show j ≤ 10 by omega) a ha
      have inner : ∀ mm l : Nat, ∀ (r' : Nat), l + mm = a → r' + sN (fun l => cw M a j (fo M (gx M s) l)) l = r → AW (P 141) Q (MS (d + 3)) 0 (fun _ => 0) 12 [vr 99, vi m, vi k, vi r', vi n, vi s, vi j, vi l] [] s2 := by
        intro mm
        induction mm with
        | zero =>
          intro l r' x1 x2
          have : l = a := by omega
          subst this
          omega
        | succ mm ihl =>
          intro l r' x1 x2
          have hb := cw_m (M := M) ha (show j ≤ 10 by omega) (fo M (gx M s) l)
          have wl' : Unit → wr ((l : Int) + 1) = ((l + 1 : Nat) : Int) := fun _ => by rw [wr_id (by omega) (by omega)]; omega
          have w97 : Unit → wr (97 + (l : Int)) = ((97 + l : Nat) : Int) := fun _ => by rw [wr_id (by omega) (by omega)]; omega
          have hsb := sq_b (s := s) hW (show l < a by omega) ha
          have hsx := sq_x (s := s) hW (show l < a by omega) ha
          have e41 := f3 j (sq M s l) (by omega) hsb
          rw [hsx] at e41
          have w3 : Unit → wr (((201 * j : Nat) : Int) + ((sq M s l : Nat) : Int)) = ((201 * j + sq M s l : Nat) : Int) := fun _ => by rw [wr_id (by omega) (by omega)]; omega
          rw [awu 141 12]
          try simp only [awu 141 12, pe141, xs, i_load, i_loadR, i_inc, lg, lp, true_and, and_true, List.length_cons, List.length_nil, Nat.reduceAdd, Nat.reduceLeDiff, Nat.zero_le, Int.toNat_natCast, natLit, k0, w1 ()]
          refine sp_stepOf f1 hm hW ha (show s ≤ M.1 by omega) (show l < a by omega) ?_
          dsimp only
          try simp only [awu 141 12, awu 141 13, awu 141 14, pe141, xs, i_load, i_loadR, i_inc, lg, lp, true_and, and_true, List.length_cons, List.length_nil, Nat.reduceAdd, Nat.reduceLeDiff, Nat.zero_le, Int.toNat_natCast, natLit, k0, k41, l41, w3 (), e41, w97 (), w1 ()]
          refine ⟨by omega, fun h => ?_, fun h => ?_⟩
          · have hpk : Pk (fun l => cw M a j (fo M (gx M s) l)) a r l := ⟨by omega, by omega, by rw [sN_s]; omega⟩
            refine sp_mputN g4 (by rw [List.length_map]; omega) (by omega) (fun s3 z1 z2 => ?_)
            dsimp only
            have fr3 : ∀ q i, q ≠ 144 → ¬ (q = 99 ∧ i = 62) → s3 q i = s1 q i := fun q i q1 q2 => by rw [z2 q i q1 q2, g5 q i q1 q2]
            try simp only [awu 141 14, pe141, xs, i_load, i_loadR, i_inc, lg, lp, true_and, and_true, List.length_cons, List.length_nil, Nat.reduceAdd, Nat.reduceLeDiff, Nat.zero_le, Int.toNat_natCast, natLit, k0]
            refine sp_stepOf (fr s3 fr3).1 hm hW ha (show s ≤ M.1 by omega) (show l < a by omega) ?_
            dsimp only
            try simp only [awu 141 14, pe141, xs, i_load, i_loadR, i_inc, lg, lp, true_and, and_true, List.length_cons, List.length_nil, Nat.reduceAdd, Nat.reduceLeDiff, Nat.zero_le, Int.toNat_natCast, natLit, k0, wj ()]
            refine ih s3 (sq M s l) r' (pre ++ [l]) _ (by rw [List.length_append, List.length_singleton]; omega) hsb (by rw [hsx]; omega) (by rw [List.map_append]; exact z1) fr3 (fun ls hls => ?_)
            rw [hsx] at hls
            rw [List.append_assoc]
            refine g6 _ ⟨l, ls, rfl, hpk, ?_⟩
            rw [show r - sN (fun l => cw M a j (fo M (gx M s) l)) l = r' by omega]
            exact hls
          · refine sp_stepOf f1 hm hW ha (show s ≤ M.1 by omega) (show l < a by omega) ?_
            dsimp only
            have wv : Unit → wr ((r' : Int) - ((cw M a j (fo M (gx M s) l) : Nat) : Int)) = ((r' - cw M a j (fo M (gx M s) l) : Nat) : Int) := fun _ => by rw [wr_id (by omega) (by omega)]; omega
            try simp only [awu 141 13, pe141, xs, i_load, i_loadR, i_inc, lg, lp, true_and, and_true, List.length_cons, List.length_nil, Nat.reduceAdd, Nat.reduceLeDiff, Nat.zero_le, Int.toNat_natCast, natLit, k0, k41, l41, w3 (), e41, wv (), wl' ()]
            refine ⟨by omega, ihl (l + 1) _ (by omega) ?_⟩
            rw [sN_s]
            omega
      rw [awu 141 10]
      try simp only [awu 141 11, pe141, xs, i_load, i_loadR, i_inc, lg, lp, true_and, and_true, List.length_cons, List.length_nil, Nat.reduceAdd, Nat.reduceLeDiff, Nat.zero_le, Int.toNat_natCast, natLit, k0]
      exact ⟨fun h => by omega, fun _ => inner a 0 r (by omega) rfl⟩
  have key : ∀ mm n : Nat, ∀ (r : Nat) (u5 u6 u7 : V), n + mm = 11 → r + sN (fun n => cw M a n 0) n = k → AW (P 141) Q (MS (d + 3)) 0 (fun _ => 0) 4 [vr 99, vi m, vi k, vi r, vi n, u5, u6, u7] [] s1 := by
    intro mm
    induction mm with
    | zero =>
      intro n r u5 u6 u7 g1 g2
      have : n = 11 := by omega
      subst this
      rw [awu 141 4]
      try simp only [awu 141 7, awu 141 8, pe141, xs, i_load, i_loadR, i_inc, lg, lp, true_and, and_true, List.length_cons, List.length_nil, Nat.reduceAdd, Nat.reduceLeDiff, Nat.zero_le, Int.toNat_natCast, natLit, k0]
      exact ⟨fun _ => ⟨fun h => absurd h (by decide), fun _ => h2 s1 (by omega) y2⟩, fun h => absurd (by decide) h⟩
    | succ mm ih =>
      intro n r u5 u6 u7 g1 g2
      have wn : Unit → wr ((n : Int) + 1) = ((n + 1 : Nat) : Int) := fun _ => by rw [wr_id (by omega) (by omega)]; omega
      have wn1 : Unit → wr ((n : Int) - 1) = ((n : Int) - 1) := fun _ => by rw [wr_id (by omega) (by omega)]
      have w1 : Unit → wr (201 * (n : Int)) = ((201 * n : Nat) : Int) := fun _ => by rw [wr_id (by omega) (by omega)]; omega
      have e41 := y1 n 0 (by omega) (by omega)
      rw [g0, Nat.add_zero] at e41
      rw [awu 141 4]
      try simp only [awu 141 5, awu 141 6, awu 141 7, awu 141 9, pe141, xs, i_load, i_loadR, i_inc, lg, lp, true_and, and_true, List.length_cons, List.length_nil, Nat.reduceAdd, Nat.reduceLeDiff, Nat.zero_le, Int.toNat_natCast, natLit, k0, k41, l41, w1 (), e41, wn1 ()]
      refine ⟨fun h => by omega, fun _ => ⟨by omega, fun h => ⟨fun _ => ?_, fun h => absurd (by omega) h⟩, fun h => ⟨by omega, ?_⟩⟩⟩
      · refine word n r ⟨by omega, by omega, by rw [sN_s]; omega⟩ g2 n _ 0 r [] _ (by rw [List.length_nil]; omega) (by omega) (by rw [g0]; omega) WRm_0 (fun q i q1 q2 => FrWm_0 q i q1 q2) (fun ls h => ?_)
        rw [g0] at h
        exact h
      · have wv : Unit → wr ((r : Int) - ((cw M a n 0 : Nat) : Int)) = ((r - cw M a n 0 : Nat) : Int) := fun _ => by rw [wr_id (by omega) (by omega)]; omega
        simp only [wv (), wn ()]
        refine ih (n + 1) _ _ _ _ (by omega) ?_
        rw [sN_s]
        omega
  try simp only [awu 141 3, pe141, xs, i_load, i_loadR, i_inc, lg, lp, true_and, and_true, List.length_cons, List.length_nil, Nat.reduceAdd, Nat.reduceLeDiff, Nat.zero_le, Int.toNat_natCast, natLit, k0]
  exact key 11 0 k _ _ _ (by omega) rfl
