/-! two states become one, and all that must (class) -/
def TLt (n : Nat) (T : List (Nat × Nat)) : Prop := ∀ p ∈ T, p.1 < n ∧ p.2 < n
theorem plT_lt {n a b : Nat} {F : FS} {T : List (Nat × Nat)} (hF : FI n F) (ha : a < n) (hb : b < n) (hT : TLt n T) : ∀ l, l ≤ 4 → TLt n (plT F a b T l)
  | 0, _ => hT
  | l + 1, hl => by
    have ih := plT_lt hF ha hb hT l (by omega)
    unfold plT
    split
    · rename_i h
      unfold bth at h
      simp at h
      have h1 := hF.2.2.2 (4 * a + l) (by omega)
      have h2 := hF.2.2.2 (4 * b + l) (by omega)
      intro p hp
      rcases List.mem_cons.mp hp with rfl | hp
      · exact ⟨by dsimp only; omega, by dsimp only; omega⟩
      · exact ih p hp
    · exact ih
theorem bor3 : ∀ x, x < 3 → ∀ y, y < 3 → (bor (x : Nat) (y : Nat) = 3 ↔ (x = 1 ∧ y = 2) ∨ (x = 2 ∧ y = 1)) := by decide +kernel
theorem cR_pos {n : Nat} {F : FS} (hF : FI n F) (hn : 0 < n) : 1 ≤ cR F n := cn_pos (b := 0) hn (by have := hF.1 0 hn; simp; omega)
theorem Sg_len {st : St} {o n lo : Nat} : ∀ {k : Nat} {F G : FS}, Sg st o n lo k F G → cR G n + k = cR F n
  | 0, F, G, h => by
    have h : F = G := h
    rw [h]; rfl
  | k + 1, F, G, ⟨M, a, b, h1, h2, h3, h4, h5, h6, h7, _⟩ => by
    have ih := Sg_len h1
    have := cR_ab (F := M) h2 h3 h5
    rw [h7]
    omega
theorem Sg_FI {st : St} {o n lo : Nat} : ∀ {k : Nat} {F G : FS}, FI n F → Sg st o n lo k F G → FI n G
  | 0, F, G, hF, h => by
    have h : F = G := h
    rw [← h]; exact hF
  | k + 1, F, G, hF, ⟨M, a, b, h1, h2, h3, h4, h5, h6, h7, _⟩ => by
    rw [h7]
    exact ab_FI h6 h2 h3
set_option maxHeartbeats 1000000 in
theorem sp_fjoin {d o n i j J : Nat} {st : St} {F : FS} {Q : Rn} (ho : isFd o) (hn : n ≤ 120) (hC : CR st o n F) (hF : FI n F) (hi : i < n) (hj : j < n) (hJ : st o 12 = J) (hJR : J + cR F n = n)
    (h1 : ∀ (F' : FS) (st' : St) (k : Nat), mg F i j = some F' → CR st' o n F' → st' o 12 = (J + k : Nat) → Sg st' o n J k F F' → (∀ q, q < J → st' (o + 5) q = st (o + 5) q ∧ st' (o + 6) q = st (o + 6) q) → (∀ q, q < o ∨ o + 9 ≤ q → st' q = st q) → Q (vi 1) st')
    (h0 : ∀ st' : St, mg F i j = none → CR st' o n F → st' o 12 = J → (∀ q, q < J → st' (o + 5) q = st (o + 5) q ∧ st' (o + 6) q = st (o + 6) q) → (∀ q, q < o ∨ o + 9 ≤ q → st' q = st q) → Q (vi 0) st') : MS (d + 2) 167 [vr o, vi i, vi j] st Q := by
  obtain ⟨k0, ⟨k1, l1⟩, ⟨k2, l2⟩, ⟨k3, l3⟩, ⟨k4, l4⟩, ⟨k5, l5⟩, ⟨k6, l6⟩, ⟨k7, l7⟩, ⟨k8, l8⟩, -⟩ := id ho
  obtain ⟨h9, -⟩ := id hC
  have hcRl : cR F n ≤ n := cn_le n
  have key : ∀ m t k : Nat, ∀ (s2 : St) (F' : FS) (T : List (Nat × Nat)) (u5 u6 : V), t ≤ 481 → 481 - t = m → CR s2 o n F' → SK s2 o T → TLt n T → s2 o 12 = (J + k : Nat) → Sg s2 o n J k F F' → T.length + 4 * cR F' n + t ≤ 481 → jn (482 - t) F' T = mg F i j → (∀ q, q < J → s2 (o + 5) q = st (o + 5) q ∧ s2 (o + 6) q = st (o + 6) q) → (∀ q, q < o ∨ o + 9 ≤ q → s2 q = st q) → AW (P 167) Q (MS (d + 1)) 0 (fun _ => 0) 6 [vr o, vi i, vi j, vi J, vi t, u5, u6] [] s2 := by
    intro m
    induction m with
    | zero =>
      intro t k s2 F' T u5 u6 g1 g2 g3 g4 g5 g6 g7 g8 g9 g10 g11
      have := cR_pos (Sg_FI hF g7) (show 0 < n by omega)
      omega
    | succ m ih =>
      intro t k s2 F' T u5 u6 g1 g2 g3 g4 g5 g6 g7 g8 g9 g10 g11
      have hF' := Sg_FI hF g7
      have hlen := Sg_len g7
      have hpos := cR_pos hF' (show 0 < n by omega)
      rw [show 482 - t = (481 - t) + 1 by omega] at g9
      match T, g4, g5, g8, g9 with
      | [], g4, g5, g8, g9 =>
        have g9 : some F' = mg F i j := g9
        have hh := h1 F' s2 k g9.symm g3 g6 g7 g10 g11
        have e13 : s2 o 13 = 0 := g4.1
        rw [awu 167 6]
        try simp only [awu 167 7, awu 167 14, pe167, xs, i_load, i_loadR, i_inc, lg, lp, true_and, and_true, List.length_cons, List.length_nil, Nat.reduceAdd, Nat.reduceLeDiff, Nat.zero_le, Int.toNat_natCast, natLit, k0, e13]
        exact ⟨fun h => by omega, fun _ => ⟨fun _ => ⟨ok01_1, hh⟩, fun h => by omega⟩⟩
      | (x, y) :: T, g4, g5, g8, g9 =>
        obtain ⟨hx, hy⟩ := g5 (x, y) List.mem_cons_self
        have hT' : TLt n T := fun p hp => g5 p (List.mem_cons_of_mem _ hp)
        rw [List.length_cons] at g8
        have e13 : s2 o 13 = ((T.length + 1 : Nat) : Int) := g4.1
        have w1 : Unit → wr (((T.length + 1 : Nat) : Int) - 1) = ((T.length : Nat) : Int) := fun _ => by rw [wr_id (by omega) (by omega)]; omega
        have w2 : Unit → wr ((t : Int) + 1) = ((t + 1 : Nat) : Int) := fun _ => by rw [wr_id (by omega) (by omega)]; omega
        obtain ⟨t7, t8⟩ := g4.2 T.length (by simp)
        simp at t7 t8
        have s13 : up2 s2 o 13 (T.length : Nat) o 13 = (T.length : Nat) := by rw [up2_self, upf_s]
        have t7' : up2 s2 o 13 (T.length : Nat) (o + 7) T.length = (x : Nat) := by rw [up2_ne (by omega)]; exact t7
        have t8' : up2 s2 o 13 (T.length : Nat) (o + 8) T.length = (y : Nat) := by rw [up2_ne (by omega)]; exact t8
        have C3 : CR (up2 s2 o 13 (T.length : Nat)) o n F' := by
          obtain ⟨z1, z2, z3, z4, z5⟩ := g3
          refine ⟨?_, fun q hq => ?_, fun q hq => ?_, ?_, ?_⟩
          · rw [up2_at, if_pos rfl, if_neg (by omega)]; exact z1
          · rw [up2_ne (by omega), up2_ne (by omega), up2_ne (by omega)]; exact z2 q hq
          · rw [up2_ne (by omega)]; exact z3 q hq
          · rw [up2_at, if_pos rfl, if_neg (by omega)]; exact z4
          · rw [up2_at, if_pos rfl, if_neg (by omega)]; exact z5
        have J3 : up2 s2 o 13 (T.length : Nat) o 12 = (J + k : Nat) := by rw [up2_at, if_pos rfl, if_neg (by omega)]; exact g6
        have S3 : Sg (up2 s2 o 13 (T.length : Nat)) o n J k F F' := Sg_congr (fun q hq => by rw [up2_ne (by omega), up2_ne (by omega)]; exact ⟨rfl, rfl⟩) g7
        have K3 : SK (up2 s2 o 13 (T.length : Nat)) o T := by
          refine ⟨s13, fun q hq => ?_⟩
          rw [up2_ne (by omega), up2_ne (by omega)]
          have := g4.2 q (by simp; omega)
          rw [List.length_cons, show T.length + 1 - 1 - q = (T.length - 1 - q) + 1 by omega] at this
          simpa using this
        have X10 : ∀ q, q < J → up2 s2 o 13 (T.length : Nat) (o + 5) q = st (o + 5) q ∧ up2 s2 o 13 (T.length : Nat) (o + 6) q = st (o + 6) q := fun q hq => by rw [up2_ne (by omega), up2_ne (by omega)]; exact g10 q hq
        have X11 : ∀ q, q < o ∨ o + 9 ≤ q → up2 s2 o 13 (T.length : Nat) q = st q := fun q hq => by rw [up2_ne (by omega)]; exact g11 q hq
        have hp := rt_le (u := F'.1) x
        have hq := rt_le (u := F'.1) y
        have rp := rt_root hF'.1 x hx
        have rq := rt_root hF'.1 y hy
        rw [awu 167 6]
        try simp only [awu 167 7, awu 167 8, awu 167 14, pe167, xs, i_load, i_loadR, i_inc, lg, lp, true_and, and_true, List.length_cons, List.length_nil, Nat.reduceAdd, Nat.reduceLeDiff, Nat.zero_le, Int.toNat_natCast, natLit, k0, e13, w1 (), s13, k7, l7, t7', k8, l8]
        refine ⟨fun h => by omega, fun _ => ⟨fun h => by omega, fun _ => ⟨by omega, ?_⟩⟩⟩
        refine sp_fnof ho hn C3 hF' hx ?_
        dsimp only
        try simp only [awu 167 8, pe167, xs, i_load, i_loadR, i_inc, lg, lp, true_and, and_true, List.length_cons, List.length_nil, Nat.reduceAdd, Nat.reduceLeDiff, Nat.zero_le, Int.toNat_natCast, natLit, k0, s13, k8, l8, t8']
        refine ⟨by omega, ?_⟩
        refine sp_fnof ho hn C3 hF' hy ?_
        dsimp only
        have ew : jn (481 - t + 1) F' ((x, y) :: T) = (if rt F'.1 x = rt F'.1 y then jn (481 - t) F' T else if (F'.2.1 (rt F'.1 x) = 1 ∧ F'.2.1 (rt F'.1 y) = 2) ∨ (F'.2.1 (rt F'.1 x) = 2 ∧ F'.2.1 (rt F'.1 y) = 1) then none else jn (481 - t) (ab F' (min (rt F'.1 x) (rt F'.1 y)) (max (rt F'.1 x) (rt F'.1 y))) (plT F' (min (rt F'.1 x) (rt F'.1 y)) (max (rt F'.1 x) (rt F'.1 y)) T 4)) := rfl
        rw [ew] at g9
        clear ew
        generalize rt F'.1 x = p at *
        generalize rt F'.1 y = q at *
        have mp : up2 s2 o 13 (T.length : Nat) (o + 2) p = F'.2.1 p := (C3.2.1 p (by omega)).2.1
        have mq : up2 s2 o 13 (T.length : Nat) (o + 2) q = F'.2.1 q := (C3.2.1 q (by omega)).2.1
        have vp := hF'.2.1 p (by omega)
        have vq := hF'.2.1 q (by omega)
        have b3 := bor3 (F'.2.1 p).toNat (by omega) (F'.2.1 q).toNat (by omega)
        rw [show (((F'.2.1 p).toNat : Nat) : Int) = F'.2.1 p by omega, show (((F'.2.1 q).toNat : Nat) : Int) = F'.2.1 q by omega] at b3
        try simp only [awu 167 9, awu 167 10, awu 167 11, awu 167 12, awu 167 13, pe167, xs, i_load, i_loadR, i_inc, lg, lp, true_and, and_true, List.length_cons, List.length_nil, Nat.reduceAdd, Nat.reduceLeDiff, Nat.zero_le, Int.toNat_natCast, natLit, k0, k2, l2, mp, mq, w2 ()]
        refine ⟨fun hne => ⟨by omega, by omega, fun hnc => ?_, fun hcf => ?_⟩, fun heq => ?_⟩
        · -- they become one
          have hpq : p ≠ q := by omega
          rw [if_neg hpq, if_neg (by omega)] at g9
          have emin : (if (p : Int) ≤ (q : Int) then (p : Int) else (q : Int)) = ((min p q : Nat) : Int) := by split <;> omega
          have emax : (if (q : Int) ≤ (p : Int) then (p : Int) else (q : Int)) = ((max p q : Nat) : Int) := by split <;> omega
          rw [emin, emax]
          have umin : F'.1 (min p q) = min p q := by
            rcases Nat.le_total p q with z | z
            · rw [Nat.min_eq_left z]; exact rp
            · rw [Nat.min_eq_right z]; exact rq
          have umax : F'.1 (max p q) = max p q := by
            rcases Nat.le_total p q with z | z
            · rw [Nat.max_eq_right z]; exact rq
            · rw [Nat.max_eq_left z]; exact rp
          have hlt : min p q < max p q := by omega
          have hmx : max p q < n := by omega
          have hcRab := cR_ab (F := F') hlt hmx umax
          have hpl := plT_len (F := F') (a := min p q) (b := max p q) (T := T) 4
          have hpt := plT_lt hF' (show min p q < n by omega) hmx hT' 4 (Nat.le_refl _)
          generalize min p q = a at *
          generalize max p q = b at *
          refine sp_fabs ho hn C3 hF' hlt hmx umin umax J3 (by omega) K3 (by omega) (fun s4 y1 y2 y3 y4 y5 y6 y7 => ?_)
          dsimp only
          try simp only [awu 167 13, pe167, xs, i_load, i_loadR, i_inc, lg, lp, true_and, and_true, List.length_cons, List.length_nil, Nat.reduceAdd, Nat.reduceLeDiff, Nat.zero_le, Int.toNat_natCast, natLit, k0, w2 ()]
          refine ih (t + 1) (k + 1) s4 (ab F' a b) (plT F' a b T 4) _ _ (by omega) (by omega) y1 y2 hpt y3 ⟨F', a, b, Sg_congr y4 S3, hlt, hmx, umin, umax, hF', rfl, y5, y6⟩ (by omega) (by rw [show 482 - (t + 1) = 481 - t by omega]; exact g9) (fun r hr => ?_) (fun r hr => ?_)
          · rw [(y4 r (by omega)).1, (y4 r (by omega)).2]
            exact X10 r hr
          · rw [y7 r (by omega)]
            exact X11 r hr
        · -- it fails
          have hcf : bor (F'.2.1 p) (F'.2.1 q) = 3 := by omega
          have hpq : p ≠ q := by omega
          rw [if_neg hpq, if_pos (by omega)] at g9
          refine sp_ftake ho hn C3 J3 (by omega) S3 (fun s4 y1 y2 y3 y4 => ?_)
          dsimp only
          refine ⟨ok01_0, h0 s4 g9.symm y1 y2 (fun r hr => ?_) (fun r hr => ?_)⟩
          · rw [y4 (o + 5) (by omega), y4 (o + 6) (by omega)]
            exact X10 r hr
          · rw [y4 r (by omega)]
            exact X11 r hr
        · -- they are one
          have hpq : p = q := by omega
          rw [if_pos hpq] at g9
          exact ih (t + 1) k _ F' T _ _ (by omega) (by omega) C3 K3 hT' J3 S3 (by omega) (by rw [show 482 - (t + 1) = 481 - t by omega]; exact g9) X10 X11
  have J3 : up2 (up2 (up2 st (o + 7) 0 i) (o + 8) 0 j) o 13 1 o 12 = J := by
    rw [up2_at, if_pos rfl, if_neg (by omega), up2_ne (by omega), up2_ne (by omega)]
    exact hJ
  refine MS_v [vr o, vi i, vi j, none, none, none, none] rfl rfl k0 rfl ?_
  try simp only [awu 167 0, awu 167 1, awu 167 2, awu 167 3, awu 167 4, awu 167 5, pe167, xs, i_load, i_loadR, i_inc, lg, lp, true_and, and_true, List.length_cons, List.length_nil, Nat.reduceAdd, Nat.reduceLeDiff, Nat.zero_le, Int.toNat_natCast, natLit, k0, h9, hJ, k7, l7, k8, l8]
  refine ⟨fun h => by omega, fun _ => ⟨fun h => by omega, fun _ => ⟨fun h => by omega, fun _ => ⟨fun _ => ⟨by omega, by omega, ?_⟩, fun h => by omega⟩⟩⟩⟩
  have e0 : (Int.toNat 0) = 0 := rfl
  rw [e0]
  refine key 481 0 0 _ F [(i, j)] none none (by omega) rfl ?_ ⟨?_, fun q hq => ?_⟩ ?_ J3 rfl (by simp; omega) rfl (fun q hq => ?_) (fun q hq => ?_)
  · obtain ⟨z1, z2, z3, z4, z5⟩ := hC
    refine ⟨?_, fun q hq => ?_, fun q hq => ?_, ?_, ?_⟩
    · simp only [up2_at]; simp [z1]
    · have := z2 q hq
      simp only [up2_at]
      simp
      exact this
    · have := z3 q hq
      simp only [up2_at]
      simp
      exact this
    · simp only [up2_at]; simp [z4]
    · simp only [up2_at]; simp [z5]
  · simp only [up2_at]
    simp
  · have : q = 0 := by simpa using hq
    subst this
    simp only [up2_at]
    simp
  · intro p hp
    rw [List.mem_singleton.mp hp]
    exact ⟨hi, hj⟩
  · rw [up2_ne (by omega), up2_ne (by omega), up2_ne (by omega), up2_ne (by omega), up2_ne (by omega), up2_ne (by omega)]
    exact ⟨rfl, rfl⟩
  · rw [up2_ne (by omega), up2_ne (by omega), up2_ne (by omega)]
