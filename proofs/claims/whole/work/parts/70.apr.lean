/-! the word that tells two machines apart is written: the reference -/
theorem getD_m {w : List Nat} {i : Nat} (h : i < w.length) : (w.map (fun l => 97 + l)).getD i 0 = 97 + w.getD i 0 := by
  rw [List.getD_eq_getElem?_getD, List.getD_eq_getElem?_getD, List.getElem?_map]
  rw [List.getElem?_eq_getElem h]
  rfl
theorem getD_l {w v : List Nat} {i : Nat} (h : i < w.length) : (w ++ v).getD i 0 = w.getD i 0 := by
  rw [List.getD_eq_getElem?_getD, List.getD_eq_getElem?_getD, List.getElem?_append_left h]
theorem getD_r {w v : List Nat} {i : Nat} (h : w.length ≤ i) : (w ++ v).getD i 0 = v.getD (i - w.length) 0 := by
  rw [List.getD_eq_getElem?_getD, List.getD_eq_getElem?_getD, List.getElem?_append_right h]
theorem w8_let4 {j : Nat} (h : j < 4) : w8 (w8 ((97 + j : Nat) : Int)) = ((97 + j : Nat) : Int) := by
  rw [w8_w8, w8_small (by omega) (by omega)]
set_option maxHeartbeats 1000000 in
theorem sp_mapart {d m o a : Nat} {st : St} {M O : MC} {Q : Rn} {u3 u4 u5 : V} (hm : m ≤ 3) (ho : o ≤ 3) (hM : MCm st m M) (hO : MCm st o O) (hMW : MW a M) (hOW : MW a O) (m0 : 0 < M.1) (o0 : 0 < O.1) (ha : a ≤ 4) (hl : st 99 2 = a) (hb : ∀ w, AP M O a w → w.length ≤ 8000)
    (h1 : ∀ (st' : St) (w : List Nat), AP M O a w → WRm st' (w.map (fun l => 97 + l)) → (∀ q i, ¬ (q = 99 ∧ (i = 52 ∨ i = 62)) → ¬ (131 ≤ q ∧ q ≤ 135) → q ≠ 144 → st' q i = st q i) → Q (vi (w.length : Nat)) st')
    (h0 : ∀ (st' : St), (∀ v, Lw a v → ¬ Df M O v) → FrQ st st' → Q (vi (-2)) st') : AW (P 131) Q (MS (d + 3)) 0 (fun _ => 0) 2 [vr 99, vi m, vi o, u3, u4, u5] [] st := by
  have k0 : kl 99 = 12 := rfl
  have k33 : kl 133 = 50 := rfl
  have l33 : len 133 = 40401 := rfl
  have k34 : kl 134 = 50 := rfl
  have l34 : len 134 = 40401 := rfl
  have k44 : kl 144 = 51 := rfl
  have l44 : len 144 = 8000 := rfl
  rw [awu 131 2]
  try simp only [awu 131 2, pe131, xs, i_load, i_loadR, i_inc, lg, lp, true_and, and_true, List.length_cons, List.length_nil, Nat.reduceAdd, Nat.reduceLeDiff, Nat.zero_le, Int.toNat_natCast, natLit, k0]
  refine sp_differs hm ho hM hO hMW hOW m0 o0 ha hl (fun s1 n k W y1 y2 y3 y4 y5 y6 => ?_) (fun s1 y1 y2 => ?_)
  · dsimp only
    have hlen := hb _ y4
    -- the letters are written
    have wrt : ∀ mm x : Nat, ∀ (s2 : St) (suf : List Nat), x < mm → x < n → W k = W x ++ suf → s2 99 62 = ((W k).length : Nat) → (∀ q i, ¬ (q = 99 ∧ i = 62) → q ≠ 144 → s2 q i = s1 q i) → (∀ i, (W x).length ≤ i → i < (W k).length → s2 144 i = ((97 + (W k).getD i 0 : Nat) : Int)) → AW (P 131) Q (MS (d + 3)) 0 (fun _ => 0) 8 [vr 99, vi m, vi o, vi k, vi ((W x).length : Nat), vi x] [] s2 := by
      intro mm
      induction mm with
      | zero => intro x s2 suf g0; omega
      | succ mm ih =>
        intro x s2 suf g0 g1 g2 g3 g4 g5
        rcases Nat.eq_zero_or_pos x with zx | zx
        · subst zx
          have e33 : s2 133 0 = -1 := by rw [g4 133 0 (by omega) (by omega)]; exact y5.1
          rw [awu 131 8]
          try simp only [awu 131 10, pe131, xs, i_load, i_loadR, i_inc, lg, lp, true_and, and_true, List.length_cons, List.length_nil, Nat.reduceAdd, Nat.reduceLeDiff, Nat.zero_le, Int.toNat_natCast, natLit, k0, k33, l33, show ((0 : Nat) : Int).toNat = 0 from rfl, e33, g3]
          refine ⟨by omega, fun _ => h1 s2 (W k) y4 ⟨by rw [List.length_map]; exact g3, fun i hi => ?_⟩ (fun q i q1 q2 q3 => ?_), fun h => absurd (by trivial) h⟩
          · rw [List.length_map] at hi
            rw [getD_m hi]
            exact g5 i (by rw [y3]; exact Nat.zero_le _) hi
          · rw [g4 q i (by omega) q3]
            exact y6 q i (by omega) (by omega)
        · obtain ⟨p, j, p1, p2, p3, p4, p5⟩ := y5.2 x zx g1
          have e33 : s2 133 x = (p : Nat) := by rw [g4 133 x (by omega) (by omega)]; exact p3
          have e34 : s2 134 x = (j : Nat) := by rw [g4 134 x (by omega) (by omega)]; exact p4
          have elen : (W x).length = (W p).length + 1 := by rw [p5, List.length_append]; rfl
          have hxk : (W x).length ≤ (W k).length := by rw [g2, List.length_append]; omega
          have wn : Unit → wr (((W x).length : Int) + -1) = ((W p).length : Nat) := fun _ => by rw [wr_id (by omega) (by omega)]; omega
          have w97 : Unit → wr (97 + (j : Int)) = ((97 + j : Nat) : Int) := fun _ => by rw [wr_id (by omega) (by omega)]; omega
          have e33' : ∀ i v, up2 s2 144 i v 133 x = (p : Nat) := fun i v => by rw [up2_ne (by decide)]; exact e33
          rw [awu 131 8]
          try simp only [awu 131 9, pe131, xs, i_load, i_loadR, i_inc, lg, lp, true_and, and_true, List.length_cons, List.length_nil, Nat.reduceAdd, Nat.reduceLeDiff, Nat.zero_le, Int.toNat_natCast, natLit, k0, k33, l33, k34, l34, k44, l44, e33, e34, wn (), w97 (), e33']
          refine ⟨by omega, fun h => by omega, fun _ => ⟨by omega, by omega, by omega, ?_⟩⟩
          refine ih p _ (j :: suf) (by omega) (by omega) (by rw [g2, p5, List.append_assoc]; rfl) (by rw [up2_ne (by decide)]; exact g3) (fun q i q1 q2 => by rw [up2_ne q2]; exact g4 q i q1 q2) (fun i i1 i2 => ?_)
          rw [up2_self]
          by_cases zi : i = (W p).length
          · rw [zi, upf_s, w8_let4 (by omega)]
            have : (W k).getD (W p).length 0 = j := by
              rw [g2, p5, List.append_assoc, getD_r (Nat.le_refl _), Nat.sub_self]
              rfl
            rw [this]
          · rw [upf_n zi]
            exact g5 i (by omega) i2
    have cnt : ∀ mm x : Nat, ∀ (suf : List Nat), x < mm → x < n → W k = W x ++ suf → AW (P 131) Q (MS (d + 3)) 0 (fun _ => 0) 5 [vr 99, vi m, vi o, vi k, vi (suf.length : Nat), vi x] [] s1 := by
      intro mm
      induction mm with
      | zero => intro x suf g0; omega
      | succ mm ih =>
        intro x suf g0 g1 g2
        rcases Nat.eq_zero_or_pos x with zx | zx
        · subst zx
          have e33 := y5.1
          have esuf : suf = W k := by rw [g2, y3]; rfl
          rw [awu 131 5]
          try simp only [awu 131 7, pe131, xs, i_load, i_loadR, i_inc, lg, lp, true_and, and_true, List.length_cons, List.length_nil, Nat.reduceAdd, Nat.reduceLeDiff, Nat.zero_le, Int.toNat_natCast, natLit, k0, k33, l33, show ((0 : Nat) : Int).toNat = 0 from rfl, e33]
          refine ⟨by omega, fun _ => ?_, fun h => absurd (by trivial) h⟩
          rw [esuf]
          refine wrt (k + 1) k _ [] (by omega) y1 (List.append_nil _).symm (by rw [up2_self, upf_s]) (fun q i q1 q2 => ?_) (fun i i1 i2 => by omega)
          rw [up2_at]
          by_cases z : q = 99
          · subst z
            rw [if_pos rfl, if_neg (by omega)]
          · rw [if_neg z]
        · obtain ⟨p, j, p1, p2, p3, p4, p5⟩ := y5.2 x zx g1
          have hsl : (W k).length = (W x).length + suf.length := by rw [g2, List.length_append]
          have wn : Unit → wr ((suf.length : Int) + 1) = ((j :: suf).length : Nat) := fun _ => by rw [wr_id (by omega) (by omega), List.length_cons]; omega
          rw [awu 131 5]
          try simp only [awu 131 6, pe131, xs, i_load, i_loadR, i_inc, lg, lp, true_and, and_true, List.length_cons, List.length_nil, Nat.reduceAdd, Nat.reduceLeDiff, Nat.zero_le, Int.toNat_natCast, natLit, k0, k33, l33, p3, wn ()]
          refine ⟨by omega, fun h => by omega, fun _ => ⟨by omega, ?_⟩⟩
          exact ih p (j :: suf) (by omega) (by omega) (by rw [g2, p5, List.append_assoc]; rfl)
    try simp only [awu 131 2, awu 131 4, pe131, xs, i_load, i_loadR, i_inc, lg, lp, true_and, and_true, List.length_cons, List.length_nil, Nat.reduceAdd, Nat.reduceLeDiff, Nat.zero_le, Int.toNat_natCast, natLit, k0]
    exact ⟨fun _ => cnt (k + 1) k [] (by omega) y1 (List.append_nil _).symm, fun h => absurd (by omega) h⟩
  · dsimp only
    try simp only [awu 131 2, awu 131 3, pe131, xs, i_load, i_loadR, i_inc, lg, lp, true_and, and_true, List.length_cons, List.length_nil, Nat.reduceAdd, Nat.reduceLeDiff, Nat.zero_le, Int.toNat_natCast, natLit, k0]
    exact ⟨fun h => absurd (by trivial) h, fun _ => h0 s1 y1 y2⟩
