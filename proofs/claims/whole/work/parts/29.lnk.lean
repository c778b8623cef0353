/-! nodes are linked -/
theorem noF_fun {f : Nat → Nat} {n w : Nat} {r r' : Int} (h : noF f n w r) (h' : noF f n w r') : r = r' := by
  rcases noF_d h with ⟨i, a, b, e⟩ | ⟨a, e⟩
  · rw [e, h'.1 i a b]
  · rw [e, h'.2 a]
set_option maxHeartbeats 1000000 in
theorem sp_tlink {d o n c : Nat} {st : St} {f e : Nat → Nat} {lo : Int} {Q : Rn} (ho : isTr o) (ho8 : 8 ≤ o) (hc : st o 4 = n) (hn : n ≤ 120) (hf : ∀ k, k < n → st (o + 1) k = f k) (hnd : ND f n) (hsc : st 5 2 = c) (hc40 : c ≤ 40) (he : ∀ i, i < c → st 6 i = e i) (h01 : ∀ i, i < c → ok01 (st 7 i)) (hin : ∀ i, i < c → (i : Int) ≠ lo → Mm f n (e i)) (hinj : ∀ i j, i < c → j < c → e i = e j → i = j)
    (hq : ∀ st' : St, (∀ j, j ≠ o + 2 → j ≠ o + 3 → j ≠ o + 4 → st' j = st j) → TM f n (st' (o + 2)) (ExR e (st 7) c lo) → TP f n (st' (o + 3)) → TC f n (st' (o + 4)) → Q none st') : MS (d + 3) 258 [vr o, vr 5, vi lo] st Q := by
  obtain ⟨k0, ⟨k1, l1⟩, ⟨k2, l2⟩, ⟨k3, l3⟩, k4, l4⟩ := id ho
  obtain ⟨hs, hn1, hf0, hw⟩ := id hnd
  have k5 : kl 5 = 7 := rfl
  -- the marks
  have L3 : ∀ m k : Nat, ∀ (s3 : St) (u : V), k ≤ c → c - k = m → (∀ j, j ≠ o + 2 → j ≠ o + 3 → j ≠ o + 4 → s3 j = st j) → TM f n (s3 (o + 2)) (ExR e (st 7) k lo) → TP f n (s3 (o + 3)) → TC f n (s3 (o + 4)) → AW (P 258) Q (MS (d + 2)) 0 (fun _ => 0) 14 [vr o, vr 5, vi lo, vi k, u] [] s3 := by
    intro m
    induction m with
    | zero =>
      intro k s3 u g1 g2 g3 g4 g5 g6
      have : k = c := by omega
      subst this
      have hsc' : s3 5 2 = k := by rw [g3 5 (by omega) (by omega) (by omega)]; exact hsc
      rw [awu 258 14]
      try simp only [awu 258 24, pe258, xs, i_load, i_loadR, i_inc, lg, lp, true_and, and_true, List.length_cons, List.length_nil, Nat.reduceAdd, Nat.reduceLeDiff, Nat.zero_le, Int.toNat_natCast, natLit, k0, k5, hsc']
      exact ⟨fun _ => hq s3 g3 g4 g5 g6, fun h => by omega⟩
    | succ m ih =>
      intro k s3 u g1 g2 g3 g4 g5 g6
      have hsc' : s3 5 2 = c := by rw [g3 5 (by omega) (by omega) (by omega)]; exact hsc
      have hc' : s3 o 4 = n := by rw [g3 o (by omega) (by omega) (by omega)]; exact hc
      have hf' : ∀ k, k < n → s3 (o + 1) k = f k := fun i hi => by rw [g3 (o + 1) (by omega) (by omega) (by omega)]; exact hf i hi
      have h01' : ∀ i, i < c → ok01 (s3 7 i) := fun i hi => by rw [g3 7 (by omega) (by omega) (by omega)]; exact h01 i hi
      have ew : Unit → wr ((k : Int) + 1) = ((k + 1 : Nat) : Int) := fun _ => by rw [wr_id (by omega) (by omega)]; omega
      by_cases hlo : (k : Int) = lo
      · rw [awu 258 14]
        try simp only [awu 258 15, awu 258 16, awu 258 18, awu 258 19, awu 258 23, pe258, xs, i_load, i_loadR, i_inc, lg, lp, true_and, and_true, List.length_cons, List.length_nil, Nat.reduceAdd, Nat.reduceLeDiff, Nat.zero_le, Int.toNat_natCast, natLit, k0, k5, hsc', ew ()]
        refine ⟨fun h => by omega, fun _ => ⟨fun h => absurd hlo h, fun _ => ⟨fun _ => ?_, fun h => absurd trivial h⟩⟩⟩
        refine ih (k + 1) s3 _ (by omega) (by omega) g3 (fun i hi => ?_) g5 g6
        obtain ⟨a, b⟩ := g4 i hi
        constructor
        · rintro v ⟨j, h1, h2, h3, h4⟩
          exact a v ⟨j, by omega, h2, h3, h4⟩
        · intro h
          exact b (fun v ⟨j, h1, h2, h3, h4⟩ => h v ⟨j, by omega, h2, h3, h4⟩)
      · obtain ⟨q, hq1, hq2⟩ := hin k (by omega) hlo
        rw [awu 258 14]
        try simp only [awu 258 15, awu 258 17, pe258, xs, i_load, i_loadR, i_inc, lg, lp, true_and, and_true, List.length_cons, List.length_nil, Nat.reduceAdd, Nat.reduceLeDiff, Nat.zero_le, Int.toNat_natCast, natLit, k0, k5, hsc']
        refine ⟨fun h => by omega, fun _ => ⟨fun _ => ?_, fun h => absurd (by omega) hlo⟩⟩
        refine sp_scode hsc' hc40 ?_
        dsimp only
        rw [if_pos (by omega), Int.toNat_natCast, g3 6 (by omega) (by omega) (by omega), he k (by omega)]
        refine sp_tno ho hc' hn hf' hs (fun r hr => ?_)
        have er : r = (q : Nat) := hr.1 q hq1 hq2
        subst er
        dsimp only
        try simp only [awu 258 18, awu 258 19, awu 258 23, pe258, xs, i_load, i_loadR, i_inc, lg, lp, true_and, and_true, List.length_cons, List.length_nil, Nat.reduceAdd, Nat.reduceLeDiff, Nat.zero_le, Int.toNat_natCast, natLit, k0, k5, hsc', k2, l2, ew ()]
        refine ⟨fun h => by omega, fun _ => ?_⟩
        refine sp_sisIn hsc' hc40 h01' ?_
        dsimp only
        rw [if_pos (by omega), Int.toNat_natCast, g3 7 (by omega) (by omega) (by omega)]
        try simp only [awu 258 20, awu 258 21, awu 258 22, awu 258 23, pe258, xs, i_load, i_loadR, i_inc, lg, lp, true_and, and_true, List.length_cons, List.length_nil, Nat.reduceAdd, Nat.reduceLeDiff, Nat.zero_le, Int.toNat_natCast, natLit, k0, k5, hsc', k2, l2, ew ()]
        have fin : ∀ v : Int, v = (if st 7 k = 1 then 1 else 2) → AW (P 258) Q (MS (d + 2)) 0 (fun _ => 0) 14 [vr o, vr 5, vi lo, vi (k + 1 : Nat), vi q] [] (up2 s3 (o + 2) q v) := by
          intro v hv
          refine ih (k + 1) _ _ (by omega) (by omega) (fun j a b g => by rw [up2_ne a]; exact g3 j a b g) (fun i hi => ?_) (by rw [up2_ne (by omega)]; exact g5) (by rw [up2_ne (by omega)]; exact g6)
          rw [up2_self]
          by_cases hiq : i = q
          · subst hiq
            rw [upf_s]
            constructor
            · rintro w ⟨j, h1, h2, h3, h4⟩
              have : j = k := hinj j k (by omega) (by omega) (by rw [h3, hq2])
              subst this
              rw [hv, h4]
            · intro h
              exact absurd ⟨k, by omega, hlo, hq2.symm, rfl⟩ (h (st 7 k))
          · rw [upf_n hiq]
            obtain ⟨a, b⟩ := g4 i hi
            have nk : ∀ w j, j < k + 1 → (j : Int) ≠ lo → e j = f i → st 7 j = w → j < k := by
              intro w j h1 h2 h3 h4
              rcases Nat.lt_or_ge j k with z | z
              · exact z
              · have : j = k := by omega
                subst this
                exact absurd (Srt_inj hs hi hq1 (by rw [← h3, ← hq2])) hiq
            constructor
            · rintro w ⟨j, h1, h2, h3, h4⟩
              exact a w ⟨j, nk w j h1 h2 h3 h4, h2, h3, h4⟩
            · intro h
              exact b (fun w ⟨j, h1, h2, h3, h4⟩ => h w ⟨j, by omega, h2, h3, h4⟩)
        rcases h01 k (by omega) with e7 | e7
        · refine ⟨fun _ => ⟨by omega, fin 2 (by rw [e7]; rfl)⟩, fun h => absurd e7 h⟩
        · refine ⟨fun h => by omega, fun _ => ⟨by omega, fin 1 (by rw [e7]; rfl)⟩⟩
  -- the ways up and down
  have L2 : ∀ m k : Nat, ∀ (s2 : St) (u : V), 1 ≤ k → k ≤ n → n - k = m → (∀ j, j ≠ o + 2 → j ≠ o + 3 → j ≠ o + 4 → s2 j = st j) → (∀ i, i < n → s2 (o + 2) i = 0) → (s2 (o + 3) 0 = -1 ∧ ∀ i, 0 < i → i < k → ∃ b, b < i ∧ s2 (o + 3) i = (b : Nat) ∧ f b = bg (f i) (wl (f i) - 1)) → (∀ i l, i < n → l < 4 → noF f k (lw (f i) l) (s2 (o + 4) (4 * i + l))) → AW (P 258) Q (MS (d + 2)) 0 (fun _ => 0) 8 [vr o, vr 5, vi lo, vi k, u] [] s2 := by
    intro m
    induction m with
    | zero =>
      intro k s2 u g1 g2 g3 g4 g5 g6 g7
      have : k = n := by omega
      subst this
      have hc' : s2 o 4 = k := by rw [g4 o (by omega) (by omega) (by omega)]; exact hc
      rw [awu 258 8]
      try simp only [awu 258 13, pe258, xs, i_load, i_loadR, i_inc, lg, lp, true_and, and_true, List.length_cons, List.length_nil, Nat.reduceAdd, Nat.reduceLeDiff, Nat.zero_le, Int.toNat_natCast, natLit, k0, k5, hc']
      exact ⟨fun _ => L3 c 0 s2 u (Nat.zero_le _) rfl g4 (fun i hi => ⟨fun v ⟨j, h1, _⟩ => by omega, fun _ => g5 i hi⟩) g6 g7, fun h => by omega⟩
    | succ m ih =>
      intro k s2 u g1 g2 g3 g4 g5 g6 g7
      have hc' : s2 o 4 = n := by rw [g4 o (by omega) (by omega) (by omega)]; exact hc
      have hf' : ∀ k, k < n → s2 (o + 1) k = f k := fun i hi => by rw [g4 (o + 1) (by omega) (by omega) (by omega)]; exact hf i hi
      obtain ⟨w1, w2⟩ := hw k (by omega)
      obtain ⟨w3, b, hb1, hb2⟩ := w2 (by omega)
      have hwl := wf_lt w1
      have hbk := ND_par hnd (show k < n by omega) (by omega) hb1 hb2
      have ew : Unit → wr ((k : Int) + 1) = ((k + 1 : Nat) : Int) := fun _ => by rw [wr_id (by omega) (by omega)]; omega
      have ew2 : Unit → wr (((wl (f k) : Nat) : Int) - 1) = ((wl (f k) - 1 : Nat) : Int) := fun _ => by rw [wr_id (by have := w1.1; omega) (by have := w1.1; omega)]; omega
      rw [awu 258 8]
      try simp only [awu 258 9, awu 258 10, awu 258 13, pe258, xs, i_load, i_loadR, i_inc, lg, lp, true_and, and_true, List.length_cons, List.length_nil, Nat.reduceAdd, Nat.reduceLeDiff, Nat.zero_le, Int.toNat_natCast, natLit, k0, k5, hc', k1, l1, hf' k (by omega)]
      refine ⟨fun h => by omega, fun _ => ⟨fun h => by omega, fun _ => ⟨by omega, by omega, ?_⟩⟩⟩
      refine sp_len (by omega) ?_
      dsimp only
      try simp only [awu 258 10, pe258, xs, i_load, i_loadR, i_inc, lg, lp, true_and, and_true, List.length_cons, List.length_nil, Nat.reduceAdd, Nat.reduceLeDiff, Nat.zero_le, Int.toNat_natCast, natLit, ew2 ()]
      refine sp_begin (by omega) w1.1 (by omega) ?_
      dsimp only
      refine sp_tno ho hc' hn hf' hs (fun r hr => ?_)
      have er : r = (b : Nat) := hr.1 b hb1 hb2
      subst er
      have hf2 : up2 s2 (o + 3) k (b : Nat) (o + 1) k = f k := by rw [up2_ne (by omega)]; exact hf' k (by omega)
      dsimp only
      have em : Unit → wr ((b : Int) * 4) = ((b * 4 : Nat) : Int) := fun _ => by rw [wr_id (by omega) (by omega)]; omega
      try simp only [awu 258 11, awu 258 12, pe258, xs, i_load, i_loadR, i_inc, lg, lp, true_and, and_true, List.length_cons, List.length_nil, Nat.reduceAdd, Nat.reduceLeDiff, Nat.zero_le, Int.toNat_natCast, natLit, k0, k1, l1, k3, l3, k4, l4, hf2, em (), ew ()]
      refine ⟨fun h => by omega, fun _ => ⟨by omega, by omega, ?_⟩⟩
      refine sp_last (by omega) ?_
      dsimp only
      have em2 : Unit → wr (((b * 4 : Nat) : Int) + ((f k % 4 : Nat) : Int)) = ((4 * b + f k % 4 : Nat) : Int) := fun _ => by rw [wr_id (by omega) (by omega)]; omega
      try simp only [awu 258 12, pe258, xs, i_load, i_loadR, i_inc, lg, lp, true_and, and_true, List.length_cons, List.length_nil, Nat.reduceAdd, Nat.reduceLeDiff, Nat.zero_le, Int.toNat_natCast, natLit, k4, l4, em2 (), ew ()]
      refine ⟨by omega, ?_⟩
      refine ih (k + 1) _ _ (by omega) (by omega) (by omega) (fun j q1 q2 q3 => by rw [up2_ne q3, up2_ne q2]; exact g4 j q1 q2 q3) (fun i hi => by rw [up2_ne (by omega), up2_ne (by omega)]; exact g5 i hi) ⟨?_, ?_⟩ ?_
      · rw [up2_ne (by omega), up2_self, upf_n (by omega)]
        exact g6.1
      · intro i h1 h2
        rw [up2_ne (by omega), up2_self]
        by_cases hik : i = k
        · subst hik
          rw [upf_s]
          exact ⟨b, hbk, rfl, hb2⟩
        · rw [upf_n hik]
          exact g6.2 i h1 (by omega)
      · intro i l hi hl
        have hbl := bg_lw w1 w3
        rw [up2_self, up2_ne (by omega)]
        obtain ⟨x1, x2⟩ := g7 i l hi hl
        by_cases hx : 4 * i + l = 4 * b + f k % 4
        · have hib : i = b := by omega
          have hll : l = f k % 4 := by omega
          subst hib
          subst hll
          rw [upf_s]
          constructor
          · intro j hj ej
            rw [hb2, hbl] at ej
            rw [Srt_inj hs (show j < n by omega) (show k < n by omega) ej]
          · intro h
            exact absurd (by rw [hb2, hbl]) (h k (by omega))
        · rw [upf_n hx]
          have nk : ∀ j, j < k + 1 → f j = lw (f i) l → j < k := by
            intro j hj ej
            rcases Nat.lt_or_ge j k with z | z
            · exact z
            · exfalso
              have hjk : j = k := by omega
              subst hjk
              obtain ⟨wi, -⟩ := hw i hi
              have hwi : wl (f i) ≤ 9 := by
                have e1 := wl_lw (w := f i) (l := l) hl
                rw [← ej] at e1
                have := w1.1
                omega
              obtain ⟨-, y2, y3, y4⟩ := lw_bg wi hwi hl
              rw [← ej] at y2 y3 y4
              have : f i = f b := by rw [hb2, y2, Nat.add_sub_cancel, y3]
              have := Srt_inj hs hi hb1 this
              omega
          constructor
          · intro j hj ej
            exact x1 j (nk j hj ej) ej
          · intro h
            exact x2 (fun j hj => h j (by omega))
  -- all is cleared
  have L1 : ∀ m k : Nat, ∀ (s1' : St) (u : V), k ≤ n → n - k = m → (∀ j, j ≠ o + 2 → j ≠ o + 3 → j ≠ o + 4 → s1' j = st j) → (∀ i, i < k → s1' (o + 2) i = 0 ∧ s1' (o + 3) i = -1) → (∀ i, i < 4 * k → s1' (o + 4) i = -1) → AW (P 258) Q (MS (d + 2)) 0 (fun _ => 0) 1 [vr o, vr 5, vi lo, vi k, u] [] s1' := by
    intro m
    induction m with
    | zero =>
      intro k s1' u g1 g2 g3 g4 g5
      have : k = n := by omega
      subst this
      have hc' : s1' o 4 = k := by rw [g3 o (by omega) (by omega) (by omega)]; exact hc
      rw [awu 258 1]
      try simp only [awu 258 7, pe258, xs, i_load, i_loadR, i_inc, lg, lp, true_and, and_true, List.length_cons, List.length_nil, Nat.reduceAdd, Nat.reduceLeDiff, Nat.zero_le, Int.toNat_natCast, natLit, k0, k5, hc']
      refine ⟨fun _ => L2 (k - 1) 1 s1' u (Nat.le_refl _) hn1 rfl g3 (fun i hi => (g4 i hi).1) ⟨(g4 0 (by omega)).2, fun i a b => by omega⟩ (fun i l hi hl => ?_), fun h => by omega⟩
      rw [g5 _ (by omega)]
      constructor
      · intro j hj ej
        have : j = 0 := by omega
        subst this
        rw [hf0] at ej
        unfold lw at ej
        omega
      · intro _
        rfl
    | succ m ih =>
      intro k s1' u g1 g2 g3 g4 g5
      have hc' : s1' o 4 = n := by rw [g3 o (by omega) (by omega) (by omega)]; exact hc
      have ew : Unit → wr ((k : Int) + 1) = ((k + 1 : Nat) : Int) := fun _ => by rw [wr_id (by omega) (by omega)]; omega
      have inner : ∀ q l : Nat, ∀ s4 : St, l ≤ 4 → 4 - l = q → (∀ j, j ≠ o + 2 → j ≠ o + 3 → j ≠ o + 4 → s4 j = st j) → (∀ i, i < k + 1 → s4 (o + 2) i = 0 ∧ s4 (o + 3) i = -1) → (∀ i, i < 4 * k + l → s4 (o + 4) i = -1) → AW (P 258) Q (MS (d + 2)) 0 (fun _ => 0) 4 [vr o, vr 5, vi lo, vi k, vi l] [] s4 := by
        intro q
        induction q with
        | zero =>
          intro l s4 a1 a2 a3 a4 a5
          have : l = 4 := by omega
          subst this
          rw [awu 258 4]
          try simp only [awu 258 6, pe258, xs, i_load, i_loadR, i_inc, lg, lp, true_and, and_true, List.length_cons, List.length_nil, Nat.reduceAdd, Nat.reduceLeDiff, Nat.zero_le, Int.toNat_natCast, natLit, k0, ew ()]
          exact ⟨fun _ => ih (k + 1) s4 _ (by omega) (by omega) a3 a4 (fun i hi => a5 i (by omega)), fun h => by omega⟩
        | succ q ihq =>
          intro l s4 a1 a2 a3 a4 a5
          have e1 : Unit → wr ((k : Int) * 4) = ((4 * k : Nat) : Int) := fun _ => by rw [wr_id (by omega) (by omega)]; omega
          have e2 : Unit → wr (((4 * k : Nat) : Int) + l) = ((4 * k + l : Nat) : Int) := fun _ => by rw [wr_id (by omega) (by omega)]; omega
          have e3 : Unit → wr ((l : Int) + 1) = ((l + 1 : Nat) : Int) := fun _ => by rw [wr_id (by omega) (by omega)]; omega
          rw [awu 258 4]
          try simp only [awu 258 5, awu 258 6, pe258, xs, i_load, i_loadR, i_inc, lg, lp, true_and, and_true, List.length_cons, List.length_nil, Nat.reduceAdd, Nat.reduceLeDiff, Nat.zero_le, Int.toNat_natCast, natLit, k0, k4, l4, e1 (), e2 (), e3 ()]
          refine ⟨fun h => by omega, fun _ => ⟨by omega, ?_⟩⟩
          refine ihq (l + 1) _ (by omega) (by omega) (fun j q1 q2 q3 => by rw [up2_ne q3]; exact a3 j q1 q2 q3) (fun i hi => by rw [up2_ne (by omega), up2_ne (by omega)]; exact a4 i hi) (fun i hi => ?_)
          rw [up2_self]
          by_cases z : i = 4 * k + l
          · subst z
            rw [upf_s]
          · rw [upf_n z]
            exact a5 i (by omega)
      rw [awu 258 1]
      try simp only [awu 258 2, awu 258 3, pe258, xs, i_load, i_loadR, i_inc, lg, lp, true_and, and_true, List.length_cons, List.length_nil, Nat.reduceAdd, Nat.reduceLeDiff, Nat.zero_le, Int.toNat_natCast, natLit, k0, hc', k2, l2, k3, l3]
      refine ⟨fun h => by omega, fun _ => ⟨fun h => by omega, fun _ => ⟨by omega, by omega, ?_⟩⟩⟩
      refine inner 4 0 _ (by omega) rfl (fun j q1 q2 q3 => by rw [up2_ne q2, up2_ne q1]; exact g3 j q1 q2 q3) (fun i hi => ?_) (fun i hi => by rw [up2_ne (by omega), up2_ne (by omega)]; exact g5 i (by omega))
      rw [up2_ne (by omega), up2_self, up2_self, up2_ne (by omega)]
      by_cases z : i = k
      · subst z
        rw [upf_s, upf_s]
        exact ⟨rfl, rfl⟩
      · rw [upf_n z, upf_n z]
        exact g4 i (by omega)
  refine MS_v [vr o, vr 5, vi lo, none, none] rfl rfl k0 rfl ?_
  try simp only [awu 258 0, pe258, xs, i_load, i_loadR, i_inc, lg, lp, true_and, and_true, List.length_cons, List.length_nil, Nat.reduceAdd, Nat.reduceLeDiff, Nat.zero_le, Int.toNat_natCast, natLit, k0]
  exact L1 n 0 st none (Nat.zero_le _) rfl (fun _ _ _ _ => rfl) (fun i hi => by omega) (fun i hi => by omega)
