/-! deeds of the class -/
def CD (st : St) (o n : Nat) (F0 : FS) : List Dd → FS → Nat → Prop
  | [], F, J => F = F0 ∧ J = 0
  | d :: D, F, J => ∃ (M : FS) (JM : Nat), CD st o n F0 D M JM ∧ JM ≤ J ∧ st (o + 14) D.length = (d.1 : Nat) ∧ st (o + 15) D.length = d.2.1 ∧ st (o + 16) D.length = d.2.2 ∧ st (o + 17) D.length = (JM : Nat) ∧ Dok n M d F ∧ (d.2.1 = -1 → J = JM) ∧ (d.2.1 ≠ -1 → ∃ k, J = JM + k ∧ Sg st (o + 1) n JM k M F)
theorem CD_congr {st st' : St} {o n : Nat} {F0 : FS} : ∀ {D : List Dd} {F : FS} {J : Nat}, (∀ i, i < D.length → st' (o + 14) i = st (o + 14) i ∧ st' (o + 15) i = st (o + 15) i ∧ st' (o + 16) i = st (o + 16) i ∧ st' (o + 17) i = st (o + 17) i) → (∀ i, i < J → st' (o + 6) i = st (o + 6) i ∧ st' (o + 7) i = st (o + 7) i) → CD st o n F0 D F J → CD st' o n F0 D F J
  | [], F, J, _, _, h => h
  | d :: D, F, J, h1, h2, h => by
    obtain ⟨M, JM, g1, g2, g3, g4, g5, g6, g7, g8, g9⟩ := h
    obtain ⟨e1, e2, e3, e4⟩ := h1 D.length (by simp)
    refine ⟨M, JM, CD_congr (fun i hi => h1 i (by simp; omega)) (fun i hi => h2 i (by omega)) g1, g2, by rw [e1]; exact g3, by rw [e2]; exact g4, by rw [e3]; exact g5, by rw [e4]; exact g6, g7, g8, fun hne => ?_⟩
    obtain ⟨k, a1, a2⟩ := g9 hne
    exact ⟨k, a1, Sg_congr (fun i hi => h2 i (by omega)) a2⟩
def LC (st : St) (o n : Nat) (F0 : FS) (D : List Dd) (F : FS) : Prop := CR st (o + 1) n F ∧ FI n F ∧ (∃ J : Nat, st (o + 1) 12 = J ∧ J + cR F n = n ∧ CD st o n F0 D F J) ∧ st o 10 = (D.length : Nat) ∧ D.length ≤ 200
def FrL (o : Nat) (st st' : St) : Prop := (∀ q, q < o ∨ o + 17 < q → st' q = st q) ∧ st' o 8 = st o 8 ∧ st' o 9 = st o 9 ∧ st' (o + 11) = st (o + 11) ∧ st' (o + 12) = st (o + 12)
theorem FrL_r {o : Nat} {st : St} : FrL o st st := ⟨fun _ _ => rfl, rfl, rfl, rfl, rfl⟩
theorem FrL_t {o : Nat} {s1 s2 s3 : St} (h1 : FrL o s1 s2) (h2 : FrL o s2 s3) : FrL o s1 s3 :=
  ⟨fun q hq => by rw [h2.1 q hq, h1.1 q hq], by rw [h2.2.1, h1.2.1], by rw [h2.2.2.1, h1.2.2.1], by rw [h2.2.2.2.1, h1.2.2.2.1], by rw [h2.2.2.2.2, h1.2.2.2.2]⟩
theorem PT_fr {st st' : St} {o n : Nat} {F : FS} (h : FrL o st st') (hp : PT st o n F) : PT st' o n F := by
  obtain ⟨-, h1, h2, h3, h4⟩ := h
  unfold PT
  rw [h1, h2, h3, h4]
  exact hp
theorem sp_note {d o c : Nat} {st : St} {b r s a : Int} {Q : Rn} (ho : isLn o) (hc : st o 10 = c) (hc2 : c < 200)
    (hq : ∀ st' : St, st' o 10 = (c + 1 : Nat) → st' (o + 14) c = b → st' (o + 15) c = r → st' (o + 16) c = s → st' (o + 17) c = a → (∀ q i, ¬ (q = o ∧ i = 10) → ¬ (o + 14 ≤ q ∧ q ≤ o + 17 ∧ i = c) → st' q i = st q i) → Q none st') : MS (d + 1) 183 [vr o, vi b, vi r, vi s, vi a] st Q := by
  obtain ⟨k0, -, -, -, -, ⟨k14, l14⟩, ⟨k15, l15⟩, ⟨k16, l16⟩, ⟨k17, l17⟩⟩ := id ho
  have w : Unit → wr ((c : Int) + 1) = ((c + 1 : Nat) : Int) := fun _ => by rw [wr_id (by omega) (by omega)]; omega
  have e1 : ∀ v, up2 st (o + 14) c v o 10 = c := fun v => by rw [up2_ne (by omega)]; exact hc
  have e2 : ∀ v v2, up2 (up2 st (o + 14) c v) (o + 15) c v2 o 10 = c := fun v v2 => by rw [up2_ne (by omega)]; exact e1 v
  have e3 : ∀ v v2 v3, up2 (up2 (up2 st (o + 14) c v) (o + 15) c v2) (o + 16) c v3 o 10 = c := fun v v2 v3 => by rw [up2_ne (by omega)]; exact e2 v v2
  have e4 : ∀ v v2 v3 v4, up2 (up2 (up2 (up2 st (o + 14) c v) (o + 15) c v2) (o + 16) c v3) (o + 17) c v4 o 10 = c := fun v v2 v3 v4 => by rw [up2_ne (by omega)]; exact e3 v v2 v3
  refine MS_v [vr o, vi b, vi r, vi s, vi a] rfl rfl k0 rfl ?_
  try simp only [awu 183 0, pe183, xs, i_load, i_loadR, i_inc, lg, lp, true_and, and_true, List.length_cons, List.length_nil, Nat.reduceAdd, Nat.reduceLeDiff, Nat.zero_le, Int.toNat_natCast, natLit, k0, k14, l14, k15, l15, k16, l16, k17, l17, hc, e1, e2, e3, e4, w ()]
  refine ⟨by omega, by omega, by omega, by omega, ?_⟩
  refine hq _ ?_ ?_ ?_ ?_ ?_ (fun q i h1 h2 => ?_)
  · rw [up2_self, upf_s]
  · rw [up2_ne (by omega), up2_ne (by omega), up2_ne (by omega), up2_ne (by omega), up2_self, upf_s]
  · rw [up2_ne (by omega), up2_ne (by omega), up2_ne (by omega), up2_self, upf_s]
  · rw [up2_ne (by omega), up2_ne (by omega), up2_self, upf_s]
  · rw [up2_ne (by omega), up2_self, upf_s]
  · simp only [up2_at]
    by_cases q0 : q = o
    · subst q0
      simp [show i ≠ 10 by omega]
    · rw [if_neg q0]
      by_cases q1 : q = o + 17
      · subst q1
        simp [show i ≠ c by omega]
      · rw [if_neg q1]
        by_cases q2 : q = o + 16
        · subst q2
          simp [show i ≠ c by omega]
        · rw [if_neg q2]
          by_cases q3 : q = o + 15
          · subst q3
            simp [show i ≠ c by omega]
          · rw [if_neg q3]
            by_cases q4 : q = o + 14
            · subst q4
              simp [show i ≠ c by omega]
            · rw [if_neg q4]
theorem sp_doMerge {d o n i j : Nat} {st : St} {F0 F : FS} {D : List Dd} {s : Int} {Q : Rn} (ho : isLn o) (hn : n ≤ 120) (hC : LC st o n F0 D F) (hD : D.length < 200) (hi : i < n) (hj : j < n) (hij : i ≠ j) (ui : F.1 i = i) (uj : F.1 j = j)
    (h1 : ∀ (F' : FS) (st' : St), mg F i j = some F' → LC st' o n F0 ((i, (j : Int), s) :: D) F' → FrL o st st' → Q (vi 1) st')
    (h0 : ∀ st' : St, mg F i j = none → LC st' o n F0 D F → FrL o st st' → Q (vi 0) st') : MS (d + 3) 181 [vr o, vi i, vi j, vi s] st Q := by
  obtain ⟨c1, c2, ⟨J, j1, j2, j3⟩, c4, c5⟩ := id hC
  obtain ⟨k0, hf, -⟩ := id ho
  have k1 := hf.1
  refine MS_v [vr o, vi i, vi j, vi s, none] rfl rfl k0 rfl ?_
  try simp only [awu 181 0, awu 181 1, pe181, xs, i_load, i_loadR, i_inc, lg, lp, true_and, and_true, List.length_cons, List.length_nil, Nat.reduceAdd, Nat.reduceLeDiff, Nat.zero_le, Int.toNat_natCast, natLit, k0, k1, j1, c4]
  refine ⟨fun h => by omega, fun _ => ?_⟩
  refine sp_funl hf hn c1 (fun _ _ _ => ?_) (fun h => absurd ⟨by omega, (isN_nat hi).mpr ui, (isN_nat hj).mpr uj⟩ h)
  dsimp only
  try simp only [awu 181 2, pe181, xs, i_load, i_loadR, i_inc, lg, lp, true_and, and_true, List.length_cons, List.length_nil, Nat.reduceAdd, Nat.reduceLeDiff, Nat.zero_le, Int.toNat_natCast, natLit, k0, k1]
  refine ⟨fun h => absurd h (by decide), fun _ => ?_⟩
  refine sp_fjoin hf hn c1 c2 hi hj j1 j2 (fun F' s2 k g1 g2 g3 g4 g5 g6 => ?_) (fun s2 g1 g2 g3 g5 g6 => ?_)
  · dsimp only
    have e10 : s2 o 10 = (D.length : Nat) := by rw [g6 o (by omega)]; exact c4
    try simp only [awu 181 4, pe181, xs, i_load, i_loadR, i_inc, lg, lp, true_and, and_true, List.length_cons, List.length_nil, Nat.reduceAdd, Nat.reduceLeDiff, Nat.zero_le, Int.toNat_natCast, natLit, k0, k1]
    refine ⟨fun _ => ?_, fun h => absurd (by decide) h⟩
    refine sp_note ho e10 hD (fun s3 y1 y2 y3 y4 y5 y6 => ?_)
    dsimp only
    have e3 : ∀ q, o + 1 ≤ q → q < o + 14 → s3 q = s2 q := fun q a1 a2 => by
      funext z
      exact y6 q z (by omega) (by omega)
    have hI := mg_I (q := 0) c2 hi hj g1
    have hl := Sg_len g4
    refine ⟨ok01_1, h1 F' s3 g1 ⟨CR_congr g2 (fun q a1 a2 => e3 q (by omega) (by omega)), hI.1, ⟨J + k, by rw [e3 (o + 1) (by omega) (by omega)]; exact g3, by omega, F, J, ?_, by omega, y2, y3, y4, y5, Or.inr ⟨j, rfl, hi, hj, g1⟩, fun h => by dsimp only at h; omega, fun _ => ⟨k, rfl, ?_⟩⟩, ?_, ?_⟩ ⟨fun q hq => ?_, ?_, ?_, ?_, ?_⟩⟩
    · refine CD_congr (fun q hq => ?_) (fun q hq => ?_) j3
      · rw [y6 _ q (by omega) (by omega), y6 _ q (by omega) (by omega), y6 _ q (by omega) (by omega), y6 _ q (by omega) (by omega), g6 _ (by omega), g6 _ (by omega), g6 _ (by omega), g6 _ (by omega)]
        exact ⟨rfl, rfl, rfl, rfl⟩
      · rw [e3 _ (by omega) (by omega), e3 _ (by omega) (by omega)]
        exact g5 q hq
    · exact Sg_congr (fun q hq => by rw [e3 _ (by omega) (by omega), e3 _ (by omega) (by omega)]; exact ⟨rfl, rfl⟩) g4
    · rw [y1]
      rfl
    · simp
      omega
    · rw [← g6 q (by omega)]
      funext z
      exact y6 q z (by omega) (by omega)
    · rw [y6 o 8 (by omega) (by omega), g6 o (by omega)]
    · rw [y6 o 9 (by omega) (by omega), g6 o (by omega)]
    · rw [e3 _ (by omega) (by omega), g6 _ (by omega)]
    · rw [e3 _ (by omega) (by omega), g6 _ (by omega)]
  · dsimp only
    try simp only [awu 181 3, pe181, xs, i_load, i_loadR, i_inc, lg, lp, true_and, and_true, List.length_cons, List.length_nil, Nat.reduceAdd, Nat.reduceLeDiff, Nat.zero_le, Int.toNat_natCast, natLit, k0]
    refine ⟨fun h => absurd trivial h, fun _ => ⟨ok01_0, h0 s2 g1 ⟨g2, c2, ⟨J, g3, j2, CD_congr (fun q hq => ?_) g5 j3⟩, ?_, c5⟩ ⟨fun q hq => g6 q (by omega), ?_, ?_, g6 _ (by omega), g6 _ (by omega)⟩⟩⟩
    · rw [g6 _ (by omega), g6 _ (by omega), g6 _ (by omega), g6 _ (by omega)]
      exact ⟨rfl, rfl, rfl, rfl⟩
    · rw [g6 o (by omega)]
      exact c4
    · rw [g6 o (by omega)]
    · rw [g6 o (by omega)]
theorem sp_doRedden {d o n i : Nat} {st : St} {F0 F : FS} {D : List Dd} {Q : Rn} (ho : isLn o) (hn : n ≤ 120) (hC : LC st o n F0 D F) (hD : D.length < 200) (hi : i < n) (ui : F.1 i = i) (ri : F.2.2.1 i = 0)
    (hq : ∀ st' : St, LC st' o n F0 ((i, -1, 0) :: D) (rdn F i 1) → FrL o st st' → Q none st') : MS (d + 3) 182 [vr o, vi i] st Q := by
  obtain ⟨c1, c2, ⟨J, j1, j2, j3⟩, c4, c5⟩ := id hC
  obtain ⟨k0, hf, -⟩ := id ho
  have k1 := hf.1
  refine MS_v [vr o, vi i] rfl rfl k0 rfl ?_
  try simp only [awu 182 0, awu 182 1, pe182, xs, i_load, i_loadR, i_inc, lg, lp, true_and, and_true, List.length_cons, List.length_nil, Nat.reduceAdd, Nat.reduceLeDiff, Nat.zero_le, Int.toNat_natCast, natLit, k0, k1, c4]
  refine ⟨fun h => by omega, fun _ => ?_⟩
  refine sp_fredden hf hn c1 ok01_1 hi ui ?_
  dsimp only
  have f2 : ∀ q, q ≠ o + 4 → up2 st (o + 1 + 3) i 1 q = st q := fun q hq => up2_ne hq
  have cr2 := CR_rdn (k := i) (v := 1) c1
  generalize up2 st (o + 1 + 3) i 1 = s2 at *
  have e12 : s2 (o + 1) 12 = J := by rw [f2 _ (by omega)]; exact j1
  have e10 : s2 o 10 = (D.length : Nat) := by rw [f2 _ (by omega)]; exact c4
  try simp only [awu 182 1, pe182, xs, i_load, i_loadR, i_inc, lg, lp, true_and, and_true, List.length_cons, List.length_nil, Nat.reduceAdd, Nat.reduceLeDiff, Nat.zero_le, Int.toNat_natCast, natLit, k0, k1, e12]
  refine sp_note ho e10 hD (fun s3 y1 y2 y3 y4 y5 y6 => ?_)
  dsimp only
  try simp only [awu 182 2, pe182, xs, i_load, i_loadR, i_inc, lg, lp, true_and, and_true, List.length_cons, List.length_nil, Nat.reduceAdd, Nat.reduceLeDiff, Nat.zero_le, Int.toNat_natCast, natLit, k0]
  have e3 : ∀ q, o + 1 ≤ q → q < o + 14 → s3 q = s2 q := fun q a1 a2 => by
    funext z
    exact y6 q z (by omega) (by omega)
  refine hq s3 ⟨CR_congr cr2 (fun q a1 a2 => e3 q (by omega) (by omega)), rdn_FI c2 ok01_1, ⟨J, by rw [e3 (o + 1) (by omega) (by omega)]; exact e12, j2, F, J, ?_, Nat.le_refl _, y2, y3, y4, y5, Or.inl ⟨rfl, hi, ui, ri, rfl⟩, fun _ => rfl, fun h => absurd rfl h⟩, y1, ?_⟩ ⟨fun q hq => ?_, ?_, ?_, ?_, ?_⟩
  · refine CD_congr (fun q hq => ?_) (fun q hq => ?_) j3
    · rw [y6 _ q (by omega) (by omega), y6 _ q (by omega) (by omega), y6 _ q (by omega) (by omega), y6 _ q (by omega) (by omega), f2 _ (by omega), f2 _ (by omega), f2 _ (by omega), f2 _ (by omega)]
      exact ⟨rfl, rfl, rfl, rfl⟩
    · rw [e3 _ (by omega) (by omega), e3 _ (by omega) (by omega), f2 _ (by omega), f2 _ (by omega)]
      exact ⟨rfl, rfl⟩
  · simp
    omega
  · rw [← f2 q (by omega)]
    funext z
    exact y6 q z (by omega) (by omega)
  · rw [y6 o 8 (by omega) (by omega), f2 o (by omega)]
  · rw [y6 o 9 (by omega) (by omega), f2 o (by omega)]
  · rw [e3 _ (by omega) (by omega), f2 _ (by omega)]
  · rw [e3 _ (by omega) (by omega), f2 _ (by omega)]
