/-! red and blue -/
def rdB (F : FS) (k : Nat) : Bool := F.1 k == k && F.2.2.1 k == 1
def bhl (F : FS) (n r k : Nat) : Nat → Bool
  | 0 => false
  | l + 1 => bhl F n r k l || (fl F n (r : Int) l == (k : Int))
def bh (F : FS) (n k : Nat) : Nat → Bool
  | 0 => false
  | r + 1 => bh F n k r || (rdB F r && bhl F n r k 4)
def blB (F : FS) (n k : Nat) : Bool := F.1 k == k && !(F.2.2.1 k == 1) && bh F n k n
theorem bhl_s {F : FS} {n r k l : Nat} : bhl F n r k (l + 1) = (bhl F n r k l || (fl F n (r : Int) l == (k : Int))) := rfl
theorem bh_s {F : FS} {n r k : Nat} : bh F n k (r + 1) = (bh F n k r || (rdB F r && bhl F n r k 4)) := rfl
theorem cn_s {p : Nat → Bool} {n : Nat} : cn p (n + 1) = cn p n + (if p n then 1 else 0) := rfl
def Ls (A : Nat → Int) (p : Nat → Bool) (n : Nat) : Prop := ∀ k, k < n → p k = true → A (cn p k) = (k : Nat)
theorem fl_b {n l : Nat} {F : FS} {k : Int} (hF : FI n F) (hl : l < 4) : fl F n k l = -1 ∨ ∃ j, j < n ∧ fl F n k l = (j : Nat) ∧ F.1 j = j := by
  unfold fl
  split
  · rename_i h
    refine Or.inr ⟨rt F.1 (F.2.2.2 (4 * k.toNat + l)).toNat, ?_, rfl, ?_⟩
    · have := hF.2.2.2 (4 * k.toNat + l) (by omega)
      have := rt_le (u := F.1) (F.2.2.2 (4 * k.toNat + l)).toNat
      omega
    · have := hF.2.2.2 (4 * k.toNat + l) (by omega)
      exact rt_root hF.1 _ (by omega)
  · exact Or.inl rfl
theorem bhl_n {n r k : Nat} {F : FS} (hF : FI n F) : ∀ l, l ≤ 4 → bhl F n r k l = true → k < n ∧ F.1 k = k
  | 0, _, h => by simp [bhl] at h
  | l + 1, hl, h => by
    unfold bhl at h
    rw [Bool.or_eq_true] at h
    rcases h with h | h
    · exact bhl_n hF l (by omega) h
    · have h := of_decide_eq_true h
      rcases fl_b (k := (r : Int)) hF (show l < 4 by omega) with e | ⟨j, e1, e2, e3⟩
      · omega
      · have : j = k := by omega
        subst this
        exact ⟨e1, e3⟩
theorem bh_n {n k : Nat} {F : FS} (hF : FI n F) : ∀ r, bh F n k r = true → k < n ∧ F.1 k = k
  | 0, h => by simp [bh] at h
  | r + 1, h => by
    unfold bh at h
    rw [Bool.or_eq_true, Bool.and_eq_true] at h
    rcases h with h | ⟨-, h⟩
    · exact bh_n hF r h
    · exact bhl_n hF 4 (Nat.le_refl _) h
theorem rdB_d {n k : Nat} {F : FS} : rdB F k = true ↔ F.1 k = k ∧ F.2.2.1 k = 1 := by
  unfold rdB
  simp
theorem cn_lt {p : Nat → Bool} : ∀ {n k : Nat}, k < n → p k = true → cn p k < cn p n
  | 0, k, h, _ => by omega
  | n + 1, k, h, hp => by
    rw [show cn p (n + 1) = cn p n + (if p n then 1 else 0) from rfl]
    rcases Nat.lt_or_ge k n with z | z
    · have := cn_lt z hp
      omega
    · have : k = n := by omega
      subst this
      rw [if_pos hp]
      exact Nat.lt_succ_self _
theorem cn_mono {p : Nat → Bool} {n : Nat} : ∀ m, n ≤ m → cn p n ≤ cn p m
  | 0, h => by
    have : n = 0 := by omega
    subst this
    exact Nat.le_refl _
  | m + 1, h => by
    rcases Nat.lt_or_ge n (m + 1) with z | z
    · have := cn_mono (p := p) m (show n ≤ m by omega)
      rw [show cn p (m + 1) = cn p m + (if p m then 1 else 0) from rfl]
      omega
    · have : n = m + 1 := by omega
      subst this
      exact Nat.le_refl _
theorem cn_ix {p : Nat → Bool} : ∀ {n t : Nat}, t < cn p n → ∃ k, k < n ∧ p k = true ∧ cn p k = t
  | 0, t, h => by simp [cn] at h
  | n + 1, t, h => by
    unfold cn at h
    by_cases hp : p n = true
    · rw [if_pos hp] at h
      rcases Nat.lt_or_ge t (cn p n) with z | z
      · obtain ⟨k, h1, h2, h3⟩ := cn_ix z
        exact ⟨k, by omega, h2, h3⟩
      · exact ⟨n, by omega, hp, by omega⟩
    · rw [if_neg hp] at h
      obtain ⟨k, h1, h2, h3⟩ := cn_ix (show t < cn p n by omega)
      exact ⟨k, by omega, h2, h3⟩
def isLn (o : Nat) : Prop := kl o = 1 ∧ isFd (o + 1) ∧ ar (o + 11) 120 ∧ ar (o + 12) 120 ∧ az (o + 13) 120 ∧ ar (o + 14) 200 ∧ ar (o + 15) 200 ∧ ar (o + 16) 200 ∧ ar (o + 17) 200
theorem isLn_13 : isLn 13 := ⟨rfl, isFd_14, ⟨rfl, rfl⟩, ⟨rfl, rfl⟩, ⟨rfl, rfl⟩, ⟨rfl, rfl⟩, ⟨rfl, rfl⟩, ⟨rfl, rfl⟩, ⟨rfl, rfl⟩⟩
theorem isLn_36 : isLn 36 := ⟨rfl, isFd_37, ⟨rfl, rfl⟩, ⟨rfl, rfl⟩, ⟨rfl, rfl⟩, ⟨rfl, rfl⟩, ⟨rfl, rfl⟩, ⟨rfl, rfl⟩, ⟨rfl, rfl⟩⟩
theorem CR_congr {st st' : St} {o n : Nat} {F : FS} (hC : CR st o n F) (h : ∀ q, o ≤ q → q ≤ o + 4 → st' q = st q) : CR st' o n F := by
  unfold CR at *
  rw [h o (by omega) (by omega), h (o + 1) (by omega) (by omega), h (o + 2) (by omega) (by omega), h (o + 3) (by omega) (by omega), h (o + 4) (by omega) (by omega)]
  exact hC
theorem sp_see {d o n k : Nat} {st : St} {F : FS} {Q : Rn} (ho : isLn o) (hn : n ≤ 120) (hC : CR st (o + 1) n F) (hF : FI n F) (h01 : ∀ j, j < 120 → ok01 (st (o + 13) j))
    (hq : ∀ st' : St, (∀ q, q ≠ o + 13 → st' q = st q) → (∀ j, j < 120 → st' (o + 13) j = if bhl F n k j 4 then 1 else st (o + 13) j) → Q none st') : MS (d + 3) 175 [vr o, vi k] st Q := by
  obtain ⟨k0, hf, -, -, ⟨k13, l13⟩, -⟩ := ho
  have key : ∀ m l : Nat, ∀ (s2 : St) (u : V), l + m = 4 → (∀ q, q ≠ o + 13 → s2 q = st q) → (∀ j, j < 120 → s2 (o + 13) j = if bhl F n k j l then 1 else st (o + 13) j) → AW (P 175) Q (MS (d + 2)) 0 (fun _ => 0) 1 [vr o, vi k, vi l, u] [] s2 := by
    intro m
    induction m with
    | zero =>
      intro l s2 u g1 g2 g3
      have : l = 4 := by omega
      subst this
      rw [awu 175 1]
      try simp only [awu 175 6, pe175, xs, i_load, i_loadR, i_inc, lg, lp, true_and, and_true, List.length_cons, List.length_nil, Nat.reduceAdd, Nat.reduceLeDiff, Nat.zero_le, Int.toNat_natCast, natLit, k0]
      exact ⟨fun _ => hq s2 g2 g3, fun h => by omega⟩
    | succ m ih =>
      intro l s2 u g1 g2 g3
      have ew : Unit → wr ((l : Int) + 1) = ((l + 1 : Nat) : Int) := fun _ => by rw [wr_id (by omega) (by omega)]; omega
      rw [awu 175 1]
      try simp only [awu 175 2, pe175, xs, i_load, i_loadR, i_inc, lg, lp, true_and, and_true, List.length_cons, List.length_nil, Nat.reduceAdd, Nat.reduceLeDiff, Nat.zero_le, Int.toNat_natCast, natLit, k0]
      refine ⟨fun h => by omega, fun _ => ?_⟩
      refine sp_ffollow hf hn (CR_congr hC (fun q h1 h2 => g2 q (by omega))) hF (show l < 4 by omega) ?_
      dsimp only
      try simp only [awu 175 3, awu 175 4, awu 175 5, awu 175 6, pe175, xs, i_load, i_loadR, i_inc, lg, lp, true_and, and_true, List.length_cons, List.length_nil, Nat.reduceAdd, Nat.reduceLeDiff, Nat.zero_le, Int.toNat_natCast, natLit, k0, k13, l13, ew ()]
      rcases fl_b (k := (k : Int)) hF (show l < 4 by omega) with e | ⟨j, e1, e2, e3⟩
      · rw [e]
        refine ⟨fun _ => ?_, fun h => absurd (by omega) h⟩
        refine ih (l + 1) s2 _ (by omega) g2 (fun j hj => ?_)
        rw [g3 j hj, bhl_s, e]
        have : ((-1 : Int) == (j : Int)) = false := beq_eq_false_iff_ne.mpr (by omega)
        rw [this, Bool.or_false]
      · rw [e2]
        refine ⟨fun h => by omega, fun _ => ⟨fun h => by omega, fun _ => ⟨by omega, ok01_1, ?_⟩⟩⟩
        rw [Int.toNat_natCast]
        refine ih (l + 1) _ _ (by omega) (fun q hq => ?_) (fun i hi => ?_)
        · funext z
          rw [up2_at, if_neg hq, g2 q hq]
        · rw [up2_self, bhl_s, e2]
          by_cases hij : i = j
          · subst hij
            rw [upf_s]
            simp
          · rw [upf_n hij, g3 i hi]
            have : ((j : Int) == (i : Int)) = false := beq_eq_false_iff_ne.mpr (by omega)
            rw [this, Bool.or_false]
  refine MS_v [vr o, vi k, none, none] rfl rfl k0 rfl ?_
  try simp only [awu 175 0, pe175, xs, i_load, i_loadR, i_inc, lg, lp, true_and, and_true, List.length_cons, List.length_nil, Nat.reduceAdd, Nat.reduceLeDiff, Nat.zero_le, Int.toNat_natCast, natLit, k0]
  exact key 4 0 st none rfl (fun _ _ => rfl) (fun j hj => by simp [bhl])
theorem isN_nat {F : FS} {n k : Nat} (hk : k < n) : isN F n (k : Int) ↔ F.1 k = k := by
  unfold isN
  rw [Int.toNat_natCast]
  exact ⟨fun h => h.2.2, fun h => ⟨by omega, by omega, h⟩⟩
theorem sp_fisRedN {d o n k : Nat} {st : St} {F : FS} {Q : Rn} (ho : isFd o) (hn : n ≤ 120) (hC : CR st o n F) (hF : FI n F) (hk : k < n) (hq : Q (vi (if rdB F k then 1 else 0)) st) : MS (d + 2) 164 [vr o, vi k] st Q := by
  have hr := hF.2.2.1 k hk
  refine sp_fisRed ho hn hC hF (fun h => ?_) (fun h => ?_)
  · rw [isN_nat hk] at h
    rw [Int.toNat_natCast]
    unfold rdB at hq
    rcases hr with e | e
    · rw [e] at hq ⊢
      simpa using hq
    · rw [e] at hq ⊢
      simpa [h] using hq
  · rw [isN_nat hk] at h
    unfold rdB at hq
    simpa [h] using hq
theorem Ls_s {A A' : Nat → Int} {p : Nat → Bool} {n : Nat} (h : Ls A p n) (h1 : ∀ i, i < cn p n → A' i = A i) (h2 : p n = true → A' (cn p n) = (n : Nat)) : Ls A' p (n + 1) := by
  intro k hk hp
  rcases Nat.lt_or_ge k n with z | z
  · rw [h1 _ (cn_lt z hp)]
    exact h k z hp
  · have : k = n := by omega
    subst this
    exact h2 hp
/-- painted -/
def PT (st : St) (o n : Nat) (F : FS) : Prop := st o 8 = (cn (rdB F) n : Nat) ∧ st o 9 = (cn (blB F n) n : Nat) ∧ Ls (st (o + 11)) (rdB F) n ∧ Ls (st (o + 12)) (blB F n) n
set_option maxHeartbeats 1000000 in
theorem sp_paint {d o n : Nat} {st : St} {F : FS} {Q : Rn} (ho : isLn o) (hn : n ≤ 120) (hC : CR st (o + 1) n F) (hF : FI n F)
    (hq : ∀ st' : St, PT st' o n F → (∀ k, k < 120 → st' (o + 13) k = if bh F n k n then 1 else 0) → (∀ q i, ¬ (q = o ∧ (i = 8 ∨ i = 9)) → q ≠ o + 11 → q ≠ o + 12 → q ≠ o + 13 → st' q i = st q i) → Q none st') : MS (d + 4) 174 [vr o] st Q := by
  obtain ⟨k0, hf, ⟨k11, l11⟩, ⟨k12, l12⟩, ⟨k13, l13⟩, -⟩ := id ho
  have h9 : ∀ s2 : St, (∀ q i, ¬ (q = o ∧ (i = 8 ∨ i = 9)) → q ≠ o + 11 → q ≠ o + 12 → q ≠ o + 13 → s2 q i = st q i) → s2 (o + 1) 9 = n ∧ CR s2 (o + 1) n F := fun s2 h => by
    have e : ∀ q, o + 1 ≤ q → q ≤ o + 1 + 4 → s2 q = st q := fun q h1 h2 => by
      funext i
      exact h q i (by omega) (by omega) (by omega) (by omega)
    exact ⟨by rw [e (o + 1) (by omega) (by omega)]; exact hC.1, CR_congr hC e⟩
  have k1 := hf.1
  have key3 : ∀ m k : Nat, ∀ (s2 : St), k + m = n → (∀ q i, ¬ (q = o ∧ (i = 8 ∨ i = 9)) → q ≠ o + 11 → q ≠ o + 12 → q ≠ o + 13 → s2 q i = st q i) → s2 o 8 = (cn (rdB F) n : Nat) → Ls (s2 (o + 11)) (rdB F) n → (∀ j, j < 120 → s2 (o + 13) j = if bh F n j n then 1 else 0) → s2 o 9 = (cn (blB F n) k : Nat) → Ls (s2 (o + 12)) (blB F n) k → AW (P 174) Q (MS (d + 3)) 0 (fun _ => 0) 9 [vr o, vi k] [] s2 := by
    intro m
    induction m with
    | zero =>
      intro k s2 g1 g2 g3 g4 g5 g6 g7
      have : k = n := by omega
      subst this
      rw [awu 174 9]
      try simp only [awu 174 14, pe174, xs, i_load, i_loadR, i_inc, lg, lp, true_and, and_true, List.length_cons, List.length_nil, Nat.reduceAdd, Nat.reduceLeDiff, Nat.zero_le, Int.toNat_natCast, natLit, k0, k1, (h9 s2 g2).1]
      exact ⟨fun _ => hq s2 ⟨g3, g6, g4, g7⟩ g5 g2, fun h => by omega⟩
    | succ m ih =>
      intro k s2 g1 g2 g3 g4 g5 g6 g7
      have hbc : cn (blB F n) k ≤ k := cn_le k
      have ew : Unit → wr ((k : Int) + 1) = ((k + 1 : Nat) : Int) := fun _ => by rw [wr_id (by omega) (by omega)]; omega
      have ew2 : Unit → wr (((cn (blB F n) k : Nat) : Int) + 1) = ((cn (blB F n) k + 1 : Nat) : Int) := fun _ => by rw [wr_id (by omega) (by omega)]; omega
      have e13 := g5 k (by omega)
      have hu := hF.1 k (by omega)
      rw [awu 174 9]
      try simp only [awu 174 10, awu 174 13, pe174, xs, i_load, i_loadR, i_inc, lg, lp, true_and, and_true, List.length_cons, List.length_nil, Nat.reduceAdd, Nat.reduceLeDiff, Nat.zero_le, Int.toNat_natCast, natLit, k0, k1, (h9 s2 g2).1, k13, l13, e13, ew ()]
      refine ⟨fun h => by omega, fun _ => ⟨by omega, ?_⟩⟩
      by_cases hb : bh F n k n = true
      · rw [if_pos hb]
        refine ⟨fun h => absurd h (by decide), fun _ => ?_⟩
        have hname := (bh_n hF n hb).2
        try simp only [awu 174 11, pe174, xs, i_load, i_loadR, i_inc, lg, lp, true_and, and_true, List.length_cons, List.length_nil, Nat.reduceAdd, Nat.reduceLeDiff, Nat.zero_le, Int.toNat_natCast, natLit, k0, k1]
        refine sp_fisRedN hf hn (h9 s2 g2).2 hF (show k < n by omega) ?_
        dsimp only
        try simp only [awu 174 12, awu 174 13, pe174, xs, i_load, i_loadR, i_inc, lg, lp, true_and, and_true, List.length_cons, List.length_nil, Nat.reduceAdd, Nat.reduceLeDiff, Nat.zero_le, Int.toNat_natCast, natLit, k0, k12, l12, g6, ew ()]
        by_cases hr : rdB F k = true
        · rw [if_pos hr]
          refine ⟨fun _ => ?_, fun h => absurd (by decide) h⟩
          have hbl : blB F n k = false := by
            unfold blB
            rw [(rdB_d (n := n)).mp hr |>.2]
            simp
          exact ih (k + 1) s2 (by omega) g2 g3 g4 g5 (by rw [g6, cn_s, hbl]; rfl) (Ls_s g7 (fun _ _ => rfl) (fun h => by rw [hbl] at h; exact absurd h (by decide)))
        · rw [if_neg hr]
          have hbl : blB F n k = true := by
            have hnr : ¬ F.2.2.1 k = 1 := fun h => hr ((rdB_d (n := n)).mpr ⟨hname, h⟩)
            unfold blB
            simp [hb, hname, hnr]
          refine ⟨fun h => absurd rfl h, fun _ => ⟨by omega, ?_⟩⟩
          have e9 : up2 s2 (o + 12) (cn (blB F n) k) (k : Int) o 9 = (cn (blB F n) k : Nat) := by rw [up2_ne (by omega)]; exact g6
          rw [e9, ew2 ()]
          refine ih (k + 1) _ (by omega) (fun q i h1 h2 h3 h4 => ?_) ?_ ?_ (fun j hj => ?_) ?_ ?_
          · rw [up2_at]
            by_cases hqo : q = o
            · subst hqo
              rw [if_pos rfl, if_neg (by omega), up2_ne (by omega)]
              exact g2 q i h1 h2 h3 h4
            · rw [if_neg hqo, up2_ne h3]
              exact g2 q i h1 h2 h3 h4
          · rw [up2_at, if_pos rfl, if_neg (by decide), up2_ne (by omega)]
            exact g3
          · rw [up2_ne (by omega), up2_ne (by omega)]
            exact g4
          · rw [up2_ne (by omega), up2_ne (by omega)]
            exact g5 j hj
          · rw [up2_self, upf_s, cn_s, hbl]
            rfl
          · rw [up2_ne (by omega), up2_self]
            exact Ls_s g7 (fun i hi => upf_n (by omega)) (fun _ => upf_s)
      · rw [if_neg hb]
        refine ⟨fun _ => ?_, fun h => absurd rfl h⟩
        have hbl : blB F n k = false := by
          unfold blB
          simp [hb]
        exact ih (k + 1) s2 (by omega) g2 g3 g4 g5 (by rw [g6, cn_s, hbl]; rfl) (Ls_s g7 (fun _ _ => rfl) (fun h => by rw [hbl] at h; exact absurd h (by decide)))
  have key2 : ∀ m k : Nat, ∀ (s2 : St), k + m = n → (∀ q i, ¬ (q = o ∧ (i = 8 ∨ i = 9)) → q ≠ o + 11 → q ≠ o + 12 → q ≠ o + 13 → s2 q i = st q i) → s2 o 8 = (cn (rdB F) k : Nat) → Ls (s2 (o + 11)) (rdB F) k → (∀ j, j < 120 → s2 (o + 13) j = if bh F n j k then 1 else 0) → s2 o 9 = 0 → AW (P 174) Q (MS (d + 3)) 0 (fun _ => 0) 4 [vr o, vi k] [] s2 := by
    intro m
    induction m with
    | zero =>
      intro k s2 g1 g2 g3 g4 g5 g6
      have : k = n := by omega
      subst this
      rw [awu 174 4]
      try simp only [awu 174 8, pe174, xs, i_load, i_loadR, i_inc, lg, lp, true_and, and_true, List.length_cons, List.length_nil, Nat.reduceAdd, Nat.reduceLeDiff, Nat.zero_le, Int.toNat_natCast, natLit, k0, k1, (h9 s2 g2).1]
      refine ⟨fun _ => ?_, fun h => by omega⟩
      exact key3 k 0 s2 (by omega) g2 g3 g4 g5 (by rw [g6]; rfl) (fun j hj => by omega)
    | succ m ih =>
      intro k s2 g1 g2 g3 g4 g5 g6
      have hbc : cn (rdB F) k ≤ k := cn_le k
      have ew : Unit → wr ((k : Int) + 1) = ((k + 1 : Nat) : Int) := fun _ => by rw [wr_id (by omega) (by omega)]; omega
      have ew2 : Unit → wr (((cn (rdB F) k : Nat) : Int) + 1) = ((cn (rdB F) k + 1 : Nat) : Int) := fun _ => by rw [wr_id (by omega) (by omega)]; omega
      rw [awu 174 4]
      try simp only [awu 174 5, pe174, xs, i_load, i_loadR, i_inc, lg, lp, true_and, and_true, List.length_cons, List.length_nil, Nat.reduceAdd, Nat.reduceLeDiff, Nat.zero_le, Int.toNat_natCast, natLit, k0, k1, (h9 s2 g2).1]
      refine ⟨fun h => by omega, fun _ => ?_⟩
      refine sp_fisRedN hf hn (h9 s2 g2).2 hF (show k < n by omega) ?_
      dsimp only
      try simp only [awu 174 6, awu 174 7, pe174, xs, i_load, i_loadR, i_inc, lg, lp, true_and, and_true, List.length_cons, List.length_nil, Nat.reduceAdd, Nat.reduceLeDiff, Nat.zero_le, Int.toNat_natCast, natLit, k0, k11, l11, g3, ew ()]
      by_cases hr : rdB F k = true
      · rw [if_pos hr]
        refine ⟨fun h => absurd h (by decide), fun _ => ⟨by omega, ?_⟩⟩
        have e8 : up2 s2 (o + 11) (cn (rdB F) k) (k : Int) o 8 = (cn (rdB F) k : Nat) := by rw [up2_ne (by omega)]; exact g3
        rw [e8, ew2 ()]
        generalize hs3 : up2 (up2 s2 (o + 11) (cn (rdB F) k) (k : Int)) o 8 ((cn (rdB F) k + 1 : Nat) : Int) = s3
        have f3 : ∀ q i, ¬ (q = o ∧ i = 8) → q ≠ o + 11 → s3 q i = s2 q i := fun q i h1 h2 => by
          rw [← hs3, up2_at]
          by_cases hqo : q = o
          · subst hqo
            rw [if_pos rfl, if_neg (by omega), up2_ne (by omega)]
          · rw [if_neg hqo, up2_ne h2]
        have c3 : CR s3 (o + 1) n F := CR_congr (h9 s2 g2).2 (fun q h1 h2 => by funext i; exact f3 q i (by omega) (by omega))
        have z3 : ∀ j, s3 (o + 13) j = s2 (o + 13) j := fun j => f3 _ _ (by omega) (by omega)
        refine sp_see ho hn c3 hF (fun j hj => ?_) (fun s4 y1 y2 => ?_)
        · rw [z3, g5 j hj]
          split
          · exact ok01_1
          · exact ok01_0
        · dsimp only
          refine ih (k + 1) s4 (by omega) (fun q i h1 h2 h3 h4 => ?_) ?_ ?_ (fun j hj => ?_) ?_
          · rw [y1 q h4, f3 q i (by omega) h2]
            exact g2 q i h1 h2 h3 h4
          · rw [y1 o (by omega), ← hs3, up2_self, upf_s, cn_s, hr]
            rfl
          · rw [y1 (o + 11) (by omega), ← hs3, up2_ne (by omega), up2_self]
            exact Ls_s g4 (fun i hi => upf_n (by omega)) (fun _ => upf_s)
          · rw [y2 j hj, z3, g5 j hj, bh_s, hr, Bool.true_and]
            cases bhl F n k j 4 <;> cases bh F n j k <;> rfl
          · rw [y1 o (by omega), f3 o 9 (by omega) (by omega)]
            exact g6
      · rw [if_neg hr]
        refine ⟨fun _ => ?_, fun h => absurd rfl h⟩
        have hr : rdB F k = false := by simpa using hr
        exact ih (k + 1) s2 (by omega) g2 (by rw [g3, cn_s, hr]; rfl) (Ls_s g4 (fun _ _ => rfl) (fun h => by rw [hr] at h; exact absurd h (by decide))) (fun j hj => by rw [g5 j hj, bh_s, hr]; simp) g6
  have key1 : ∀ m k : Nat, ∀ (s2 : St), k + m = 120 → (∀ q i, ¬ (q = o ∧ (i = 8 ∨ i = 9)) → q ≠ o + 11 → q ≠ o + 12 → q ≠ o + 13 → s2 q i = st q i) → s2 o 8 = 0 → s2 o 9 = 0 → (∀ j, j < k → s2 (o + 13) j = 0) → AW (P 174) Q (MS (d + 3)) 0 (fun _ => 0) 1 [vr o, vi k] [] s2 := by
    intro m
    induction m with
    | zero =>
      intro k s2 g1 g2 g3 g4 g5
      have : k = 120 := by omega
      subst this
      rw [awu 174 1]
      try simp only [awu 174 3, pe174, xs, i_load, i_loadR, i_inc, lg, lp, true_and, and_true, List.length_cons, List.length_nil, Nat.reduceAdd, Nat.reduceLeDiff, Nat.zero_le, Int.toNat_natCast, natLit, k0]
      refine ⟨fun _ => ?_, fun h => absurd (by decide) h⟩
      exact key2 n 0 s2 (by omega) g2 (by rw [g3]; rfl) (fun j hj => by omega) (fun j hj => by rw [g5 j hj]; rfl) g4
    | succ m ih =>
      intro k s2 g1 g2 g3 g4 g5
      have ew : Unit → wr ((k : Int) + 1) = ((k + 1 : Nat) : Int) := fun _ => by rw [wr_id (by omega) (by omega)]; omega
      rw [awu 174 1]
      try simp only [awu 174 2, pe174, xs, i_load, i_loadR, i_inc, lg, lp, true_and, and_true, List.length_cons, List.length_nil, Nat.reduceAdd, Nat.reduceLeDiff, Nat.zero_le, Int.toNat_natCast, natLit, k0, k13, l13, ew ()]
      refine ⟨fun h => by omega, fun _ => ⟨by omega, ok01_0, ?_⟩⟩
      refine ih (k + 1) _ (by omega) (fun q i h1 h2 h3 h4 => ?_) (by rw [up2_ne (by omega)]; exact g3) (by rw [up2_ne (by omega)]; exact g4) (fun j hj => ?_)
      · rw [up2_ne h4]
        exact g2 q i h1 h2 h3 h4
      · rw [up2_self]
        unfold upf
        split
        · rfl
        · exact g5 j (by omega)
  refine MS_v [vr o, none] rfl rfl k0 rfl ?_
  try simp only [awu 174 0, pe174, xs, i_load, i_loadR, i_inc, lg, lp, true_and, and_true, List.length_cons, List.length_nil, Nat.reduceAdd, Nat.reduceLeDiff, Nat.zero_le, Int.toNat_natCast, natLit, k0]
  refine key1 120 0 _ rfl (fun q i h1 h2 h3 h4 => ?_) ?_ ?_ (fun j hj => by omega)
  · simp only [up2_at]
    by_cases hqo : q = o
    · subst hqo
      simp [show i ≠ 8 by omega, show i ≠ 9 by omega]
    · rw [if_neg hqo, if_neg hqo]
  · simp only [up2_at]
    simp
  · simp only [up2_at]
    simp
theorem blB_bh {n k : Nat} {F : FS} (hF : FI n F) (hr : rdB F k = false) : blB F n k = bh F n k n := by
  unfold blB
  cases hb : bh F n k n
  · simp
  · have := (bh_n hF n hb).2
    have hnr : ¬ F.2.2.1 k = 1 := fun h => by rw [(rdB_d (n := n)).mpr ⟨this, h⟩] at hr; exact absurd hr (by decide)
    simp [this, hnr]
def clr (F : FS) (n k : Nat) : Int := if rdB F (rt F.1 k) then 1 else if blB F n (rt F.1 k) then 2 else 0
theorem sp_colour {d o n k : Nat} {st : St} {F : FS} {Q : Rn} (ho : isLn o) (hn : n ≤ 120) (hC : CR st (o + 1) n F) (hF : FI n F) (hk : k < n)
    (hq : ∀ st' : St, (∀ q i, ¬ (q = o ∧ (i = 8 ∨ i = 9)) → q ≠ o + 11 → q ≠ o + 12 → q ≠ o + 13 → st' q i = st q i) → Q (vi (clr F n k)) st') : MS (d + 5) 176 [vr o, vi k] st Q := by
  obtain ⟨k0, hf, -, -, ⟨k13, l13⟩, -⟩ := id ho
  have hrl := rt_le (u := F.1) k
  unfold clr at hq
  refine MS_v [vr o, vi k, none] rfl rfl k0 rfl ?_
  try simp only [awu 176 0, pe176, xs, i_load, i_loadR, i_inc, lg, lp, true_and, and_true, List.length_cons, List.length_nil, Nat.reduceAdd, Nat.reduceLeDiff, Nat.zero_le, Int.toNat_natCast, natLit, k0]
  refine sp_fnof hf hn hC hF hk ?_
  dsimp only
  try simp only [awu 176 0, pe176, xs, i_load, i_loadR, i_inc, lg, lp, true_and, and_true, List.length_cons, List.length_nil, Nat.reduceAdd, Nat.reduceLeDiff, Nat.zero_le, Int.toNat_natCast, natLit, k0]
  refine sp_fisRedN hf hn hC hF (show rt F.1 k < n by omega) ?_
  dsimp only
  generalize rt F.1 k = r at *
  try simp only [awu 176 1, awu 176 2, pe176, xs, i_load, i_loadR, i_inc, lg, lp, true_and, and_true, List.length_cons, List.length_nil, Nat.reduceAdd, Nat.reduceLeDiff, Nat.zero_le, Int.toNat_natCast, natLit, k0]
  by_cases hr : rdB F r = true
  · rw [if_pos hr]
    rw [if_pos hr] at hq
    exact ⟨fun h => absurd h (by decide), fun _ => hq st (fun _ _ _ _ _ _ => rfl)⟩
  · rw [if_neg hr]
    rw [if_neg hr] at hq
    refine ⟨fun _ => ?_, fun h => absurd rfl h⟩
    refine sp_paint ho hn hC hF (fun s2 y1 y2 y3 => ?_)
    dsimp only
    have e := y2 r (by omega)
    rw [blB_bh hF (by simpa using hr)] at hq
    have hq := hq s2 y3
    try simp only [awu 176 3, awu 176 4, awu 176 5, awu 176 6, awu 176 7, pe176, xs, i_load, i_loadR, i_inc, lg, lp, true_and, and_true, List.length_cons, List.length_nil, Nat.reduceAdd, Nat.reduceLeDiff, Nat.zero_le, Int.toNat_natCast, natLit, k0, k13, l13, e]
    refine ⟨fun h => by omega, fun _ => ⟨fun h => by omega, fun _ => ⟨by omega, ?_⟩⟩⟩
    by_cases hb : bh F n r n = true
    · rw [if_pos hb]
      rw [if_pos hb] at hq
      exact ⟨fun h => absurd h (by decide), fun _ => hq⟩
    · rw [if_neg hb]
      rw [if_neg hb] at hq
      exact ⟨fun _ => hq, fun h => absurd rfl h⟩
